theorem dX0_init_0 : decode cX0_init 0 = .ok (.aload_n 0, 1) := by decide +kernel
theorem dX0_init_1 : decode cX0_init 1 = .ok (.invokespecial 3, 3) := by decide +kernel
theorem dX0_init_4 : decode cX0_init 4 = .ok (.aload_n 0, 1) := by decide +kernel
theorem dX0_init_5 : decode cX0_init 5 = .ok (.bipush 80, 2) := by decide +kernel
theorem dX0_init_7 : decode cX0_init 7 = .ok (.newarray .int, 2) := by decide +kernel
theorem dX0_init_9 : decode cX0_init 9 = .ok (.putfield 9, 3) := by decide +kernel
theorem dX0_init_12 : decode cX0_init 12 = .ok (.aload_n 0, 1) := by decide +kernel
theorem dX0_init_13 : decode cX0_init 13 = .ok (.bipush 80, 2) := by decide +kernel
theorem dX0_init_15 : decode cX0_init 15 = .ok (.newarray .int, 2) := by decide +kernel
theorem dX0_init_17 : decode cX0_init 17 = .ok (.putfield 15, 3) := by decide +kernel
theorem dX0_init_20 : decode cX0_init 20 = .ok (.aload_n 0, 1) := by decide +kernel
theorem dX0_init_21 : decode cX0_init 21 = .ok (.bipush 80, 2) := by decide +kernel
theorem dX0_init_23 : decode cX0_init 23 = .ok (.newarray .int, 2) := by decide +kernel
theorem dX0_init_25 : decode cX0_init 25 = .ok (.putfield 18, 3) := by decide +kernel
theorem dX0_init_28 : decode cX0_init 28 = .ok (.aload_n 0, 1) := by decide +kernel
theorem dX0_init_29 : decode cX0_init 29 = .ok (.bipush 80, 2) := by decide +kernel
theorem dX0_init_31 : decode cX0_init 31 = .ok (.newarray .int, 2) := by decide +kernel
theorem dX0_init_33 : decode cX0_init 33 = .ok (.putfield 21, 3) := by decide +kernel
theorem dX0_init_36 : decode cX0_init 36 = .ok (.return_, 1) := by decide +kernel
theorem dX0_readPayments_0 : decode cX0_readPayments 0 = .ok (.aload_n 0, 1) := by decide +kernel
theorem dX0_readPayments_1 : decode cX0_readPayments 1 = .ok (.iconst 0, 1) := by decide +kernel
theorem dX0_readPayments_2 : decode cX0_readPayments 2 = .ok (.putfield 24, 3) := by decide +kernel
theorem dX0_readPayments_5 : decode cX0_readPayments 5 = .ok (.iconst 0, 1) := by decide +kernel
theorem dX0_readPayments_6 : decode cX0_readPayments 6 = .ok (.istore 4, 2) := by decide +kernel
theorem dX0_readPayments_8 : decode cX0_readPayments 8 = .ok (.iload 4, 2) := by decide +kernel
theorem dX0_readPayments_10 : decode cX0_readPayments 10 = .ok (.aload_n 1, 1) := by decide +kernel
theorem dX0_readPayments_11 : decode cX0_readPayments 11 = .ok (.getfield 28, 3) := by decide +kernel
theorem dX0_readPayments_14 : decode cX0_readPayments 14 = .ok (.if_icmp .ge 114, 3) := by decide +kernel
theorem dX0_readPayments_17 : decode cX0_readPayments 17 = .ok (.aload_n 0, 1) := by decide +kernel
theorem dX0_readPayments_18 : decode cX0_readPayments 18 = .ok (.getfield 24, 3) := by decide +kernel
theorem dX0_readPayments_21 : decode cX0_readPayments 21 = .ok (.iload_n 3, 1) := by decide +kernel
theorem dX0_readPayments_22 : decode cX0_readPayments 22 = .ok (.if_icmp .lt 8, 3) := by decide +kernel
theorem dX0_readPayments_25 : decode cX0_readPayments 25 = .ok (.iconst (-1), 1) := by decide +kernel
theorem dX0_readPayments_26 : decode cX0_readPayments 26 = .ok (.iload 4, 2) := by decide +kernel
theorem dX0_readPayments_28 : decode cX0_readPayments 28 = .ok (.isub, 1) := by decide +kernel
theorem dX0_readPayments_29 : decode cX0_readPayments 29 = .ok (.ireturn, 1) := by decide +kernel
theorem dX0_readPayments_30 : decode cX0_readPayments 30 = .ok (.aload_n 1, 1) := by decide +kernel
theorem dX0_readPayments_31 : decode cX0_readPayments 31 = .ok (.iload 4, 2) := by decide +kernel
theorem dX0_readPayments_33 : decode cX0_readPayments 33 = .ok (.iload_n 2, 1) := by decide +kernel
theorem dX0_readPayments_34 : decode cX0_readPayments 34 = .ok (.invokevirtual 33, 3) := by decide +kernel
theorem dX0_readPayments_37 : decode cX0_readPayments 37 = .ok (.istore 5, 2) := by decide +kernel
theorem dX0_readPayments_39 : decode cX0_readPayments 39 = .ok (.iload 5, 2) := by decide +kernel
theorem dX0_readPayments_41 : decode cX0_readPayments 41 = .ok (.ifCond .ge 8, 3) := by decide +kernel
theorem dX0_readPayments_44 : decode cX0_readPayments 44 = .ok (.iconst (-1), 1) := by decide +kernel
theorem dX0_readPayments_45 : decode cX0_readPayments 45 = .ok (.iload 4, 2) := by decide +kernel
theorem dX0_readPayments_47 : decode cX0_readPayments 47 = .ok (.isub, 1) := by decide +kernel
theorem dX0_readPayments_48 : decode cX0_readPayments 48 = .ok (.ireturn, 1) := by decide +kernel
theorem dX0_readPayments_49 : decode cX0_readPayments 49 = .ok (.aload_n 1, 1) := by decide +kernel
theorem dX0_readPayments_50 : decode cX0_readPayments 50 = .ok (.iload 4, 2) := by decide +kernel
theorem dX0_readPayments_52 : decode cX0_readPayments 52 = .ok (.iconst 1, 1) := by decide +kernel
theorem dX0_readPayments_53 : decode cX0_readPayments 53 = .ok (.iadd, 1) := by decide +kernel
theorem dX0_readPayments_54 : decode cX0_readPayments 54 = .ok (.iload_n 2, 1) := by decide +kernel
theorem dX0_readPayments_55 : decode cX0_readPayments 55 = .ok (.invokevirtual 33, 3) := by decide +kernel
theorem dX0_readPayments_58 : decode cX0_readPayments 58 = .ok (.istore 6, 2) := by decide +kernel
theorem dX0_readPayments_60 : decode cX0_readPayments 60 = .ok (.iload 6, 2) := by decide +kernel
theorem dX0_readPayments_62 : decode cX0_readPayments 62 = .ok (.ifCond .lt 10, 3) := by decide +kernel
theorem dX0_readPayments_65 : decode cX0_readPayments 65 = .ok (.iload 6, 2) := by decide +kernel
theorem dX0_readPayments_67 : decode cX0_readPayments 67 = .ok (.iload 5, 2) := by decide +kernel
theorem dX0_readPayments_69 : decode cX0_readPayments 69 = .ok (.if_icmp .ne 10, 3) := by decide +kernel
theorem dX0_readPayments_72 : decode cX0_readPayments 72 = .ok (.iconst (-1), 1) := by decide +kernel
theorem dX0_readPayments_73 : decode cX0_readPayments 73 = .ok (.iload 4, 2) := by decide +kernel
theorem dX0_readPayments_75 : decode cX0_readPayments 75 = .ok (.iconst 1, 1) := by decide +kernel
theorem dX0_readPayments_76 : decode cX0_readPayments 76 = .ok (.iadd, 1) := by decide +kernel
theorem dX0_readPayments_77 : decode cX0_readPayments 77 = .ok (.isub, 1) := by decide +kernel
theorem dX0_readPayments_78 : decode cX0_readPayments 78 = .ok (.ireturn, 1) := by decide +kernel
theorem dX0_readPayments_79 : decode cX0_readPayments 79 = .ok (.aload_n 1, 1) := by decide +kernel
theorem dX0_readPayments_80 : decode cX0_readPayments 80 = .ok (.iload 4, 2) := by decide +kernel
theorem dX0_readPayments_82 : decode cX0_readPayments 82 = .ok (.iconst 2, 1) := by decide +kernel
theorem dX0_readPayments_83 : decode cX0_readPayments 83 = .ok (.iadd, 1) := by decide +kernel
theorem dX0_readPayments_84 : decode cX0_readPayments 84 = .ok (.iconst 4, 1) := by decide +kernel
theorem dX0_readPayments_85 : decode cX0_readPayments 85 = .ok (.invokevirtual 37, 3) := by decide +kernel
theorem dX0_readPayments_88 : decode cX0_readPayments 88 = .ok (.istore 7, 2) := by decide +kernel
theorem dX0_readPayments_90 : decode cX0_readPayments 90 = .ok (.iload 7, 2) := by decide +kernel
theorem dX0_readPayments_92 : decode cX0_readPayments 92 = .ok (.ifCond .ge 6, 3) := by decide +kernel
theorem dX0_readPayments_95 : decode cX0_readPayments 95 = .ok (.iload 7, 2) := by decide +kernel
theorem dX0_readPayments_97 : decode cX0_readPayments 97 = .ok (.ireturn, 1) := by decide +kernel
theorem dX0_readPayments_98 : decode cX0_readPayments 98 = .ok (.iload 7, 2) := by decide +kernel
theorem dX0_readPayments_100 : decode cX0_readPayments 100 = .ok (.ifCond .ne 10, 3) := by decide +kernel
theorem dX0_readPayments_103 : decode cX0_readPayments 103 = .ok (.iconst (-1), 1) := by decide +kernel
theorem dX0_readPayments_104 : decode cX0_readPayments 104 = .ok (.iload 4, 2) := by decide +kernel
theorem dX0_readPayments_106 : decode cX0_readPayments 106 = .ok (.iconst 5, 1) := by decide +kernel
theorem dX0_readPayments_107 : decode cX0_readPayments 107 = .ok (.iadd, 1) := by decide +kernel
theorem dX0_readPayments_108 : decode cX0_readPayments 108 = .ok (.isub, 1) := by decide +kernel
theorem dX0_readPayments_109 : decode cX0_readPayments 109 = .ok (.ireturn, 1) := by decide +kernel
theorem dX0_readPayments_110 : decode cX0_readPayments 110 = .ok (.aload_n 0, 1) := by decide +kernel
theorem dX0_readPayments_111 : decode cX0_readPayments 111 = .ok (.bipush 112, 2) := by decide +kernel
theorem dX0_readPayments_113 : decode cX0_readPayments 113 = .ok (.iload 5, 2) := by decide +kernel
theorem dX0_readPayments_115 : decode cX0_readPayments 115 = .ok (.iload 6, 2) := by decide +kernel
theorem dX0_readPayments_117 : decode cX0_readPayments 117 = .ok (.iload 7, 2) := by decide +kernel
theorem dX0_readPayments_119 : decode cX0_readPayments 119 = .ok (.invokevirtual 40, 3) := by decide +kernel
theorem dX0_readPayments_122 : decode cX0_readPayments 122 = .ok (.iinc 4 6, 3) := by decide +kernel
theorem dX0_readPayments_125 : decode cX0_readPayments 125 = .ok (.goto (-117), 3) := by decide +kernel
theorem dX0_readPayments_128 : decode cX0_readPayments 128 = .ok (.aload_n 0, 1) := by decide +kernel
theorem dX0_readPayments_129 : decode cX0_readPayments 129 = .ok (.getfield 24, 3) := by decide +kernel
theorem dX0_readPayments_132 : decode cX0_readPayments 132 = .ok (.ireturn, 1) := by decide +kernel
theorem dX0_readDay_0 : decode cX0_readDay 0 = .ok (.aload_n 0, 1) := by decide +kernel
theorem dX0_readDay_1 : decode cX0_readDay 1 = .ok (.iconst 0, 1) := by decide +kernel
theorem dX0_readDay_2 : decode cX0_readDay 2 = .ok (.putfield 24, 3) := by decide +kernel
theorem dX0_readDay_5 : decode cX0_readDay 5 = .ok (.iconst 0, 1) := by decide +kernel
theorem dX0_readDay_6 : decode cX0_readDay 6 = .ok (.istore_n 2, 1) := by decide +kernel
theorem dX0_readDay_7 : decode cX0_readDay 7 = .ok (.iload_n 2, 1) := by decide +kernel
theorem dX0_readDay_8 : decode cX0_readDay 8 = .ok (.aload_n 1, 1) := by decide +kernel
theorem dX0_readDay_9 : decode cX0_readDay 9 = .ok (.getfield 28, 3) := by decide +kernel
theorem dX0_readDay_12 : decode cX0_readDay 12 = .ok (.if_icmp .ge 133, 3) := by decide +kernel
theorem dX0_readDay_15 : decode cX0_readDay 15 = .ok (.aload_n 1, 1) := by decide +kernel
theorem dX0_readDay_16 : decode cX0_readDay 16 = .ok (.iload_n 2, 1) := by decide +kernel
theorem dX0_readDay_17 : decode cX0_readDay 17 = .ok (.invokevirtual 44, 3) := by decide +kernel
theorem dX0_readDay_20 : decode cX0_readDay 20 = .ok (.istore_n 3, 1) := by decide +kernel
theorem dX0_readDay_21 : decode cX0_readDay 21 = .ok (.iload_n 3, 1) := by decide +kernel
theorem dX0_readDay_22 : decode cX0_readDay 22 = .ok (.invokestatic 48, 3) := by decide +kernel
theorem dX0_readDay_25 : decode cX0_readDay 25 = .ok (.istore 4, 2) := by decide +kernel
theorem dX0_readDay_27 : decode cX0_readDay 27 = .ok (.iload 4, 2) := by decide +kernel
theorem dX0_readDay_29 : decode cX0_readDay 29 = .ok (.ifCond .ge 7, 3) := by decide +kernel
theorem dX0_readDay_32 : decode cX0_readDay 32 = .ok (.iconst (-1), 1) := by decide +kernel
theorem dX0_readDay_33 : decode cX0_readDay 33 = .ok (.iload_n 2, 1) := by decide +kernel
theorem dX0_readDay_34 : decode cX0_readDay 34 = .ok (.isub, 1) := by decide +kernel
theorem dX0_readDay_35 : decode cX0_readDay 35 = .ok (.ireturn, 1) := by decide +kernel
theorem dX0_readDay_36 : decode cX0_readDay 36 = .ok (.iinc 2 1, 3) := by decide +kernel
theorem dX0_readDay_39 : decode cX0_readDay 39 = .ok (.iload 4, 2) := by decide +kernel
theorem dX0_readDay_41 : decode cX0_readDay 41 = .ok (.ifCond .le 13, 3) := by decide +kernel
theorem dX0_readDay_44 : decode cX0_readDay 44 = .ok (.aload_n 1, 1) := by decide +kernel
theorem dX0_readDay_45 : decode cX0_readDay 45 = .ok (.iload_n 2, 1) := by decide +kernel
theorem dX0_readDay_46 : decode cX0_readDay 46 = .ok (.bipush 8, 2) := by decide +kernel
theorem dX0_readDay_48 : decode cX0_readDay 48 = .ok (.invokevirtual 33, 3) := by decide +kernel
theorem dX0_readDay_51 : decode cX0_readDay 51 = .ok (.goto 4, 3) := by decide +kernel
theorem dX0_readDay_54 : decode cX0_readDay 54 = .ok (.iconst 0, 1) := by decide +kernel
theorem dX0_readDay_55 : decode cX0_readDay 55 = .ok (.istore 5, 2) := by decide +kernel
theorem dX0_readDay_57 : decode cX0_readDay 57 = .ok (.iload 5, 2) := by decide +kernel
theorem dX0_readDay_59 : decode cX0_readDay 59 = .ok (.ifCond .ge 7, 3) := by decide +kernel
theorem dX0_readDay_62 : decode cX0_readDay 62 = .ok (.iconst (-1), 1) := by decide +kernel
theorem dX0_readDay_63 : decode cX0_readDay 63 = .ok (.iload_n 2, 1) := by decide +kernel
theorem dX0_readDay_64 : decode cX0_readDay 64 = .ok (.isub, 1) := by decide +kernel
theorem dX0_readDay_65 : decode cX0_readDay 65 = .ok (.ireturn, 1) := by decide +kernel
theorem dX0_readDay_66 : decode cX0_readDay 66 = .ok (.iload 4, 2) := by decide +kernel
theorem dX0_readDay_68 : decode cX0_readDay 68 = .ok (.iconst 1, 1) := by decide +kernel
theorem dX0_readDay_69 : decode cX0_readDay 69 = .ok (.if_icmp .le 15, 3) := by decide +kernel
theorem dX0_readDay_72 : decode cX0_readDay 72 = .ok (.aload_n 1, 1) := by decide +kernel
theorem dX0_readDay_73 : decode cX0_readDay 73 = .ok (.iload_n 2, 1) := by decide +kernel
theorem dX0_readDay_74 : decode cX0_readDay 74 = .ok (.iconst 1, 1) := by decide +kernel
theorem dX0_readDay_75 : decode cX0_readDay 75 = .ok (.iadd, 1) := by decide +kernel
theorem dX0_readDay_76 : decode cX0_readDay 76 = .ok (.bipush 8, 2) := by decide +kernel
theorem dX0_readDay_78 : decode cX0_readDay 78 = .ok (.invokevirtual 33, 3) := by decide +kernel
theorem dX0_readDay_81 : decode cX0_readDay 81 = .ok (.goto 4, 3) := by decide +kernel
theorem dX0_readDay_84 : decode cX0_readDay 84 = .ok (.iconst 0, 1) := by decide +kernel
theorem dX0_readDay_85 : decode cX0_readDay 85 = .ok (.istore 6, 2) := by decide +kernel
theorem dX0_readDay_87 : decode cX0_readDay 87 = .ok (.iload 6, 2) := by decide +kernel
theorem dX0_readDay_89 : decode cX0_readDay 89 = .ok (.ifCond .ge 9, 3) := by decide +kernel
theorem dX0_readDay_92 : decode cX0_readDay 92 = .ok (.iconst (-1), 1) := by decide +kernel
theorem dX0_readDay_93 : decode cX0_readDay 93 = .ok (.iload_n 2, 1) := by decide +kernel
theorem dX0_readDay_94 : decode cX0_readDay 94 = .ok (.iconst 1, 1) := by decide +kernel
theorem dX0_readDay_95 : decode cX0_readDay 95 = .ok (.iadd, 1) := by decide +kernel
theorem dX0_readDay_96 : decode cX0_readDay 96 = .ok (.isub, 1) := by decide +kernel
theorem dX0_readDay_97 : decode cX0_readDay 97 = .ok (.ireturn, 1) := by decide +kernel
theorem dX0_readDay_98 : decode cX0_readDay 98 = .ok (.iload_n 2, 1) := by decide +kernel
theorem dX0_readDay_99 : decode cX0_readDay 99 = .ok (.iload 4, 2) := by decide +kernel
theorem dX0_readDay_101 : decode cX0_readDay 101 = .ok (.iadd, 1) := by decide +kernel
theorem dX0_readDay_102 : decode cX0_readDay 102 = .ok (.istore_n 2, 1) := by decide +kernel
theorem dX0_readDay_103 : decode cX0_readDay 103 = .ok (.iload_n 3, 1) := by decide +kernel
theorem dX0_readDay_104 : decode cX0_readDay 104 = .ok (.invokestatic 51, 3) := by decide +kernel
theorem dX0_readDay_107 : decode cX0_readDay 107 = .ok (.istore 7, 2) := by decide +kernel
theorem dX0_readDay_109 : decode cX0_readDay 109 = .ok (.aload_n 1, 1) := by decide +kernel
theorem dX0_readDay_110 : decode cX0_readDay 110 = .ok (.iload_n 2, 1) := by decide +kernel
theorem dX0_readDay_111 : decode cX0_readDay 111 = .ok (.iload 7, 2) := by decide +kernel
theorem dX0_readDay_113 : decode cX0_readDay 113 = .ok (.invokevirtual 37, 3) := by decide +kernel
theorem dX0_readDay_116 : decode cX0_readDay 116 = .ok (.istore 8, 2) := by decide +kernel
theorem dX0_readDay_118 : decode cX0_readDay 118 = .ok (.iload 8, 2) := by decide +kernel
theorem dX0_readDay_120 : decode cX0_readDay 120 = .ok (.ifCond .ge 6, 3) := by decide +kernel
theorem dX0_readDay_123 : decode cX0_readDay 123 = .ok (.iload 8, 2) := by decide +kernel
theorem dX0_readDay_125 : decode cX0_readDay 125 = .ok (.ireturn, 1) := by decide +kernel
theorem dX0_readDay_126 : decode cX0_readDay 126 = .ok (.iload_n 2, 1) := by decide +kernel
theorem dX0_readDay_127 : decode cX0_readDay 127 = .ok (.iload 7, 2) := by decide +kernel
theorem dX0_readDay_129 : decode cX0_readDay 129 = .ok (.iadd, 1) := by decide +kernel
theorem dX0_readDay_130 : decode cX0_readDay 130 = .ok (.istore_n 2, 1) := by decide +kernel
theorem dX0_readDay_131 : decode cX0_readDay 131 = .ok (.aload_n 0, 1) := by decide +kernel
theorem dX0_readDay_132 : decode cX0_readDay 132 = .ok (.iload_n 3, 1) := by decide +kernel
theorem dX0_readDay_133 : decode cX0_readDay 133 = .ok (.iload 5, 2) := by decide +kernel
theorem dX0_readDay_135 : decode cX0_readDay 135 = .ok (.iload 6, 2) := by decide +kernel
theorem dX0_readDay_137 : decode cX0_readDay 137 = .ok (.iload 8, 2) := by decide +kernel
theorem dX0_readDay_139 : decode cX0_readDay 139 = .ok (.invokevirtual 40, 3) := by decide +kernel
theorem dX0_readDay_142 : decode cX0_readDay 142 = .ok (.goto (-135), 3) := by decide +kernel
theorem dX0_readDay_145 : decode cX0_readDay 145 = .ok (.aload_n 0, 1) := by decide +kernel
theorem dX0_readDay_146 : decode cX0_readDay 146 = .ok (.getfield 24, 3) := by decide +kernel
theorem dX0_readDay_149 : decode cX0_readDay 149 = .ok (.ireturn, 1) := by decide +kernel
theorem dX0_add_0 : decode cX0_add 0 = .ok (.aload_n 0, 1) := by decide +kernel
theorem dX0_add_1 : decode cX0_add 1 = .ok (.getfield 24, 3) := by decide +kernel
theorem dX0_add_4 : decode cX0_add 4 = .ok (.bipush 80, 2) := by decide +kernel
theorem dX0_add_6 : decode cX0_add 6 = .ok (.if_icmp .ge 54, 3) := by decide +kernel
theorem dX0_add_9 : decode cX0_add 9 = .ok (.aload_n 0, 1) := by decide +kernel
theorem dX0_add_10 : decode cX0_add 10 = .ok (.getfield 9, 3) := by decide +kernel
theorem dX0_add_13 : decode cX0_add 13 = .ok (.aload_n 0, 1) := by decide +kernel
theorem dX0_add_14 : decode cX0_add 14 = .ok (.getfield 24, 3) := by decide +kernel
theorem dX0_add_17 : decode cX0_add 17 = .ok (.iload_n 1, 1) := by decide +kernel
theorem dX0_add_18 : decode cX0_add 18 = .ok (.iastore, 1) := by decide +kernel
theorem dX0_add_19 : decode cX0_add 19 = .ok (.aload_n 0, 1) := by decide +kernel
theorem dX0_add_20 : decode cX0_add 20 = .ok (.getfield 15, 3) := by decide +kernel
theorem dX0_add_23 : decode cX0_add 23 = .ok (.aload_n 0, 1) := by decide +kernel
theorem dX0_add_24 : decode cX0_add 24 = .ok (.getfield 24, 3) := by decide +kernel
theorem dX0_add_27 : decode cX0_add 27 = .ok (.iload_n 2, 1) := by decide +kernel
theorem dX0_add_28 : decode cX0_add 28 = .ok (.iastore, 1) := by decide +kernel
theorem dX0_add_29 : decode cX0_add 29 = .ok (.aload_n 0, 1) := by decide +kernel
theorem dX0_add_30 : decode cX0_add 30 = .ok (.getfield 18, 3) := by decide +kernel
theorem dX0_add_33 : decode cX0_add 33 = .ok (.aload_n 0, 1) := by decide +kernel
theorem dX0_add_34 : decode cX0_add 34 = .ok (.getfield 24, 3) := by decide +kernel
theorem dX0_add_37 : decode cX0_add 37 = .ok (.iload_n 3, 1) := by decide +kernel
theorem dX0_add_38 : decode cX0_add 38 = .ok (.iastore, 1) := by decide +kernel
theorem dX0_add_39 : decode cX0_add 39 = .ok (.aload_n 0, 1) := by decide +kernel
theorem dX0_add_40 : decode cX0_add 40 = .ok (.getfield 21, 3) := by decide +kernel
theorem dX0_add_43 : decode cX0_add 43 = .ok (.aload_n 0, 1) := by decide +kernel
theorem dX0_add_44 : decode cX0_add 44 = .ok (.getfield 24, 3) := by decide +kernel
theorem dX0_add_47 : decode cX0_add 47 = .ok (.iload 4, 2) := by decide +kernel
theorem dX0_add_49 : decode cX0_add 49 = .ok (.iastore, 1) := by decide +kernel
theorem dX0_add_50 : decode cX0_add 50 = .ok (.aload_n 0, 1) := by decide +kernel
theorem dX0_add_51 : decode cX0_add 51 = .ok (.dup, 1) := by decide +kernel
theorem dX0_add_52 : decode cX0_add 52 = .ok (.getfield 24, 3) := by decide +kernel
theorem dX0_add_55 : decode cX0_add 55 = .ok (.iconst 1, 1) := by decide +kernel
theorem dX0_add_56 : decode cX0_add 56 = .ok (.iadd, 1) := by decide +kernel
theorem dX0_add_57 : decode cX0_add 57 = .ok (.putfield 24, 3) := by decide +kernel
theorem dX0_add_60 : decode cX0_add 60 = .ok (.return_, 1) := by decide +kernel
theorem dX0_lettersOf_0 : decode cX0_lettersOf 0 = .ok (.iload_n 0, 1) := by decide +kernel
theorem dX0_lettersOf_1 : decode cX0_lettersOf 1 = .ok (.tableswitch 93 102 119 #[87, 91, 87, 93, 93, 89, 87, 91, 93, 93, 87, 93, 93, 91, 93, 93, 93, 87], 87) := by decide +kernel
theorem dX0_lettersOf_88 : decode cX0_lettersOf 88 = .ok (.iconst 2, 1) := by decide +kernel
theorem dX0_lettersOf_89 : decode cX0_lettersOf 89 = .ok (.ireturn, 1) := by decide +kernel
theorem dX0_lettersOf_90 : decode cX0_lettersOf 90 = .ok (.iconst 1, 1) := by decide +kernel
theorem dX0_lettersOf_91 : decode cX0_lettersOf 91 = .ok (.ireturn, 1) := by decide +kernel
theorem dX0_lettersOf_92 : decode cX0_lettersOf 92 = .ok (.iconst 0, 1) := by decide +kernel
theorem dX0_lettersOf_93 : decode cX0_lettersOf 93 = .ok (.ireturn, 1) := by decide +kernel
theorem dX0_lettersOf_94 : decode cX0_lettersOf 94 = .ok (.iconst (-1), 1) := by decide +kernel
theorem dX0_lettersOf_95 : decode cX0_lettersOf 95 = .ok (.ireturn, 1) := by decide +kernel
theorem dX0_digitsOf_0 : decode cX0_digitsOf 0 = .ok (.iload_n 0, 1) := by decide +kernel
theorem dX0_digitsOf_1 : decode cX0_digitsOf 1 = .ok (.tableswitch 93 102 119 #[87, 91, 87, 93, 93, 89, 89, 91, 93, 93, 87, 93, 93, 93, 93, 93, 93, 87], 87) := by decide +kernel
theorem dX0_digitsOf_88 : decode cX0_digitsOf 88 = .ok (.iconst 4, 1) := by decide +kernel
theorem dX0_digitsOf_89 : decode cX0_digitsOf 89 = .ok (.ireturn, 1) := by decide +kernel
theorem dX0_digitsOf_90 : decode cX0_digitsOf 90 = .ok (.iconst 3, 1) := by decide +kernel
theorem dX0_digitsOf_91 : decode cX0_digitsOf 91 = .ok (.ireturn, 1) := by decide +kernel
theorem dX0_digitsOf_92 : decode cX0_digitsOf 92 = .ok (.iconst 1, 1) := by decide +kernel
theorem dX0_digitsOf_93 : decode cX0_digitsOf 93 = .ok (.ireturn, 1) := by decide +kernel
theorem dX0_digitsOf_94 : decode cX0_digitsOf 94 = .ok (.iconst 0, 1) := by decide +kernel
theorem dX0_digitsOf_95 : decode cX0_digitsOf 95 = .ok (.ireturn, 1) := by decide +kernel
theorem dX1_init_0 : decode cX1_init 0 = .ok (.aload_n 0, 1) := by decide +kernel
theorem dX1_init_1 : decode cX1_init 1 = .ok (.invokespecial 3, 3) := by decide +kernel
theorem dX1_init_4 : decode cX1_init 4 = .ok (.aload_n 0, 1) := by decide +kernel
theorem dX1_init_5 : decode cX1_init 5 = .ok (.iconst 2, 1) := by decide +kernel
theorem dX1_init_6 : decode cX1_init 6 = .ok (.putfield 9, 3) := by decide +kernel
theorem dX1_init_9 : decode cX1_init 9 = .ok (.aload_n 0, 1) := by decide +kernel
theorem dX1_init_10 : decode cX1_init 10 = .ok (.bipush 64, 2) := by decide +kernel
theorem dX1_init_12 : decode cX1_init 12 = .ok (.newarray .int, 2) := by decide +kernel
theorem dX1_init_14 : decode cX1_init 14 = .ok (.putfield 15, 3) := by decide +kernel
theorem dX1_init_17 : decode cX1_init 17 = .ok (.aload_n 0, 1) := by decide +kernel
theorem dX1_init_18 : decode cX1_init 18 = .ok (.bipush 64, 2) := by decide +kernel
theorem dX1_init_20 : decode cX1_init 20 = .ok (.newarray .int, 2) := by decide +kernel
theorem dX1_init_22 : decode cX1_init 22 = .ok (.putfield 19, 3) := by decide +kernel
theorem dX1_init_25 : decode cX1_init 25 = .ok (.aload_n 0, 1) := by decide +kernel
theorem dX1_init_26 : decode cX1_init 26 = .ok (.bipush 8, 2) := by decide +kernel
theorem dX1_init_28 : decode cX1_init 28 = .ok (.newarray .int, 2) := by decide +kernel
theorem dX1_init_30 : decode cX1_init 30 = .ok (.putfield 22, 3) := by decide +kernel
theorem dX1_init_33 : decode cX1_init 33 = .ok (.aload_n 0, 1) := by decide +kernel
theorem dX1_init_34 : decode cX1_init 34 = .ok (.iconst 4, 1) := by decide +kernel
theorem dX1_init_35 : decode cX1_init 35 = .ok (.anewarray 25, 3) := by decide +kernel
theorem dX1_init_38 : decode cX1_init 38 = .ok (.putfield 27, 3) := by decide +kernel
theorem dX1_init_41 : decode cX1_init 41 = .ok (.iconst 0, 1) := by decide +kernel
theorem dX1_init_42 : decode cX1_init 42 = .ok (.istore_n 1, 1) := by decide +kernel
theorem dX1_init_43 : decode cX1_init 43 = .ok (.iload_n 1, 1) := by decide +kernel
theorem dX1_init_44 : decode cX1_init 44 = .ok (.iconst 4, 1) := by decide +kernel
theorem dX1_init_45 : decode cX1_init 45 = .ok (.if_icmp .ge 22, 3) := by decide +kernel
theorem dX1_init_48 : decode cX1_init 48 = .ok (.aload_n 0, 1) := by decide +kernel
theorem dX1_init_49 : decode cX1_init 49 = .ok (.getfield 27, 3) := by decide +kernel
theorem dX1_init_52 : decode cX1_init 52 = .ok (.iload_n 1, 1) := by decide +kernel
theorem dX1_init_53 : decode cX1_init 53 = .ok (.new 25, 3) := by decide +kernel
theorem dX1_init_56 : decode cX1_init 56 = .ok (.dup, 1) := by decide +kernel
theorem dX1_init_57 : decode cX1_init 57 = .ok (.invokespecial 31, 3) := by decide +kernel
theorem dX1_init_60 : decode cX1_init 60 = .ok (.aastore, 1) := by decide +kernel
theorem dX1_init_61 : decode cX1_init 61 = .ok (.iinc 1 1, 3) := by decide +kernel
theorem dX1_init_64 : decode cX1_init 64 = .ok (.goto (-21), 3) := by decide +kernel
theorem dX1_init_67 : decode cX1_init 67 = .ok (.return_, 1) := by decide +kernel
theorem dX1_startAnew_0 : decode cX1_startAnew 0 = .ok (.aload_n 0, 1) := by decide +kernel
theorem dX1_startAnew_1 : decode cX1_startAnew 1 = .ok (.iload_n 1, 1) := by decide +kernel
theorem dX1_startAnew_2 : decode cX1_startAnew 2 = .ok (.putfield 9, 3) := by decide +kernel
theorem dX1_startAnew_5 : decode cX1_startAnew 5 = .ok (.iconst 0, 1) := by decide +kernel
theorem dX1_startAnew_6 : decode cX1_startAnew 6 = .ok (.istore_n 2, 1) := by decide +kernel
theorem dX1_startAnew_7 : decode cX1_startAnew 7 = .ok (.iload_n 2, 1) := by decide +kernel
theorem dX1_startAnew_8 : decode cX1_startAnew 8 = .ok (.bipush 64, 2) := by decide +kernel
theorem dX1_startAnew_10 : decode cX1_startAnew 10 = .ok (.if_icmp .ge 23, 3) := by decide +kernel
theorem dX1_startAnew_13 : decode cX1_startAnew 13 = .ok (.aload_n 0, 1) := by decide +kernel
theorem dX1_startAnew_14 : decode cX1_startAnew 14 = .ok (.getfield 15, 3) := by decide +kernel
theorem dX1_startAnew_17 : decode cX1_startAnew 17 = .ok (.iload_n 2, 1) := by decide +kernel
theorem dX1_startAnew_18 : decode cX1_startAnew 18 = .ok (.iconst 0, 1) := by decide +kernel
theorem dX1_startAnew_19 : decode cX1_startAnew 19 = .ok (.iastore, 1) := by decide +kernel
theorem dX1_startAnew_20 : decode cX1_startAnew 20 = .ok (.aload_n 0, 1) := by decide +kernel
theorem dX1_startAnew_21 : decode cX1_startAnew 21 = .ok (.getfield 19, 3) := by decide +kernel
theorem dX1_startAnew_24 : decode cX1_startAnew 24 = .ok (.iload_n 2, 1) := by decide +kernel
theorem dX1_startAnew_25 : decode cX1_startAnew 25 = .ok (.iconst 0, 1) := by decide +kernel
theorem dX1_startAnew_26 : decode cX1_startAnew 26 = .ok (.iastore, 1) := by decide +kernel
theorem dX1_startAnew_27 : decode cX1_startAnew 27 = .ok (.iinc 2 1, 3) := by decide +kernel
theorem dX1_startAnew_30 : decode cX1_startAnew 30 = .ok (.goto (-23), 3) := by decide +kernel
theorem dX1_startAnew_33 : decode cX1_startAnew 33 = .ok (.iconst 0, 1) := by decide +kernel
theorem dX1_startAnew_34 : decode cX1_startAnew 34 = .ok (.istore_n 2, 1) := by decide +kernel
theorem dX1_startAnew_35 : decode cX1_startAnew 35 = .ok (.iload_n 2, 1) := by decide +kernel
theorem dX1_startAnew_36 : decode cX1_startAnew 36 = .ok (.bipush 8, 2) := by decide +kernel
theorem dX1_startAnew_38 : decode cX1_startAnew 38 = .ok (.if_icmp .ge 16, 3) := by decide +kernel
theorem dX1_startAnew_41 : decode cX1_startAnew 41 = .ok (.aload_n 0, 1) := by decide +kernel
theorem dX1_startAnew_42 : decode cX1_startAnew 42 = .ok (.getfield 22, 3) := by decide +kernel
theorem dX1_startAnew_45 : decode cX1_startAnew 45 = .ok (.iload_n 2, 1) := by decide +kernel
theorem dX1_startAnew_46 : decode cX1_startAnew 46 = .ok (.iconst 0, 1) := by decide +kernel
theorem dX1_startAnew_47 : decode cX1_startAnew 47 = .ok (.iastore, 1) := by decide +kernel
theorem dX1_startAnew_48 : decode cX1_startAnew 48 = .ok (.iinc 2 1, 3) := by decide +kernel
theorem dX1_startAnew_51 : decode cX1_startAnew 51 = .ok (.goto (-16), 3) := by decide +kernel
theorem dX1_startAnew_54 : decode cX1_startAnew 54 = .ok (.iconst 0, 1) := by decide +kernel
theorem dX1_startAnew_55 : decode cX1_startAnew 55 = .ok (.istore_n 2, 1) := by decide +kernel
theorem dX1_startAnew_56 : decode cX1_startAnew 56 = .ok (.iload_n 2, 1) := by decide +kernel
theorem dX1_startAnew_57 : decode cX1_startAnew 57 = .ok (.iconst 4, 1) := by decide +kernel
theorem dX1_startAnew_58 : decode cX1_startAnew 58 = .ok (.if_icmp .ge 19, 3) := by decide +kernel
theorem dX1_startAnew_61 : decode cX1_startAnew 61 = .ok (.aload_n 0, 1) := by decide +kernel
theorem dX1_startAnew_62 : decode cX1_startAnew 62 = .ok (.getfield 27, 3) := by decide +kernel
theorem dX1_startAnew_65 : decode cX1_startAnew 65 = .ok (.iload_n 2, 1) := by decide +kernel
theorem dX1_startAnew_66 : decode cX1_startAnew 66 = .ok (.aaload, 1) := by decide +kernel
theorem dX1_startAnew_67 : decode cX1_startAnew 67 = .ok (.iconst 0, 1) := by decide +kernel
theorem dX1_startAnew_68 : decode cX1_startAnew 68 = .ok (.putfield 32, 3) := by decide +kernel
theorem dX1_startAnew_71 : decode cX1_startAnew 71 = .ok (.iinc 2 1, 3) := by decide +kernel
theorem dX1_startAnew_74 : decode cX1_startAnew 74 = .ok (.goto (-18), 3) := by decide +kernel
theorem dX1_startAnew_77 : decode cX1_startAnew 77 = .ok (.return_, 1) := by decide +kernel
theorem dX1_copyFrom_0 : decode cX1_copyFrom 0 = .ok (.aload_n 0, 1) := by decide +kernel
theorem dX1_copyFrom_1 : decode cX1_copyFrom 1 = .ok (.aload_n 1, 1) := by decide +kernel
theorem dX1_copyFrom_2 : decode cX1_copyFrom 2 = .ok (.getfield 9, 3) := by decide +kernel
theorem dX1_copyFrom_5 : decode cX1_copyFrom 5 = .ok (.putfield 9, 3) := by decide +kernel
theorem dX1_copyFrom_8 : decode cX1_copyFrom 8 = .ok (.aload_n 1, 1) := by decide +kernel
theorem dX1_copyFrom_9 : decode cX1_copyFrom 9 = .ok (.getfield 15, 3) := by decide +kernel
theorem dX1_copyFrom_12 : decode cX1_copyFrom 12 = .ok (.iconst 0, 1) := by decide +kernel
theorem dX1_copyFrom_13 : decode cX1_copyFrom 13 = .ok (.aload_n 0, 1) := by decide +kernel
theorem dX1_copyFrom_14 : decode cX1_copyFrom 14 = .ok (.getfield 15, 3) := by decide +kernel
theorem dX1_copyFrom_17 : decode cX1_copyFrom 17 = .ok (.iconst 0, 1) := by decide +kernel
theorem dX1_copyFrom_18 : decode cX1_copyFrom 18 = .ok (.bipush 64, 2) := by decide +kernel
theorem dX1_copyFrom_20 : decode cX1_copyFrom 20 = .ok (.invokestatic 35, 3) := by decide +kernel
theorem dX1_copyFrom_23 : decode cX1_copyFrom 23 = .ok (.aload_n 1, 1) := by decide +kernel
theorem dX1_copyFrom_24 : decode cX1_copyFrom 24 = .ok (.getfield 19, 3) := by decide +kernel
theorem dX1_copyFrom_27 : decode cX1_copyFrom 27 = .ok (.iconst 0, 1) := by decide +kernel
theorem dX1_copyFrom_28 : decode cX1_copyFrom 28 = .ok (.aload_n 0, 1) := by decide +kernel
theorem dX1_copyFrom_29 : decode cX1_copyFrom 29 = .ok (.getfield 19, 3) := by decide +kernel
theorem dX1_copyFrom_32 : decode cX1_copyFrom 32 = .ok (.iconst 0, 1) := by decide +kernel
theorem dX1_copyFrom_33 : decode cX1_copyFrom 33 = .ok (.bipush 64, 2) := by decide +kernel
theorem dX1_copyFrom_35 : decode cX1_copyFrom 35 = .ok (.invokestatic 35, 3) := by decide +kernel
theorem dX1_copyFrom_38 : decode cX1_copyFrom 38 = .ok (.aload_n 1, 1) := by decide +kernel
theorem dX1_copyFrom_39 : decode cX1_copyFrom 39 = .ok (.getfield 22, 3) := by decide +kernel
theorem dX1_copyFrom_42 : decode cX1_copyFrom 42 = .ok (.iconst 0, 1) := by decide +kernel
theorem dX1_copyFrom_43 : decode cX1_copyFrom 43 = .ok (.aload_n 0, 1) := by decide +kernel
theorem dX1_copyFrom_44 : decode cX1_copyFrom 44 = .ok (.getfield 22, 3) := by decide +kernel
theorem dX1_copyFrom_47 : decode cX1_copyFrom 47 = .ok (.iconst 0, 1) := by decide +kernel
theorem dX1_copyFrom_48 : decode cX1_copyFrom 48 = .ok (.bipush 8, 2) := by decide +kernel
theorem dX1_copyFrom_50 : decode cX1_copyFrom 50 = .ok (.invokestatic 35, 3) := by decide +kernel
theorem dX1_copyFrom_53 : decode cX1_copyFrom 53 = .ok (.iconst 0, 1) := by decide +kernel
theorem dX1_copyFrom_54 : decode cX1_copyFrom 54 = .ok (.istore_n 2, 1) := by decide +kernel
theorem dX1_copyFrom_55 : decode cX1_copyFrom 55 = .ok (.iload_n 2, 1) := by decide +kernel
theorem dX1_copyFrom_56 : decode cX1_copyFrom 56 = .ok (.iconst 4, 1) := by decide +kernel
theorem dX1_copyFrom_57 : decode cX1_copyFrom 57 = .ok (.if_icmp .ge 24, 3) := by decide +kernel
theorem dX1_copyFrom_60 : decode cX1_copyFrom 60 = .ok (.aload_n 0, 1) := by decide +kernel
theorem dX1_copyFrom_61 : decode cX1_copyFrom 61 = .ok (.getfield 27, 3) := by decide +kernel
theorem dX1_copyFrom_64 : decode cX1_copyFrom 64 = .ok (.iload_n 2, 1) := by decide +kernel
theorem dX1_copyFrom_65 : decode cX1_copyFrom 65 = .ok (.aaload, 1) := by decide +kernel
theorem dX1_copyFrom_66 : decode cX1_copyFrom 66 = .ok (.aload_n 1, 1) := by decide +kernel
theorem dX1_copyFrom_67 : decode cX1_copyFrom 67 = .ok (.getfield 27, 3) := by decide +kernel
theorem dX1_copyFrom_70 : decode cX1_copyFrom 70 = .ok (.iload_n 2, 1) := by decide +kernel
theorem dX1_copyFrom_71 : decode cX1_copyFrom 71 = .ok (.aaload, 1) := by decide +kernel
theorem dX1_copyFrom_72 : decode cX1_copyFrom 72 = .ok (.invokevirtual 41, 3) := by decide +kernel
theorem dX1_copyFrom_75 : decode cX1_copyFrom 75 = .ok (.iinc 2 1, 3) := by decide +kernel
theorem dX1_copyFrom_78 : decode cX1_copyFrom 78 = .ok (.goto (-23), 3) := by decide +kernel
theorem dX1_copyFrom_81 : decode cX1_copyFrom 81 = .ok (.return_, 1) := by decide +kernel
theorem dX1_has_0 : decode cX1_has 0 = .ok (.iload_n 1, 1) := by decide +kernel
theorem dX1_has_1 : decode cX1_has 1 = .ok (.ifCond .lt 15, 3) := by decide +kernel
theorem dX1_has_4 : decode cX1_has 4 = .ok (.iload_n 1, 1) := by decide +kernel
theorem dX1_has_5 : decode cX1_has 5 = .ok (.aload_n 0, 1) := by decide +kernel
theorem dX1_has_6 : decode cX1_has 6 = .ok (.getfield 9, 3) := by decide +kernel
theorem dX1_has_9 : decode cX1_has 9 = .ok (.if_icmp .ge 7, 3) := by decide +kernel
theorem dX1_has_12 : decode cX1_has 12 = .ok (.iconst 1, 1) := by decide +kernel
theorem dX1_has_13 : decode cX1_has 13 = .ok (.goto 4, 3) := by decide +kernel
theorem dX1_has_16 : decode cX1_has 16 = .ok (.iconst 0, 1) := by decide +kernel
theorem dX1_has_17 : decode cX1_has 17 = .ok (.ireturn, 1) := by decide +kernel
theorem dX1_hasBoth_0 : decode cX1_hasBoth 0 = .ok (.aload_n 0, 1) := by decide +kernel
theorem dX1_hasBoth_1 : decode cX1_hasBoth 1 = .ok (.iload_n 1, 1) := by decide +kernel
theorem dX1_hasBoth_2 : decode cX1_hasBoth 2 = .ok (.invokevirtual 45, 3) := by decide +kernel
theorem dX1_hasBoth_5 : decode cX1_hasBoth 5 = .ok (.ifCond .eq 20, 3) := by decide +kernel
theorem dX1_hasBoth_8 : decode cX1_hasBoth 8 = .ok (.aload_n 0, 1) := by decide +kernel
theorem dX1_hasBoth_9 : decode cX1_hasBoth 9 = .ok (.iload_n 2, 1) := by decide +kernel
theorem dX1_hasBoth_10 : decode cX1_hasBoth 10 = .ok (.invokevirtual 45, 3) := by decide +kernel
theorem dX1_hasBoth_13 : decode cX1_hasBoth 13 = .ok (.ifCond .eq 12, 3) := by decide +kernel
theorem dX1_hasBoth_16 : decode cX1_hasBoth 16 = .ok (.iload_n 1, 1) := by decide +kernel
theorem dX1_hasBoth_17 : decode cX1_hasBoth 17 = .ok (.iload_n 2, 1) := by decide +kernel
theorem dX1_hasBoth_18 : decode cX1_hasBoth 18 = .ok (.if_icmp .eq 7, 3) := by decide +kernel
theorem dX1_hasBoth_21 : decode cX1_hasBoth 21 = .ok (.iconst 1, 1) := by decide +kernel
theorem dX1_hasBoth_22 : decode cX1_hasBoth 22 = .ok (.goto 4, 3) := by decide +kernel
theorem dX1_hasBoth_25 : decode cX1_hasBoth 25 = .ok (.iconst 0, 1) := by decide +kernel
theorem dX1_hasBoth_26 : decode cX1_hasBoth 26 = .ok (.ireturn, 1) := by decide +kernel
theorem dX1_owed_0 : decode cX1_owed 0 = .ok (.aload_n 0, 1) := by decide +kernel
theorem dX1_owed_1 : decode cX1_owed 1 = .ok (.getfield 19, 3) := by decide +kernel
theorem dX1_owed_4 : decode cX1_owed 4 = .ok (.iload_n 1, 1) := by decide +kernel
theorem dX1_owed_5 : decode cX1_owed 5 = .ok (.iload_n 2, 1) := by decide +kernel
theorem dX1_owed_6 : decode cX1_owed 6 = .ok (.invokestatic 49, 3) := by decide +kernel
theorem dX1_owed_9 : decode cX1_owed 9 = .ok (.iaload, 1) := by decide +kernel
theorem dX1_owed_10 : decode cX1_owed 10 = .ok (.iconst 0, 1) := by decide +kernel
theorem dX1_owed_11 : decode cX1_owed 11 = .ok (.invokestatic 53, 3) := by decide +kernel
theorem dX1_owed_14 : decode cX1_owed 14 = .ok (.ireturn, 1) := by decide +kernel
theorem dX1_heldBetween_0 : decode cX1_heldBetween 0 = .ok (.iload_n 1, 1) := by decide +kernel
theorem dX1_heldBetween_1 : decode cX1_heldBetween 1 = .ok (.iload_n 2, 1) := by decide +kernel
theorem dX1_heldBetween_2 : decode cX1_heldBetween 2 = .ok (.invokestatic 49, 3) := by decide +kernel
theorem dX1_heldBetween_5 : decode cX1_heldBetween 5 = .ok (.istore_n 3, 1) := by decide +kernel
theorem dX1_heldBetween_6 : decode cX1_heldBetween 6 = .ok (.iconst 0, 1) := by decide +kernel
theorem dX1_heldBetween_7 : decode cX1_heldBetween 7 = .ok (.istore 4, 2) := by decide +kernel
theorem dX1_heldBetween_9 : decode cX1_heldBetween 9 = .ok (.iconst 0, 1) := by decide +kernel
theorem dX1_heldBetween_10 : decode cX1_heldBetween 10 = .ok (.istore 5, 2) := by decide +kernel
theorem dX1_heldBetween_12 : decode cX1_heldBetween 12 = .ok (.iload 5, 2) := by decide +kernel
theorem dX1_heldBetween_14 : decode cX1_heldBetween 14 = .ok (.iconst 4, 1) := by decide +kernel
theorem dX1_heldBetween_15 : decode cX1_heldBetween 15 = .ok (.if_icmp .ge 39, 3) := by decide +kernel
theorem dX1_heldBetween_18 : decode cX1_heldBetween 18 = .ok (.aload_n 0, 1) := by decide +kernel
theorem dX1_heldBetween_19 : decode cX1_heldBetween 19 = .ok (.getfield 27, 3) := by decide +kernel
theorem dX1_heldBetween_22 : decode cX1_heldBetween 22 = .ok (.iload 5, 2) := by decide +kernel
theorem dX1_heldBetween_24 : decode cX1_heldBetween 24 = .ok (.aaload, 1) := by decide +kernel
theorem dX1_heldBetween_25 : decode cX1_heldBetween 25 = .ok (.getfield 32, 3) := by decide +kernel
theorem dX1_heldBetween_28 : decode cX1_heldBetween 28 = .ok (.ifCond .le 20, 3) := by decide +kernel
theorem dX1_heldBetween_31 : decode cX1_heldBetween 31 = .ok (.iload 4, 2) := by decide +kernel
theorem dX1_heldBetween_33 : decode cX1_heldBetween 33 = .ok (.aload_n 0, 1) := by decide +kernel
theorem dX1_heldBetween_34 : decode cX1_heldBetween 34 = .ok (.getfield 27, 3) := by decide +kernel
theorem dX1_heldBetween_37 : decode cX1_heldBetween 37 = .ok (.iload 5, 2) := by decide +kernel
theorem dX1_heldBetween_39 : decode cX1_heldBetween 39 = .ok (.aaload, 1) := by decide +kernel
theorem dX1_heldBetween_40 : decode cX1_heldBetween 40 = .ok (.getfield 58, 3) := by decide +kernel
theorem dX1_heldBetween_43 : decode cX1_heldBetween 43 = .ok (.iload_n 3, 1) := by decide +kernel
theorem dX1_heldBetween_44 : decode cX1_heldBetween 44 = .ok (.iaload, 1) := by decide +kernel
theorem dX1_heldBetween_45 : decode cX1_heldBetween 45 = .ok (.iadd, 1) := by decide +kernel
theorem dX1_heldBetween_46 : decode cX1_heldBetween 46 = .ok (.istore 4, 2) := by decide +kernel
theorem dX1_heldBetween_48 : decode cX1_heldBetween 48 = .ok (.iinc 5 1, 3) := by decide +kernel
theorem dX1_heldBetween_51 : decode cX1_heldBetween 51 = .ok (.goto (-39), 3) := by decide +kernel
theorem dX1_heldBetween_54 : decode cX1_heldBetween 54 = .ok (.iload 4, 2) := by decide +kernel
theorem dX1_heldBetween_56 : decode cX1_heldBetween 56 = .ok (.ireturn, 1) := by decide +kernel
theorem dX1_room_0 : decode cX1_room 0 = .ok (.aload_n 0, 1) := by decide +kernel
theorem dX1_room_1 : decode cX1_room 1 = .ok (.getfield 15, 3) := by decide +kernel
theorem dX1_room_4 : decode cX1_room 4 = .ok (.iload_n 2, 1) := by decide +kernel
theorem dX1_room_5 : decode cX1_room 5 = .ok (.iload_n 1, 1) := by decide +kernel
theorem dX1_room_6 : decode cX1_room 6 = .ok (.invokestatic 49, 3) := by decide +kernel
theorem dX1_room_9 : decode cX1_room 9 = .ok (.iaload, 1) := by decide +kernel
theorem dX1_room_10 : decode cX1_room 10 = .ok (.aload_n 0, 1) := by decide +kernel
theorem dX1_room_11 : decode cX1_room 11 = .ok (.getfield 19, 3) := by decide +kernel
theorem dX1_room_14 : decode cX1_room 14 = .ok (.iload_n 1, 1) := by decide +kernel
theorem dX1_room_15 : decode cX1_room 15 = .ok (.iload_n 2, 1) := by decide +kernel
theorem dX1_room_16 : decode cX1_room 16 = .ok (.invokestatic 49, 3) := by decide +kernel
theorem dX1_room_19 : decode cX1_room 19 = .ok (.iaload, 1) := by decide +kernel
theorem dX1_room_20 : decode cX1_room 20 = .ok (.isub, 1) := by decide +kernel
theorem dX1_room_21 : decode cX1_room 21 = .ok (.aload_n 0, 1) := by decide +kernel
theorem dX1_room_22 : decode cX1_room 22 = .ok (.iload_n 1, 1) := by decide +kernel
theorem dX1_room_23 : decode cX1_room 23 = .ok (.iload_n 2, 1) := by decide +kernel
theorem dX1_room_24 : decode cX1_room 24 = .ok (.invokevirtual 61, 3) := by decide +kernel
theorem dX1_room_27 : decode cX1_room 27 = .ok (.isub, 1) := by decide +kernel
theorem dX1_room_28 : decode cX1_room 28 = .ok (.ireturn, 1) := by decide +kernel
theorem dX1_payStraight_0 : decode cX1_payStraight 0 = .ok (.aload_n 0, 1) := by decide +kernel
theorem dX1_payStraight_1 : decode cX1_payStraight 1 = .ok (.getfield 19, 3) := by decide +kernel
theorem dX1_payStraight_4 : decode cX1_payStraight 4 = .ok (.iload_n 1, 1) := by decide +kernel
theorem dX1_payStraight_5 : decode cX1_payStraight 5 = .ok (.iload_n 2, 1) := by decide +kernel
theorem dX1_payStraight_6 : decode cX1_payStraight 6 = .ok (.invokestatic 49, 3) := by decide +kernel
theorem dX1_payStraight_9 : decode cX1_payStraight 9 = .ok (.dup2, 1) := by decide +kernel
theorem dX1_payStraight_10 : decode cX1_payStraight 10 = .ok (.iaload, 1) := by decide +kernel
theorem dX1_payStraight_11 : decode cX1_payStraight 11 = .ok (.iload_n 3, 1) := by decide +kernel
theorem dX1_payStraight_12 : decode cX1_payStraight 12 = .ok (.iadd, 1) := by decide +kernel
theorem dX1_payStraight_13 : decode cX1_payStraight 13 = .ok (.iastore, 1) := by decide +kernel
theorem dX1_payStraight_14 : decode cX1_payStraight 14 = .ok (.aload_n 0, 1) := by decide +kernel
theorem dX1_payStraight_15 : decode cX1_payStraight 15 = .ok (.getfield 19, 3) := by decide +kernel
theorem dX1_payStraight_18 : decode cX1_payStraight 18 = .ok (.iload_n 2, 1) := by decide +kernel
theorem dX1_payStraight_19 : decode cX1_payStraight 19 = .ok (.iload_n 1, 1) := by decide +kernel
theorem dX1_payStraight_20 : decode cX1_payStraight 20 = .ok (.invokestatic 49, 3) := by decide +kernel
theorem dX1_payStraight_23 : decode cX1_payStraight 23 = .ok (.dup2, 1) := by decide +kernel
theorem dX1_payStraight_24 : decode cX1_payStraight 24 = .ok (.iaload, 1) := by decide +kernel
theorem dX1_payStraight_25 : decode cX1_payStraight 25 = .ok (.iload_n 3, 1) := by decide +kernel
theorem dX1_payStraight_26 : decode cX1_payStraight 26 = .ok (.isub, 1) := by decide +kernel
theorem dX1_payStraight_27 : decode cX1_payStraight 27 = .ok (.iastore, 1) := by decide +kernel
theorem dX1_payStraight_28 : decode cX1_payStraight 28 = .ok (.return_, 1) := by decide +kernel
theorem dX1_owedInAll_0 : decode cX1_owedInAll 0 = .ok (.iconst 0, 1) := by decide +kernel
theorem dX1_owedInAll_1 : decode cX1_owedInAll 1 = .ok (.istore_n 1, 1) := by decide +kernel
theorem dX1_owedInAll_2 : decode cX1_owedInAll 2 = .ok (.iconst 0, 1) := by decide +kernel
theorem dX1_owedInAll_3 : decode cX1_owedInAll 3 = .ok (.istore_n 2, 1) := by decide +kernel
theorem dX1_owedInAll_4 : decode cX1_owedInAll 4 = .ok (.iload_n 2, 1) := by decide +kernel
theorem dX1_owedInAll_5 : decode cX1_owedInAll 5 = .ok (.bipush 64, 2) := by decide +kernel
theorem dX1_owedInAll_7 : decode cX1_owedInAll 7 = .ok (.if_icmp .ge 22, 3) := by decide +kernel
theorem dX1_owedInAll_10 : decode cX1_owedInAll 10 = .ok (.iload_n 1, 1) := by decide +kernel
theorem dX1_owedInAll_11 : decode cX1_owedInAll 11 = .ok (.aload_n 0, 1) := by decide +kernel
theorem dX1_owedInAll_12 : decode cX1_owedInAll 12 = .ok (.getfield 19, 3) := by decide +kernel
theorem dX1_owedInAll_15 : decode cX1_owedInAll 15 = .ok (.iload_n 2, 1) := by decide +kernel
theorem dX1_owedInAll_16 : decode cX1_owedInAll 16 = .ok (.iaload, 1) := by decide +kernel
theorem dX1_owedInAll_17 : decode cX1_owedInAll 17 = .ok (.iconst 0, 1) := by decide +kernel
theorem dX1_owedInAll_18 : decode cX1_owedInAll 18 = .ok (.invokestatic 53, 3) := by decide +kernel
theorem dX1_owedInAll_21 : decode cX1_owedInAll 21 = .ok (.iadd, 1) := by decide +kernel
theorem dX1_owedInAll_22 : decode cX1_owedInAll 22 = .ok (.istore_n 1, 1) := by decide +kernel
theorem dX1_owedInAll_23 : decode cX1_owedInAll 23 = .ok (.iinc 2 1, 3) := by decide +kernel
theorem dX1_owedInAll_26 : decode cX1_owedInAll 26 = .ok (.goto (-22), 3) := by decide +kernel
theorem dX1_owedInAll_29 : decode cX1_owedInAll 29 = .ok (.iload_n 1, 1) := by decide +kernel
theorem dX1_owedInAll_30 : decode cX1_owedInAll 30 = .ok (.ireturn, 1) := by decide +kernel
theorem dX1_limitsInAll_0 : decode cX1_limitsInAll 0 = .ok (.iconst 0, 1) := by decide +kernel
theorem dX1_limitsInAll_1 : decode cX1_limitsInAll 1 = .ok (.istore_n 1, 1) := by decide +kernel
theorem dX1_limitsInAll_2 : decode cX1_limitsInAll 2 = .ok (.iconst 0, 1) := by decide +kernel
theorem dX1_limitsInAll_3 : decode cX1_limitsInAll 3 = .ok (.istore_n 2, 1) := by decide +kernel
theorem dX1_limitsInAll_4 : decode cX1_limitsInAll 4 = .ok (.iload_n 2, 1) := by decide +kernel
theorem dX1_limitsInAll_5 : decode cX1_limitsInAll 5 = .ok (.bipush 64, 2) := by decide +kernel
theorem dX1_limitsInAll_7 : decode cX1_limitsInAll 7 = .ok (.if_icmp .ge 18, 3) := by decide +kernel
theorem dX1_limitsInAll_10 : decode cX1_limitsInAll 10 = .ok (.iload_n 1, 1) := by decide +kernel
theorem dX1_limitsInAll_11 : decode cX1_limitsInAll 11 = .ok (.aload_n 0, 1) := by decide +kernel
theorem dX1_limitsInAll_12 : decode cX1_limitsInAll 12 = .ok (.getfield 15, 3) := by decide +kernel
theorem dX1_limitsInAll_15 : decode cX1_limitsInAll 15 = .ok (.iload_n 2, 1) := by decide +kernel
theorem dX1_limitsInAll_16 : decode cX1_limitsInAll 16 = .ok (.iaload, 1) := by decide +kernel
theorem dX1_limitsInAll_17 : decode cX1_limitsInAll 17 = .ok (.iadd, 1) := by decide +kernel
theorem dX1_limitsInAll_18 : decode cX1_limitsInAll 18 = .ok (.istore_n 1, 1) := by decide +kernel
theorem dX1_limitsInAll_19 : decode cX1_limitsInAll 19 = .ok (.iinc 2 1, 3) := by decide +kernel
theorem dX1_limitsInAll_22 : decode cX1_limitsInAll 22 = .ok (.goto (-18), 3) := by decide +kernel
theorem dX1_limitsInAll_25 : decode cX1_limitsInAll 25 = .ok (.iload_n 1, 1) := by decide +kernel
theorem dX1_limitsInAll_26 : decode cX1_limitsInAll 26 = .ok (.ireturn, 1) := by decide +kernel
theorem dX1_openLines_0 : decode cX1_openLines 0 = .ok (.iconst 0, 1) := by decide +kernel
theorem dX1_openLines_1 : decode cX1_openLines 1 = .ok (.istore_n 1, 1) := by decide +kernel
theorem dX1_openLines_2 : decode cX1_openLines 2 = .ok (.iconst 0, 1) := by decide +kernel
theorem dX1_openLines_3 : decode cX1_openLines 3 = .ok (.istore_n 2, 1) := by decide +kernel
theorem dX1_openLines_4 : decode cX1_openLines 4 = .ok (.iload_n 2, 1) := by decide +kernel
theorem dX1_openLines_5 : decode cX1_openLines 5 = .ok (.bipush 64, 2) := by decide +kernel
theorem dX1_openLines_7 : decode cX1_openLines 7 = .ok (.if_icmp .ge 26, 3) := by decide +kernel
theorem dX1_openLines_10 : decode cX1_openLines 10 = .ok (.iload_n 1, 1) := by decide +kernel
theorem dX1_openLines_11 : decode cX1_openLines 11 = .ok (.aload_n 0, 1) := by decide +kernel
theorem dX1_openLines_12 : decode cX1_openLines 12 = .ok (.getfield 15, 3) := by decide +kernel
theorem dX1_openLines_15 : decode cX1_openLines 15 = .ok (.iload_n 2, 1) := by decide +kernel
theorem dX1_openLines_16 : decode cX1_openLines 16 = .ok (.iaload, 1) := by decide +kernel
theorem dX1_openLines_17 : decode cX1_openLines 17 = .ok (.ifCond .le 7, 3) := by decide +kernel
theorem dX1_openLines_20 : decode cX1_openLines 20 = .ok (.iconst 1, 1) := by decide +kernel
theorem dX1_openLines_21 : decode cX1_openLines 21 = .ok (.goto 4, 3) := by decide +kernel
theorem dX1_openLines_24 : decode cX1_openLines 24 = .ok (.iconst 0, 1) := by decide +kernel
theorem dX1_openLines_25 : decode cX1_openLines 25 = .ok (.iadd, 1) := by decide +kernel
theorem dX1_openLines_26 : decode cX1_openLines 26 = .ok (.istore_n 1, 1) := by decide +kernel
theorem dX1_openLines_27 : decode cX1_openLines 27 = .ok (.iinc 2 1, 3) := by decide +kernel
theorem dX1_openLines_30 : decode cX1_openLines 30 = .ok (.goto (-26), 3) := by decide +kernel
theorem dX1_openLines_33 : decode cX1_openLines 33 = .ok (.iload_n 1, 1) := by decide +kernel
theorem dX1_openLines_34 : decode cX1_openLines 34 = .ok (.ireturn, 1) := by decide +kernel
theorem dX1_stockInAll_0 : decode cX1_stockInAll 0 = .ok (.iconst 0, 1) := by decide +kernel
theorem dX1_stockInAll_1 : decode cX1_stockInAll 1 = .ok (.istore_n 1, 1) := by decide +kernel
theorem dX1_stockInAll_2 : decode cX1_stockInAll 2 = .ok (.iconst 0, 1) := by decide +kernel
theorem dX1_stockInAll_3 : decode cX1_stockInAll 3 = .ok (.istore_n 2, 1) := by decide +kernel
theorem dX1_stockInAll_4 : decode cX1_stockInAll 4 = .ok (.iload_n 2, 1) := by decide +kernel
theorem dX1_stockInAll_5 : decode cX1_stockInAll 5 = .ok (.bipush 8, 2) := by decide +kernel
theorem dX1_stockInAll_7 : decode cX1_stockInAll 7 = .ok (.if_icmp .ge 18, 3) := by decide +kernel
theorem dX1_stockInAll_10 : decode cX1_stockInAll 10 = .ok (.iload_n 1, 1) := by decide +kernel
theorem dX1_stockInAll_11 : decode cX1_stockInAll 11 = .ok (.aload_n 0, 1) := by decide +kernel
theorem dX1_stockInAll_12 : decode cX1_stockInAll 12 = .ok (.getfield 22, 3) := by decide +kernel
theorem dX1_stockInAll_15 : decode cX1_stockInAll 15 = .ok (.iload_n 2, 1) := by decide +kernel
theorem dX1_stockInAll_16 : decode cX1_stockInAll 16 = .ok (.iaload, 1) := by decide +kernel
theorem dX1_stockInAll_17 : decode cX1_stockInAll 17 = .ok (.iadd, 1) := by decide +kernel
theorem dX1_stockInAll_18 : decode cX1_stockInAll 18 = .ok (.istore_n 1, 1) := by decide +kernel
theorem dX1_stockInAll_19 : decode cX1_stockInAll 19 = .ok (.iinc 2 1, 3) := by decide +kernel
theorem dX1_stockInAll_22 : decode cX1_stockInAll 22 = .ok (.goto (-18), 3) := by decide +kernel
theorem dX1_stockInAll_25 : decode cX1_stockInAll 25 = .ok (.iload_n 1, 1) := by decide +kernel
theorem dX1_stockInAll_26 : decode cX1_stockInAll 26 = .ok (.ireturn, 1) := by decide +kernel
theorem dX1_closeLines_0 : decode cX1_closeLines 0 = .ok (.iconst 0, 1) := by decide +kernel
theorem dX1_closeLines_1 : decode cX1_closeLines 1 = .ok (.istore_n 2, 1) := by decide +kernel
theorem dX1_closeLines_2 : decode cX1_closeLines 2 = .ok (.iconst 0, 1) := by decide +kernel
theorem dX1_closeLines_3 : decode cX1_closeLines 3 = .ok (.istore_n 3, 1) := by decide +kernel
theorem dX1_closeLines_4 : decode cX1_closeLines 4 = .ok (.iload_n 3, 1) := by decide +kernel
theorem dX1_closeLines_5 : decode cX1_closeLines 5 = .ok (.aload_n 0, 1) := by decide +kernel
theorem dX1_closeLines_6 : decode cX1_closeLines 6 = .ok (.getfield 9, 3) := by decide +kernel
theorem dX1_closeLines_9 : decode cX1_closeLines 9 = .ok (.if_icmp .ge 31, 3) := by decide +kernel
theorem dX1_closeLines_12 : decode cX1_closeLines 12 = .ok (.iload_n 2, 1) := by decide +kernel
theorem dX1_closeLines_13 : decode cX1_closeLines 13 = .ok (.aload_n 0, 1) := by decide +kernel
theorem dX1_closeLines_14 : decode cX1_closeLines 14 = .ok (.iload_n 1, 1) := by decide +kernel
theorem dX1_closeLines_15 : decode cX1_closeLines 15 = .ok (.iload_n 3, 1) := by decide +kernel
theorem dX1_closeLines_16 : decode cX1_closeLines 16 = .ok (.invokestatic 49, 3) := by decide +kernel
theorem dX1_closeLines_19 : decode cX1_closeLines 19 = .ok (.invokevirtual 64, 3) := by decide +kernel
theorem dX1_closeLines_22 : decode cX1_closeLines 22 = .ok (.aload_n 0, 1) := by decide +kernel
theorem dX1_closeLines_23 : decode cX1_closeLines 23 = .ok (.iload_n 3, 1) := by decide +kernel
theorem dX1_closeLines_24 : decode cX1_closeLines 24 = .ok (.iload_n 1, 1) := by decide +kernel
theorem dX1_closeLines_25 : decode cX1_closeLines 25 = .ok (.invokestatic 49, 3) := by decide +kernel
theorem dX1_closeLines_28 : decode cX1_closeLines 28 = .ok (.invokevirtual 64, 3) := by decide +kernel
theorem dX1_closeLines_31 : decode cX1_closeLines 31 = .ok (.iadd, 1) := by decide +kernel
theorem dX1_closeLines_32 : decode cX1_closeLines 32 = .ok (.iadd, 1) := by decide +kernel
theorem dX1_closeLines_33 : decode cX1_closeLines 33 = .ok (.istore_n 2, 1) := by decide +kernel
theorem dX1_closeLines_34 : decode cX1_closeLines 34 = .ok (.iinc 3 1, 3) := by decide +kernel
theorem dX1_closeLines_37 : decode cX1_closeLines 37 = .ok (.goto (-33), 3) := by decide +kernel
theorem dX1_closeLines_40 : decode cX1_closeLines 40 = .ok (.iload_n 2, 1) := by decide +kernel
theorem dX1_closeLines_41 : decode cX1_closeLines 41 = .ok (.ireturn, 1) := by decide +kernel
theorem dX1_closeLine_0 : decode cX1_closeLine 0 = .ok (.aload_n 0, 1) := by decide +kernel
theorem dX1_closeLine_1 : decode cX1_closeLine 1 = .ok (.getfield 15, 3) := by decide +kernel
theorem dX1_closeLine_4 : decode cX1_closeLine 4 = .ok (.iload_n 1, 1) := by decide +kernel
theorem dX1_closeLine_5 : decode cX1_closeLine 5 = .ok (.iaload, 1) := by decide +kernel
theorem dX1_closeLine_6 : decode cX1_closeLine 6 = .ok (.ifCond .le 7, 3) := by decide +kernel
theorem dX1_closeLine_9 : decode cX1_closeLine 9 = .ok (.iconst 1, 1) := by decide +kernel
theorem dX1_closeLine_10 : decode cX1_closeLine 10 = .ok (.goto 4, 3) := by decide +kernel
theorem dX1_closeLine_13 : decode cX1_closeLine 13 = .ok (.iconst 0, 1) := by decide +kernel
theorem dX1_closeLine_14 : decode cX1_closeLine 14 = .ok (.istore_n 2, 1) := by decide +kernel
theorem dX1_closeLine_15 : decode cX1_closeLine 15 = .ok (.aload_n 0, 1) := by decide +kernel
theorem dX1_closeLine_16 : decode cX1_closeLine 16 = .ok (.getfield 15, 3) := by decide +kernel
theorem dX1_closeLine_19 : decode cX1_closeLine 19 = .ok (.iload_n 1, 1) := by decide +kernel
theorem dX1_closeLine_20 : decode cX1_closeLine 20 = .ok (.iconst 0, 1) := by decide +kernel
theorem dX1_closeLine_21 : decode cX1_closeLine 21 = .ok (.iastore, 1) := by decide +kernel
theorem dX1_closeLine_22 : decode cX1_closeLine 22 = .ok (.iload_n 2, 1) := by decide +kernel
theorem dX1_closeLine_23 : decode cX1_closeLine 23 = .ok (.ireturn, 1) := by decide +kernel
theorem dX1_heldPlaces_0 : decode cX1_heldPlaces 0 = .ok (.iconst 0, 1) := by decide +kernel
theorem dX1_heldPlaces_1 : decode cX1_heldPlaces 1 = .ok (.istore_n 1, 1) := by decide +kernel
theorem dX1_heldPlaces_2 : decode cX1_heldPlaces 2 = .ok (.iconst 0, 1) := by decide +kernel
theorem dX1_heldPlaces_3 : decode cX1_heldPlaces 3 = .ok (.istore_n 2, 1) := by decide +kernel
theorem dX1_heldPlaces_4 : decode cX1_heldPlaces 4 = .ok (.iload_n 2, 1) := by decide +kernel
theorem dX1_heldPlaces_5 : decode cX1_heldPlaces 5 = .ok (.iconst 4, 1) := by decide +kernel
theorem dX1_heldPlaces_6 : decode cX1_heldPlaces 6 = .ok (.if_icmp .ge 31, 3) := by decide +kernel
theorem dX1_heldPlaces_9 : decode cX1_heldPlaces 9 = .ok (.iload_n 1, 1) := by decide +kernel
theorem dX1_heldPlaces_10 : decode cX1_heldPlaces 10 = .ok (.aload_n 0, 1) := by decide +kernel
theorem dX1_heldPlaces_11 : decode cX1_heldPlaces 11 = .ok (.getfield 27, 3) := by decide +kernel
theorem dX1_heldPlaces_14 : decode cX1_heldPlaces 14 = .ok (.iload_n 2, 1) := by decide +kernel
theorem dX1_heldPlaces_15 : decode cX1_heldPlaces 15 = .ok (.aaload, 1) := by decide +kernel
theorem dX1_heldPlaces_16 : decode cX1_heldPlaces 16 = .ok (.getfield 32, 3) := by decide +kernel
theorem dX1_heldPlaces_19 : decode cX1_heldPlaces 19 = .ok (.ifCond .le 9, 3) := by decide +kernel
theorem dX1_heldPlaces_22 : decode cX1_heldPlaces 22 = .ok (.iconst 1, 1) := by decide +kernel
theorem dX1_heldPlaces_23 : decode cX1_heldPlaces 23 = .ok (.iload_n 2, 1) := by decide +kernel
theorem dX1_heldPlaces_24 : decode cX1_heldPlaces 24 = .ok (.ishl, 1) := by decide +kernel
theorem dX1_heldPlaces_25 : decode cX1_heldPlaces 25 = .ok (.goto 4, 3) := by decide +kernel
theorem dX1_heldPlaces_28 : decode cX1_heldPlaces 28 = .ok (.iconst 0, 1) := by decide +kernel
theorem dX1_heldPlaces_29 : decode cX1_heldPlaces 29 = .ok (.ior, 1) := by decide +kernel
theorem dX1_heldPlaces_30 : decode cX1_heldPlaces 30 = .ok (.istore_n 1, 1) := by decide +kernel
theorem dX1_heldPlaces_31 : decode cX1_heldPlaces 31 = .ok (.iinc 2 1, 3) := by decide +kernel
theorem dX1_heldPlaces_34 : decode cX1_heldPlaces 34 = .ok (.goto (-30), 3) := by decide +kernel
theorem dX1_heldPlaces_37 : decode cX1_heldPlaces 37 = .ok (.iload_n 1, 1) := by decide +kernel
theorem dX1_heldPlaces_38 : decode cX1_heldPlaces 38 = .ok (.ireturn, 1) := by decide +kernel
theorem dX1_holdsAny_0 : decode cX1_holdsAny 0 = .ok (.aload_n 0, 1) := by decide +kernel
theorem dX1_holdsAny_1 : decode cX1_holdsAny 1 = .ok (.invokevirtual 68, 3) := by decide +kernel
theorem dX1_holdsAny_4 : decode cX1_holdsAny 4 = .ok (.ifCond .eq 7, 3) := by decide +kernel
theorem dX1_holdsAny_7 : decode cX1_holdsAny 7 = .ok (.iconst 1, 1) := by decide +kernel
theorem dX1_holdsAny_8 : decode cX1_holdsAny 8 = .ok (.goto 4, 3) := by decide +kernel
theorem dX1_holdsAny_11 : decode cX1_holdsAny 11 = .ok (.iconst 0, 1) := by decide +kernel
theorem dX1_holdsAny_12 : decode cX1_holdsAny 12 = .ok (.ireturn, 1) := by decide +kernel
theorem dX1_isHeldAt_0 : decode cX1_isHeldAt 0 = .ok (.iload_n 1, 1) := by decide +kernel
theorem dX1_isHeldAt_1 : decode cX1_isHeldAt 1 = .ok (.ifCond .lt 24, 3) := by decide +kernel
theorem dX1_isHeldAt_4 : decode cX1_isHeldAt 4 = .ok (.iload_n 1, 1) := by decide +kernel
theorem dX1_isHeldAt_5 : decode cX1_isHeldAt 5 = .ok (.iconst 4, 1) := by decide +kernel
theorem dX1_isHeldAt_6 : decode cX1_isHeldAt 6 = .ok (.if_icmp .ge 19, 3) := by decide +kernel
theorem dX1_isHeldAt_9 : decode cX1_isHeldAt 9 = .ok (.aload_n 0, 1) := by decide +kernel
theorem dX1_isHeldAt_10 : decode cX1_isHeldAt 10 = .ok (.getfield 27, 3) := by decide +kernel
theorem dX1_isHeldAt_13 : decode cX1_isHeldAt 13 = .ok (.iload_n 1, 1) := by decide +kernel
theorem dX1_isHeldAt_14 : decode cX1_isHeldAt 14 = .ok (.aaload, 1) := by decide +kernel
theorem dX1_isHeldAt_15 : decode cX1_isHeldAt 15 = .ok (.getfield 32, 3) := by decide +kernel
theorem dX1_isHeldAt_18 : decode cX1_isHeldAt 18 = .ok (.ifCond .le 7, 3) := by decide +kernel
theorem dX1_isHeldAt_21 : decode cX1_isHeldAt 21 = .ok (.iconst 1, 1) := by decide +kernel
theorem dX1_isHeldAt_22 : decode cX1_isHeldAt 22 = .ok (.goto 4, 3) := by decide +kernel
theorem dX1_isHeldAt_25 : decode cX1_isHeldAt 25 = .ok (.iconst 0, 1) := by decide +kernel
theorem dX1_isHeldAt_26 : decode cX1_isHeldAt 26 = .ok (.ireturn, 1) := by decide +kernel
theorem dX1_freePlace_0 : decode cX1_freePlace 0 = .ok (.iconst 0, 1) := by decide +kernel
theorem dX1_freePlace_1 : decode cX1_freePlace 1 = .ok (.istore_n 1, 1) := by decide +kernel
theorem dX1_freePlace_2 : decode cX1_freePlace 2 = .ok (.iload_n 1, 1) := by decide +kernel
theorem dX1_freePlace_3 : decode cX1_freePlace 3 = .ok (.iconst 4, 1) := by decide +kernel
theorem dX1_freePlace_4 : decode cX1_freePlace 4 = .ok (.if_icmp .ge 23, 3) := by decide +kernel
theorem dX1_freePlace_7 : decode cX1_freePlace 7 = .ok (.aload_n 0, 1) := by decide +kernel
theorem dX1_freePlace_8 : decode cX1_freePlace 8 = .ok (.getfield 27, 3) := by decide +kernel
theorem dX1_freePlace_11 : decode cX1_freePlace 11 = .ok (.iload_n 1, 1) := by decide +kernel
theorem dX1_freePlace_12 : decode cX1_freePlace 12 = .ok (.aaload, 1) := by decide +kernel
theorem dX1_freePlace_13 : decode cX1_freePlace 13 = .ok (.getfield 32, 3) := by decide +kernel
theorem dX1_freePlace_16 : decode cX1_freePlace 16 = .ok (.ifCond .ne 5, 3) := by decide +kernel
theorem dX1_freePlace_19 : decode cX1_freePlace 19 = .ok (.iload_n 1, 1) := by decide +kernel
theorem dX1_freePlace_20 : decode cX1_freePlace 20 = .ok (.ireturn, 1) := by decide +kernel
theorem dX1_freePlace_21 : decode cX1_freePlace 21 = .ok (.iinc 1 1, 3) := by decide +kernel
theorem dX1_freePlace_24 : decode cX1_freePlace 24 = .ok (.goto (-22), 3) := by decide +kernel
theorem dX1_freePlace_27 : decode cX1_freePlace 27 = .ok (.iconst (-1), 1) := by decide +kernel
theorem dX1_freePlace_28 : decode cX1_freePlace 28 = .ok (.ireturn, 1) := by decide +kernel
theorem dX1_makeAt_0 : decode cX1_makeAt 0 = .ok (.aload_n 0, 1) := by decide +kernel
theorem dX1_makeAt_1 : decode cX1_makeAt 1 = .ok (.iload_n 1, 1) := by decide +kernel
theorem dX1_makeAt_2 : decode cX1_makeAt 2 = .ok (.invokevirtual 72, 3) := by decide +kernel
theorem dX1_makeAt_5 : decode cX1_makeAt 5 = .ok (.ifCond .ne 5, 3) := by decide +kernel
theorem dX1_makeAt_8 : decode cX1_makeAt 8 = .ok (.iconst 0, 1) := by decide +kernel
theorem dX1_makeAt_9 : decode cX1_makeAt 9 = .ok (.ireturn, 1) := by decide +kernel
theorem dX1_makeAt_10 : decode cX1_makeAt 10 = .ok (.aload_n 0, 1) := by decide +kernel
theorem dX1_makeAt_11 : decode cX1_makeAt 11 = .ok (.getfield 27, 3) := by decide +kernel
theorem dX1_makeAt_14 : decode cX1_makeAt 14 = .ok (.iload_n 1, 1) := by decide +kernel
theorem dX1_makeAt_15 : decode cX1_makeAt 15 = .ok (.aaload, 1) := by decide +kernel
theorem dX1_makeAt_16 : decode cX1_makeAt 16 = .ok (.getfield 58, 3) := by decide +kernel
theorem dX1_makeAt_19 : decode cX1_makeAt 19 = .ok (.astore_n 2, 1) := by decide +kernel
theorem dX1_makeAt_20 : decode cX1_makeAt 20 = .ok (.iconst 0, 1) := by decide +kernel
theorem dX1_makeAt_21 : decode cX1_makeAt 21 = .ok (.istore_n 3, 1) := by decide +kernel
theorem dX1_makeAt_22 : decode cX1_makeAt 22 = .ok (.iload_n 3, 1) := by decide +kernel
theorem dX1_makeAt_23 : decode cX1_makeAt 23 = .ok (.aload_n 0, 1) := by decide +kernel
theorem dX1_makeAt_24 : decode cX1_makeAt 24 = .ok (.getfield 9, 3) := by decide +kernel
theorem dX1_makeAt_27 : decode cX1_makeAt 27 = .ok (.if_icmp .ge 42, 3) := by decide +kernel
theorem dX1_makeAt_30 : decode cX1_makeAt 30 = .ok (.iconst 0, 1) := by decide +kernel
theorem dX1_makeAt_31 : decode cX1_makeAt 31 = .ok (.istore 4, 2) := by decide +kernel
theorem dX1_makeAt_33 : decode cX1_makeAt 33 = .ok (.iload 4, 2) := by decide +kernel
theorem dX1_makeAt_35 : decode cX1_makeAt 35 = .ok (.aload_n 0, 1) := by decide +kernel
theorem dX1_makeAt_36 : decode cX1_makeAt 36 = .ok (.getfield 9, 3) := by decide +kernel
theorem dX1_makeAt_39 : decode cX1_makeAt 39 = .ok (.if_icmp .ge 24, 3) := by decide +kernel
theorem dX1_makeAt_42 : decode cX1_makeAt 42 = .ok (.aload_n 0, 1) := by decide +kernel
theorem dX1_makeAt_43 : decode cX1_makeAt 43 = .ok (.iload_n 3, 1) := by decide +kernel
theorem dX1_makeAt_44 : decode cX1_makeAt 44 = .ok (.iload 4, 2) := by decide +kernel
theorem dX1_makeAt_46 : decode cX1_makeAt 46 = .ok (.aload_n 2, 1) := by decide +kernel
theorem dX1_makeAt_47 : decode cX1_makeAt 47 = .ok (.iload_n 3, 1) := by decide +kernel
theorem dX1_makeAt_48 : decode cX1_makeAt 48 = .ok (.iload 4, 2) := by decide +kernel
theorem dX1_makeAt_50 : decode cX1_makeAt 50 = .ok (.invokestatic 49, 3) := by decide +kernel
theorem dX1_makeAt_53 : decode cX1_makeAt 53 = .ok (.iaload, 1) := by decide +kernel
theorem dX1_makeAt_54 : decode cX1_makeAt 54 = .ok (.invokevirtual 75, 3) := by decide +kernel
theorem dX1_makeAt_57 : decode cX1_makeAt 57 = .ok (.iinc 4 1, 3) := by decide +kernel
theorem dX1_makeAt_60 : decode cX1_makeAt 60 = .ok (.goto (-27), 3) := by decide +kernel
theorem dX1_makeAt_63 : decode cX1_makeAt 63 = .ok (.iinc 3 1, 3) := by decide +kernel
theorem dX1_makeAt_66 : decode cX1_makeAt 66 = .ok (.goto (-44), 3) := by decide +kernel
theorem dX1_makeAt_69 : decode cX1_makeAt 69 = .ok (.aload_n 0, 1) := by decide +kernel
theorem dX1_makeAt_70 : decode cX1_makeAt 70 = .ok (.iload_n 1, 1) := by decide +kernel
theorem dX1_makeAt_71 : decode cX1_makeAt 71 = .ok (.invokevirtual 79, 3) := by decide +kernel
theorem dX1_makeAt_74 : decode cX1_makeAt 74 = .ok (.ireturn, 1) := by decide +kernel
theorem dX1_dropAt_0 : decode cX1_dropAt 0 = .ok (.aload_n 0, 1) := by decide +kernel
theorem dX1_dropAt_1 : decode cX1_dropAt 1 = .ok (.iload_n 1, 1) := by decide +kernel
theorem dX1_dropAt_2 : decode cX1_dropAt 2 = .ok (.invokevirtual 72, 3) := by decide +kernel
theorem dX1_dropAt_5 : decode cX1_dropAt 5 = .ok (.ifCond .ne 5, 3) := by decide +kernel
theorem dX1_dropAt_8 : decode cX1_dropAt 8 = .ok (.iconst 0, 1) := by decide +kernel
theorem dX1_dropAt_9 : decode cX1_dropAt 9 = .ok (.ireturn, 1) := by decide +kernel
theorem dX1_dropAt_10 : decode cX1_dropAt 10 = .ok (.aload_n 0, 1) := by decide +kernel
theorem dX1_dropAt_11 : decode cX1_dropAt 11 = .ok (.getfield 27, 3) := by decide +kernel
theorem dX1_dropAt_14 : decode cX1_dropAt 14 = .ok (.iload_n 1, 1) := by decide +kernel
theorem dX1_dropAt_15 : decode cX1_dropAt 15 = .ok (.aaload, 1) := by decide +kernel
theorem dX1_dropAt_16 : decode cX1_dropAt 16 = .ok (.getfield 32, 3) := by decide +kernel
theorem dX1_dropAt_19 : decode cX1_dropAt 19 = .ok (.istore_n 2, 1) := by decide +kernel
theorem dX1_dropAt_20 : decode cX1_dropAt 20 = .ok (.aload_n 0, 1) := by decide +kernel
theorem dX1_dropAt_21 : decode cX1_dropAt 21 = .ok (.getfield 27, 3) := by decide +kernel
theorem dX1_dropAt_24 : decode cX1_dropAt 24 = .ok (.iload_n 1, 1) := by decide +kernel
theorem dX1_dropAt_25 : decode cX1_dropAt 25 = .ok (.aaload, 1) := by decide +kernel
theorem dX1_dropAt_26 : decode cX1_dropAt 26 = .ok (.iconst 0, 1) := by decide +kernel
theorem dX1_dropAt_27 : decode cX1_dropAt 27 = .ok (.putfield 32, 3) := by decide +kernel
theorem dX1_dropAt_30 : decode cX1_dropAt 30 = .ok (.iload_n 2, 1) := by decide +kernel
theorem dX1_dropAt_31 : decode cX1_dropAt 31 = .ok (.ireturn, 1) := by decide +kernel
theorem dX2_init_0 : decode cX2_init 0 = .ok (.aload_n 0, 1) := by decide +kernel
theorem dX2_init_1 : decode cX2_init 1 = .ok (.invokespecial 3, 3) := by decide +kernel
theorem dX2_init_4 : decode cX2_init 4 = .ok (.return_, 1) := by decide +kernel
theorem dX2_run_0 : decode cX2_run 0 = .ok (.aload_n 0, 1) := by decide +kernel
theorem dX2_run_1 : decode cX2_run 1 = .ok (.iconst 1, 1) := by decide +kernel
theorem dX2_run_2 : decode cX2_run 2 = .ok (.iload_n 2, 1) := by decide +kernel
theorem dX2_run_3 : decode cX2_run 3 = .ok (.ishl, 1) := by decide +kernel
theorem dX2_run_4 : decode cX2_run 4 = .ok (.putfield 9, 3) := by decide +kernel
theorem dX2_run_7 : decode cX2_run 7 = .ok (.aload_n 0, 1) := by decide +kernel
theorem dX2_run_8 : decode cX2_run 8 = .ok (.iconst 0, 1) := by decide +kernel
theorem dX2_run_9 : decode cX2_run 9 = .ok (.putfield 15, 3) := by decide +kernel
theorem dX2_run_12 : decode cX2_run 12 = .ok (.aload_n 1, 1) := by decide +kernel
theorem dX2_run_13 : decode cX2_run 13 = .ok (.aload_n 0, 1) := by decide +kernel
theorem dX2_run_14 : decode cX2_run 14 = .ok (.getfield 9, 3) := by decide +kernel
theorem dX2_run_17 : decode cX2_run 17 = .ok (.invokestatic 18, 3) := by decide +kernel
theorem dX2_run_20 : decode cX2_run 20 = .ok (.istore_n 3, 1) := by decide +kernel
theorem dX2_run_21 : decode cX2_run 21 = .ok (.iload_n 3, 1) := by decide +kernel
theorem dX2_run_22 : decode cX2_run 22 = .ok (.ifCond .eq 44, 3) := by decide +kernel
theorem dX2_run_25 : decode cX2_run 25 = .ok (.aload_n 0, 1) := by decide +kernel
theorem dX2_run_26 : decode cX2_run 26 = .ok (.getfield 15, 3) := by decide +kernel
theorem dX2_run_29 : decode cX2_run 29 = .ok (.bipush 8, 2) := by decide +kernel
theorem dX2_run_31 : decode cX2_run 31 = .ok (.if_icmp .ge 35, 3) := by decide +kernel
theorem dX2_run_34 : decode cX2_run 34 = .ok (.aload_n 0, 1) := by decide +kernel
theorem dX2_run_35 : decode cX2_run 35 = .ok (.dup, 1) := by decide +kernel
theorem dX2_run_36 : decode cX2_run 36 = .ok (.getfield 9, 3) := by decide +kernel
theorem dX2_run_39 : decode cX2_run 39 = .ok (.iload_n 3, 1) := by decide +kernel
theorem dX2_run_40 : decode cX2_run 40 = .ok (.ior, 1) := by decide +kernel
theorem dX2_run_41 : decode cX2_run 41 = .ok (.putfield 9, 3) := by decide +kernel
theorem dX2_run_44 : decode cX2_run 44 = .ok (.aload_n 0, 1) := by decide +kernel
theorem dX2_run_45 : decode cX2_run 45 = .ok (.dup, 1) := by decide +kernel
theorem dX2_run_46 : decode cX2_run 46 = .ok (.getfield 15, 3) := by decide +kernel
theorem dX2_run_49 : decode cX2_run 49 = .ok (.iconst 1, 1) := by decide +kernel
theorem dX2_run_50 : decode cX2_run 50 = .ok (.iadd, 1) := by decide +kernel
theorem dX2_run_51 : decode cX2_run 51 = .ok (.putfield 15, 3) := by decide +kernel
theorem dX2_run_54 : decode cX2_run 54 = .ok (.aload_n 1, 1) := by decide +kernel
theorem dX2_run_55 : decode cX2_run 55 = .ok (.aload_n 0, 1) := by decide +kernel
theorem dX2_run_56 : decode cX2_run 56 = .ok (.getfield 9, 3) := by decide +kernel
theorem dX2_run_59 : decode cX2_run 59 = .ok (.invokestatic 18, 3) := by decide +kernel
theorem dX2_run_62 : decode cX2_run 62 = .ok (.istore_n 3, 1) := by decide +kernel
theorem dX2_run_63 : decode cX2_run 63 = .ok (.goto (-42), 3) := by decide +kernel
theorem dX2_run_66 : decode cX2_run 66 = .ok (.aload_n 0, 1) := by decide +kernel
theorem dX2_run_67 : decode cX2_run 67 = .ok (.iconst 0, 1) := by decide +kernel
theorem dX2_run_68 : decode cX2_run 68 = .ok (.putfield 22, 3) := by decide +kernel
theorem dX2_run_71 : decode cX2_run 71 = .ok (.aload_n 0, 1) := by decide +kernel
theorem dX2_run_72 : decode cX2_run 72 = .ok (.iconst 0, 1) := by decide +kernel
theorem dX2_run_73 : decode cX2_run 73 = .ok (.putfield 25, 3) := by decide +kernel
theorem dX2_run_76 : decode cX2_run 76 = .ok (.iconst 0, 1) := by decide +kernel
theorem dX2_run_77 : decode cX2_run 77 = .ok (.istore 4, 2) := by decide +kernel
theorem dX2_run_79 : decode cX2_run 79 = .ok (.iload 4, 2) := by decide +kernel
theorem dX2_run_81 : decode cX2_run 81 = .ok (.aload_n 1, 1) := by decide +kernel
theorem dX2_run_82 : decode cX2_run 82 = .ok (.getfield 28, 3) := by decide +kernel
theorem dX2_run_85 : decode cX2_run 85 = .ok (.if_icmp .ge 59, 3) := by decide +kernel
theorem dX2_run_88 : decode cX2_run 88 = .ok (.aload_n 1, 1) := by decide +kernel
theorem dX2_run_89 : decode cX2_run 89 = .ok (.iload 4, 2) := by decide +kernel
theorem dX2_run_91 : decode cX2_run 91 = .ok (.aload_n 0, 1) := by decide +kernel
theorem dX2_run_92 : decode cX2_run 92 = .ok (.getfield 9, 3) := by decide +kernel
theorem dX2_run_95 : decode cX2_run 95 = .ok (.invokestatic 33, 3) := by decide +kernel
theorem dX2_run_98 : decode cX2_run 98 = .ok (.istore 5, 2) := by decide +kernel
theorem dX2_run_100 : decode cX2_run 100 = .ok (.aload_n 0, 1) := by decide +kernel
theorem dX2_run_101 : decode cX2_run 101 = .ok (.dup, 1) := by decide +kernel
theorem dX2_run_102 : decode cX2_run 102 = .ok (.getfield 22, 3) := by decide +kernel
theorem dX2_run_105 : decode cX2_run 105 = .ok (.iload 5, 2) := by decide +kernel
theorem dX2_run_107 : decode cX2_run 107 = .ok (.iadd, 1) := by decide +kernel
theorem dX2_run_108 : decode cX2_run 108 = .ok (.putfield 22, 3) := by decide +kernel
theorem dX2_run_111 : decode cX2_run 111 = .ok (.aload_n 0, 1) := by decide +kernel
theorem dX2_run_112 : decode cX2_run 112 = .ok (.dup, 1) := by decide +kernel
theorem dX2_run_113 : decode cX2_run 113 = .ok (.getfield 25, 3) := by decide +kernel
theorem dX2_run_116 : decode cX2_run 116 = .ok (.aload_n 0, 1) := by decide +kernel
theorem dX2_run_117 : decode cX2_run 117 = .ok (.getfield 9, 3) := by decide +kernel
theorem dX2_run_120 : decode cX2_run 120 = .ok (.iload 4, 2) := by decide +kernel
theorem dX2_run_122 : decode cX2_run 122 = .ok (.ishr, 1) := by decide +kernel
theorem dX2_run_123 : decode cX2_run 123 = .ok (.iconst 1, 1) := by decide +kernel
theorem dX2_run_124 : decode cX2_run 124 = .ok (.iand, 1) := by decide +kernel
theorem dX2_run_125 : decode cX2_run 125 = .ok (.ifCond .ne 8, 3) := by decide +kernel
theorem dX2_run_128 : decode cX2_run 128 = .ok (.iload 5, 2) := by decide +kernel
theorem dX2_run_130 : decode cX2_run 130 = .ok (.goto 4, 3) := by decide +kernel
theorem dX2_run_133 : decode cX2_run 133 = .ok (.iconst 0, 1) := by decide +kernel
theorem dX2_run_134 : decode cX2_run 134 = .ok (.iadd, 1) := by decide +kernel
theorem dX2_run_135 : decode cX2_run 135 = .ok (.putfield 25, 3) := by decide +kernel
theorem dX2_run_138 : decode cX2_run 138 = .ok (.iinc 4 1, 3) := by decide +kernel
theorem dX2_run_141 : decode cX2_run 141 = .ok (.goto (-62), 3) := by decide +kernel
theorem dX2_run_144 : decode cX2_run 144 = .ok (.return_, 1) := by decide +kernel
theorem dX2_nextToFail_0 : decode cX2_nextToFail 0 = .ok (.iconst 0, 1) := by decide +kernel
theorem dX2_nextToFail_1 : decode cX2_nextToFail 1 = .ok (.istore_n 2, 1) := by decide +kernel
theorem dX2_nextToFail_2 : decode cX2_nextToFail 2 = .ok (.iconst 0, 1) := by decide +kernel
theorem dX2_nextToFail_3 : decode cX2_nextToFail 3 = .ok (.istore_n 3, 1) := by decide +kernel
theorem dX2_nextToFail_4 : decode cX2_nextToFail 4 = .ok (.iload_n 3, 1) := by decide +kernel
theorem dX2_nextToFail_5 : decode cX2_nextToFail 5 = .ok (.aload_n 0, 1) := by decide +kernel
theorem dX2_nextToFail_6 : decode cX2_nextToFail 6 = .ok (.getfield 28, 3) := by decide +kernel
theorem dX2_nextToFail_9 : decode cX2_nextToFail 9 = .ok (.if_icmp .ge 44, 3) := by decide +kernel
theorem dX2_nextToFail_12 : decode cX2_nextToFail 12 = .ok (.iload_n 3, 1) := by decide +kernel
theorem dX2_nextToFail_13 : decode cX2_nextToFail 13 = .ok (.bipush 8, 2) := by decide +kernel
theorem dX2_nextToFail_15 : decode cX2_nextToFail 15 = .ok (.if_icmp .ge 38, 3) := by decide +kernel
theorem dX2_nextToFail_18 : decode cX2_nextToFail 18 = .ok (.iload_n 1, 1) := by decide +kernel
theorem dX2_nextToFail_19 : decode cX2_nextToFail 19 = .ok (.iload_n 3, 1) := by decide +kernel
theorem dX2_nextToFail_20 : decode cX2_nextToFail 20 = .ok (.ishr, 1) := by decide +kernel
theorem dX2_nextToFail_21 : decode cX2_nextToFail 21 = .ok (.iconst 1, 1) := by decide +kernel
theorem dX2_nextToFail_22 : decode cX2_nextToFail 22 = .ok (.iand, 1) := by decide +kernel
theorem dX2_nextToFail_23 : decode cX2_nextToFail 23 = .ok (.ifCond .ne 24, 3) := by decide +kernel
theorem dX2_nextToFail_26 : decode cX2_nextToFail 26 = .ok (.aload_n 0, 1) := by decide +kernel
theorem dX2_nextToFail_27 : decode cX2_nextToFail 27 = .ok (.iload_n 3, 1) := by decide +kernel
theorem dX2_nextToFail_28 : decode cX2_nextToFail 28 = .ok (.iload_n 1, 1) := by decide +kernel
theorem dX2_nextToFail_29 : decode cX2_nextToFail 29 = .ok (.invokestatic 33, 3) := by decide +kernel
theorem dX2_nextToFail_32 : decode cX2_nextToFail 32 = .ok (.aload_n 0, 1) := by decide +kernel
theorem dX2_nextToFail_33 : decode cX2_nextToFail 33 = .ok (.getfield 37, 3) := by decide +kernel
theorem dX2_nextToFail_36 : decode cX2_nextToFail 36 = .ok (.iload_n 3, 1) := by decide +kernel
theorem dX2_nextToFail_37 : decode cX2_nextToFail 37 = .ok (.iaload, 1) := by decide +kernel
theorem dX2_nextToFail_38 : decode cX2_nextToFail 38 = .ok (.if_icmp .le 9, 3) := by decide +kernel
theorem dX2_nextToFail_41 : decode cX2_nextToFail 41 = .ok (.iload_n 2, 1) := by decide +kernel
theorem dX2_nextToFail_42 : decode cX2_nextToFail 42 = .ok (.iconst 1, 1) := by decide +kernel
theorem dX2_nextToFail_43 : decode cX2_nextToFail 43 = .ok (.iload_n 3, 1) := by decide +kernel
theorem dX2_nextToFail_44 : decode cX2_nextToFail 44 = .ok (.ishl, 1) := by decide +kernel
theorem dX2_nextToFail_45 : decode cX2_nextToFail 45 = .ok (.ior, 1) := by decide +kernel
theorem dX2_nextToFail_46 : decode cX2_nextToFail 46 = .ok (.istore_n 2, 1) := by decide +kernel
theorem dX2_nextToFail_47 : decode cX2_nextToFail 47 = .ok (.iinc 3 1, 3) := by decide +kernel
theorem dX2_nextToFail_50 : decode cX2_nextToFail 50 = .ok (.goto (-46), 3) := by decide +kernel
theorem dX2_nextToFail_53 : decode cX2_nextToFail 53 = .ok (.iload_n 2, 1) := by decide +kernel
theorem dX2_nextToFail_54 : decode cX2_nextToFail 54 = .ok (.ireturn, 1) := by decide +kernel
theorem dX2_lossOf_0 : decode cX2_lossOf 0 = .ok (.iconst 0, 1) := by decide +kernel
theorem dX2_lossOf_1 : decode cX2_lossOf 1 = .ok (.istore_n 3, 1) := by decide +kernel
theorem dX2_lossOf_2 : decode cX2_lossOf 2 = .ok (.iconst 0, 1) := by decide +kernel
theorem dX2_lossOf_3 : decode cX2_lossOf 3 = .ok (.istore 4, 2) := by decide +kernel
theorem dX2_lossOf_5 : decode cX2_lossOf 5 = .ok (.iload 4, 2) := by decide +kernel
theorem dX2_lossOf_7 : decode cX2_lossOf 7 = .ok (.aload_n 0, 1) := by decide +kernel
theorem dX2_lossOf_8 : decode cX2_lossOf 8 = .ok (.getfield 28, 3) := by decide +kernel
theorem dX2_lossOf_11 : decode cX2_lossOf 11 = .ok (.if_icmp .ge 33, 3) := by decide +kernel
theorem dX2_lossOf_14 : decode cX2_lossOf 14 = .ok (.iload_n 3, 1) := by decide +kernel
theorem dX2_lossOf_15 : decode cX2_lossOf 15 = .ok (.iload_n 2, 1) := by decide +kernel
theorem dX2_lossOf_16 : decode cX2_lossOf 16 = .ok (.iload 4, 2) := by decide +kernel
theorem dX2_lossOf_18 : decode cX2_lossOf 18 = .ok (.ishr, 1) := by decide +kernel
theorem dX2_lossOf_19 : decode cX2_lossOf 19 = .ok (.iconst 1, 1) := by decide +kernel
theorem dX2_lossOf_20 : decode cX2_lossOf 20 = .ok (.iand, 1) := by decide +kernel
theorem dX2_lossOf_21 : decode cX2_lossOf 21 = .ok (.iconst 1, 1) := by decide +kernel
theorem dX2_lossOf_22 : decode cX2_lossOf 22 = .ok (.if_icmp .ne 13, 3) := by decide +kernel
theorem dX2_lossOf_25 : decode cX2_lossOf 25 = .ok (.aload_n 0, 1) := by decide +kernel
theorem dX2_lossOf_26 : decode cX2_lossOf 26 = .ok (.iload 4, 2) := by decide +kernel
theorem dX2_lossOf_28 : decode cX2_lossOf 28 = .ok (.iload_n 1, 1) := by decide +kernel
theorem dX2_lossOf_29 : decode cX2_lossOf 29 = .ok (.invokevirtual 41, 3) := by decide +kernel
theorem dX2_lossOf_32 : decode cX2_lossOf 32 = .ok (.goto 4, 3) := by decide +kernel
theorem dX2_lossOf_35 : decode cX2_lossOf 35 = .ok (.iconst 0, 1) := by decide +kernel
theorem dX2_lossOf_36 : decode cX2_lossOf 36 = .ok (.iadd, 1) := by decide +kernel
theorem dX2_lossOf_37 : decode cX2_lossOf 37 = .ok (.istore_n 3, 1) := by decide +kernel
theorem dX2_lossOf_38 : decode cX2_lossOf 38 = .ok (.iinc 4 1, 3) := by decide +kernel
theorem dX2_lossOf_41 : decode cX2_lossOf 41 = .ok (.goto (-36), 3) := by decide +kernel
theorem dX2_lossOf_44 : decode cX2_lossOf 44 = .ok (.iload_n 3, 1) := by decide +kernel
theorem dX2_lossOf_45 : decode cX2_lossOf 45 = .ok (.ireturn, 1) := by decide +kernel
theorem dX3_init_0 : decode cX3_init 0 = .ok (.aload_n 0, 1) := by decide +kernel
theorem dX3_init_1 : decode cX3_init 1 = .ok (.invokespecial 3, 3) := by decide +kernel
theorem dX3_init_4 : decode cX3_init 4 = .ok (.aload_n 0, 1) := by decide +kernel
theorem dX3_init_5 : decode cX3_init 5 = .ok (.bipush 64, 2) := by decide +kernel
theorem dX3_init_7 : decode cX3_init 7 = .ok (.newarray .int, 2) := by decide +kernel
theorem dX3_init_9 : decode cX3_init 9 = .ok (.putfield 9, 3) := by decide +kernel
theorem dX3_init_12 : decode cX3_init 12 = .ok (.return_, 1) := by decide +kernel
theorem dX3_copyFrom_0 : decode cX3_copyFrom 0 = .ok (.aload_n 0, 1) := by decide +kernel
theorem dX3_copyFrom_1 : decode cX3_copyFrom 1 = .ok (.aload_n 1, 1) := by decide +kernel
theorem dX3_copyFrom_2 : decode cX3_copyFrom 2 = .ok (.getfield 15, 3) := by decide +kernel
theorem dX3_copyFrom_5 : decode cX3_copyFrom 5 = .ok (.putfield 15, 3) := by decide +kernel
theorem dX3_copyFrom_8 : decode cX3_copyFrom 8 = .ok (.aload_n 0, 1) := by decide +kernel
theorem dX3_copyFrom_9 : decode cX3_copyFrom 9 = .ok (.aload_n 1, 1) := by decide +kernel
theorem dX3_copyFrom_10 : decode cX3_copyFrom 10 = .ok (.getfield 19, 3) := by decide +kernel
theorem dX3_copyFrom_13 : decode cX3_copyFrom 13 = .ok (.putfield 19, 3) := by decide +kernel
theorem dX3_copyFrom_16 : decode cX3_copyFrom 16 = .ok (.aload_n 0, 1) := by decide +kernel
theorem dX3_copyFrom_17 : decode cX3_copyFrom 17 = .ok (.aload_n 1, 1) := by decide +kernel
theorem dX3_copyFrom_18 : decode cX3_copyFrom 18 = .ok (.getfield 22, 3) := by decide +kernel
theorem dX3_copyFrom_21 : decode cX3_copyFrom 21 = .ok (.putfield 22, 3) := by decide +kernel
theorem dX3_copyFrom_24 : decode cX3_copyFrom 24 = .ok (.aload_n 0, 1) := by decide +kernel
theorem dX3_copyFrom_25 : decode cX3_copyFrom 25 = .ok (.getfield 22, 3) := by decide +kernel
theorem dX3_copyFrom_28 : decode cX3_copyFrom 28 = .ok (.ifCond .le 18, 3) := by decide +kernel
theorem dX3_copyFrom_31 : decode cX3_copyFrom 31 = .ok (.aload_n 1, 1) := by decide +kernel
theorem dX3_copyFrom_32 : decode cX3_copyFrom 32 = .ok (.getfield 9, 3) := by decide +kernel
theorem dX3_copyFrom_35 : decode cX3_copyFrom 35 = .ok (.iconst 0, 1) := by decide +kernel
theorem dX3_copyFrom_36 : decode cX3_copyFrom 36 = .ok (.aload_n 0, 1) := by decide +kernel
theorem dX3_copyFrom_37 : decode cX3_copyFrom 37 = .ok (.getfield 9, 3) := by decide +kernel
theorem dX3_copyFrom_40 : decode cX3_copyFrom 40 = .ok (.iconst 0, 1) := by decide +kernel
theorem dX3_copyFrom_41 : decode cX3_copyFrom 41 = .ok (.bipush 64, 2) := by decide +kernel
theorem dX3_copyFrom_43 : decode cX3_copyFrom 43 = .ok (.invokestatic 25, 3) := by decide +kernel
theorem dX3_copyFrom_46 : decode cX3_copyFrom 46 = .ok (.return_, 1) := by decide +kernel
theorem dX3_take_0 : decode cX3_take 0 = .ok (.aload_n 0, 1) := by decide +kernel
theorem dX3_take_1 : decode cX3_take 1 = .ok (.iload_n 1, 1) := by decide +kernel
theorem dX3_take_2 : decode cX3_take 2 = .ok (.putfield 15, 3) := by decide +kernel
theorem dX3_take_5 : decode cX3_take 5 = .ok (.aload_n 0, 1) := by decide +kernel
theorem dX3_take_6 : decode cX3_take 6 = .ok (.iload_n 2, 1) := by decide +kernel
theorem dX3_take_7 : decode cX3_take 7 = .ok (.putfield 19, 3) := by decide +kernel
theorem dX3_take_10 : decode cX3_take 10 = .ok (.aload_n 0, 1) := by decide +kernel
theorem dX3_take_11 : decode cX3_take 11 = .ok (.iload_n 3, 1) := by decide +kernel
theorem dX3_take_12 : decode cX3_take 12 = .ok (.putfield 22, 3) := by decide +kernel
theorem dX3_take_15 : decode cX3_take 15 = .ok (.iconst 0, 1) := by decide +kernel
theorem dX3_take_16 : decode cX3_take 16 = .ok (.istore 5, 2) := by decide +kernel
theorem dX3_take_18 : decode cX3_take 18 = .ok (.iload 5, 2) := by decide +kernel
theorem dX3_take_20 : decode cX3_take 20 = .ok (.bipush 8, 2) := by decide +kernel
theorem dX3_take_22 : decode cX3_take 22 = .ok (.if_icmp .ge 50, 3) := by decide +kernel
theorem dX3_take_25 : decode cX3_take 25 = .ok (.iconst 0, 1) := by decide +kernel
theorem dX3_take_26 : decode cX3_take 26 = .ok (.istore 6, 2) := by decide +kernel
theorem dX3_take_28 : decode cX3_take 28 = .ok (.iload 6, 2) := by decide +kernel
theorem dX3_take_30 : decode cX3_take 30 = .ok (.bipush 8, 2) := by decide +kernel
theorem dX3_take_32 : decode cX3_take 32 = .ok (.if_icmp .ge 34, 3) := by decide +kernel
theorem dX3_take_35 : decode cX3_take 35 = .ok (.aload_n 0, 1) := by decide +kernel
theorem dX3_take_36 : decode cX3_take 36 = .ok (.getfield 9, 3) := by decide +kernel
theorem dX3_take_39 : decode cX3_take 39 = .ok (.iload 5, 2) := by decide +kernel
theorem dX3_take_41 : decode cX3_take 41 = .ok (.iload 6, 2) := by decide +kernel
theorem dX3_take_43 : decode cX3_take 43 = .ok (.invokestatic 31, 3) := by decide +kernel
theorem dX3_take_46 : decode cX3_take 46 = .ok (.aload 4, 2) := by decide +kernel
theorem dX3_take_48 : decode cX3_take 48 = .ok (.iload 5, 2) := by decide +kernel
theorem dX3_take_50 : decode cX3_take 50 = .ok (.iload 6, 2) := by decide +kernel
theorem dX3_take_52 : decode cX3_take 52 = .ok (.invokevirtual 35, 3) := by decide +kernel
theorem dX3_take_55 : decode cX3_take 55 = .ok (.iconst 0, 1) := by decide +kernel
theorem dX3_take_56 : decode cX3_take 56 = .ok (.invokestatic 40, 3) := by decide +kernel
theorem dX3_take_59 : decode cX3_take 59 = .ok (.iastore, 1) := by decide +kernel
theorem dX3_take_60 : decode cX3_take 60 = .ok (.iinc 6 1, 3) := by decide +kernel
theorem dX3_take_63 : decode cX3_take 63 = .ok (.goto (-35), 3) := by decide +kernel
theorem dX3_take_66 : decode cX3_take 66 = .ok (.iinc 5 1, 3) := by decide +kernel
theorem dX3_take_69 : decode cX3_take 69 = .ok (.goto (-51), 3) := by decide +kernel
theorem dX3_take_72 : decode cX3_take 72 = .ok (.return_, 1) := by decide +kernel
theorem dX3_steps_0 : decode cX3_steps 0 = .ok (.iconst 0, 1) := by decide +kernel
theorem dX3_steps_1 : decode cX3_steps 1 = .ok (.istore_n 1, 1) := by decide +kernel
theorem dX3_steps_2 : decode cX3_steps 2 = .ok (.iconst 0, 1) := by decide +kernel
theorem dX3_steps_3 : decode cX3_steps 3 = .ok (.istore_n 2, 1) := by decide +kernel
theorem dX3_steps_4 : decode cX3_steps 4 = .ok (.iload_n 2, 1) := by decide +kernel
theorem dX3_steps_5 : decode cX3_steps 5 = .ok (.bipush 64, 2) := by decide +kernel
theorem dX3_steps_7 : decode cX3_steps 7 = .ok (.if_icmp .ge 26, 3) := by decide +kernel
theorem dX3_steps_10 : decode cX3_steps 10 = .ok (.iload_n 1, 1) := by decide +kernel
theorem dX3_steps_11 : decode cX3_steps 11 = .ok (.aload_n 0, 1) := by decide +kernel
theorem dX3_steps_12 : decode cX3_steps 12 = .ok (.getfield 9, 3) := by decide +kernel
theorem dX3_steps_15 : decode cX3_steps 15 = .ok (.iload_n 2, 1) := by decide +kernel
theorem dX3_steps_16 : decode cX3_steps 16 = .ok (.iaload, 1) := by decide +kernel
theorem dX3_steps_17 : decode cX3_steps 17 = .ok (.ifCond .le 7, 3) := by decide +kernel
theorem dX3_steps_20 : decode cX3_steps 20 = .ok (.iconst 1, 1) := by decide +kernel
theorem dX3_steps_21 : decode cX3_steps 21 = .ok (.goto 4, 3) := by decide +kernel
theorem dX3_steps_24 : decode cX3_steps 24 = .ok (.iconst 0, 1) := by decide +kernel
theorem dX3_steps_25 : decode cX3_steps 25 = .ok (.iadd, 1) := by decide +kernel
theorem dX3_steps_26 : decode cX3_steps 26 = .ok (.istore_n 1, 1) := by decide +kernel
theorem dX3_steps_27 : decode cX3_steps 27 = .ok (.iinc 2 1, 3) := by decide +kernel
theorem dX3_steps_30 : decode cX3_steps 30 = .ok (.goto (-26), 3) := by decide +kernel
theorem dX3_steps_33 : decode cX3_steps 33 = .ok (.iload_n 1, 1) := by decide +kernel
theorem dX3_steps_34 : decode cX3_steps 34 = .ok (.ireturn, 1) := by decide +kernel
theorem dX4_init_0 : decode cX4_init 0 = .ok (.aload_n 0, 1) := by decide +kernel
theorem dX4_init_1 : decode cX4_init 1 = .ok (.invokespecial 3, 3) := by decide +kernel
theorem dX4_init_4 : decode cX4_init 4 = .ok (.aload_n 0, 1) := by decide +kernel
theorem dX4_init_5 : decode cX4_init 5 = .ok (.bipush 64, 2) := by decide +kernel
theorem dX4_init_7 : decode cX4_init 7 = .ok (.newarray .int, 2) := by decide +kernel
theorem dX4_init_9 : decode cX4_init 9 = .ok (.putfield 9, 3) := by decide +kernel
theorem dX4_init_12 : decode cX4_init 12 = .ok (.aload_n 0, 1) := by decide +kernel
theorem dX4_init_13 : decode cX4_init 13 = .ok (.bipush 64, 2) := by decide +kernel
theorem dX4_init_15 : decode cX4_init 15 = .ok (.newarray .int, 2) := by decide +kernel
theorem dX4_init_17 : decode cX4_init 17 = .ok (.putfield 15, 3) := by decide +kernel
theorem dX4_init_20 : decode cX4_init 20 = .ok (.aload_n 0, 1) := by decide +kernel
theorem dX4_init_21 : decode cX4_init 21 = .ok (.bipush 64, 2) := by decide +kernel
theorem dX4_init_23 : decode cX4_init 23 = .ok (.newarray .int, 2) := by decide +kernel
theorem dX4_init_25 : decode cX4_init 25 = .ok (.putfield 18, 3) := by decide +kernel
theorem dX4_init_28 : decode cX4_init 28 = .ok (.aload_n 0, 1) := by decide +kernel
theorem dX4_init_29 : decode cX4_init 29 = .ok (.bipush 8, 2) := by decide +kernel
theorem dX4_init_31 : decode cX4_init 31 = .ok (.newarray .int, 2) := by decide +kernel
theorem dX4_init_33 : decode cX4_init 33 = .ok (.putfield 21, 3) := by decide +kernel
theorem dX4_init_36 : decode cX4_init 36 = .ok (.aload_n 0, 1) := by decide +kernel
theorem dX4_init_37 : decode cX4_init 37 = .ok (.bipush 8, 2) := by decide +kernel
theorem dX4_init_39 : decode cX4_init 39 = .ok (.newarray .int, 2) := by decide +kernel
theorem dX4_init_41 : decode cX4_init 41 = .ok (.putfield 24, 3) := by decide +kernel
theorem dX4_init_44 : decode cX4_init 44 = .ok (.aload_n 0, 1) := by decide +kernel
theorem dX4_init_45 : decode cX4_init 45 = .ok (.bipush 8, 2) := by decide +kernel
theorem dX4_init_47 : decode cX4_init 47 = .ok (.newarray .int, 2) := by decide +kernel
theorem dX4_init_49 : decode cX4_init 49 = .ok (.putfield 27, 3) := by decide +kernel
theorem dX4_init_52 : decode cX4_init 52 = .ok (.aload_n 0, 1) := by decide +kernel
theorem dX4_init_53 : decode cX4_init 53 = .ok (.sipush 256, 3) := by decide +kernel
theorem dX4_init_56 : decode cX4_init 56 = .ok (.newarray .int, 2) := by decide +kernel
theorem dX4_init_58 : decode cX4_init 58 = .ok (.putfield 30, 3) := by decide +kernel
theorem dX4_init_61 : decode cX4_init 61 = .ok (.aload_n 0, 1) := by decide +kernel
theorem dX4_init_62 : decode cX4_init 62 = .ok (.sipush 256, 3) := by decide +kernel
theorem dX4_init_65 : decode cX4_init 65 = .ok (.newarray .int, 2) := by decide +kernel
theorem dX4_init_67 : decode cX4_init 67 = .ok (.putfield 33, 3) := by decide +kernel
theorem dX4_init_70 : decode cX4_init 70 = .ok (.return_, 1) := by decide +kernel
theorem dX4_load_0 : decode cX4_load 0 = .ok (.aload_n 0, 1) := by decide +kernel
theorem dX4_load_1 : decode cX4_load 1 = .ok (.aload_n 1, 1) := by decide +kernel
theorem dX4_load_2 : decode cX4_load 2 = .ok (.getfield 36, 3) := by decide +kernel
theorem dX4_load_5 : decode cX4_load 5 = .ok (.putfield 42, 3) := by decide +kernel
theorem dX4_load_8 : decode cX4_load 8 = .ok (.iconst 0, 1) := by decide +kernel
theorem dX4_load_9 : decode cX4_load 9 = .ok (.istore_n 2, 1) := by decide +kernel
theorem dX4_load_10 : decode cX4_load 10 = .ok (.iload_n 2, 1) := by decide +kernel
theorem dX4_load_11 : decode cX4_load 11 = .ok (.bipush 8, 2) := by decide +kernel
theorem dX4_load_13 : decode cX4_load 13 = .ok (.if_icmp .ge 76, 3) := by decide +kernel
theorem dX4_load_16 : decode cX4_load 16 = .ok (.iconst 0, 1) := by decide +kernel
theorem dX4_load_17 : decode cX4_load 17 = .ok (.istore_n 3, 1) := by decide +kernel
theorem dX4_load_18 : decode cX4_load 18 = .ok (.iload_n 3, 1) := by decide +kernel
theorem dX4_load_19 : decode cX4_load 19 = .ok (.bipush 8, 2) := by decide +kernel
theorem dX4_load_21 : decode cX4_load 21 = .ok (.if_icmp .ge 62, 3) := by decide +kernel
theorem dX4_load_24 : decode cX4_load 24 = .ok (.iload_n 2, 1) := by decide +kernel
theorem dX4_load_25 : decode cX4_load 25 = .ok (.aload_n 0, 1) := by decide +kernel
theorem dX4_load_26 : decode cX4_load 26 = .ok (.getfield 42, 3) := by decide +kernel
theorem dX4_load_29 : decode cX4_load 29 = .ok (.if_icmp .ge 20, 3) := by decide +kernel
theorem dX4_load_32 : decode cX4_load 32 = .ok (.iload_n 3, 1) := by decide +kernel
theorem dX4_load_33 : decode cX4_load 33 = .ok (.aload_n 0, 1) := by decide +kernel
theorem dX4_load_34 : decode cX4_load 34 = .ok (.getfield 42, 3) := by decide +kernel
theorem dX4_load_37 : decode cX4_load 37 = .ok (.if_icmp .ge 12, 3) := by decide +kernel
theorem dX4_load_40 : decode cX4_load 40 = .ok (.iload_n 2, 1) := by decide +kernel
theorem dX4_load_41 : decode cX4_load 41 = .ok (.iload_n 3, 1) := by decide +kernel
theorem dX4_load_42 : decode cX4_load 42 = .ok (.if_icmp .eq 7, 3) := by decide +kernel
theorem dX4_load_45 : decode cX4_load 45 = .ok (.iconst 1, 1) := by decide +kernel
theorem dX4_load_46 : decode cX4_load 46 = .ok (.goto 4, 3) := by decide +kernel
theorem dX4_load_49 : decode cX4_load 49 = .ok (.iconst 0, 1) := by decide +kernel
theorem dX4_load_50 : decode cX4_load 50 = .ok (.istore 4, 2) := by decide +kernel
theorem dX4_load_52 : decode cX4_load 52 = .ok (.aload_n 0, 1) := by decide +kernel
theorem dX4_load_53 : decode cX4_load 53 = .ok (.getfield 9, 3) := by decide +kernel
theorem dX4_load_56 : decode cX4_load 56 = .ok (.iload_n 2, 1) := by decide +kernel
theorem dX4_load_57 : decode cX4_load 57 = .ok (.iload_n 3, 1) := by decide +kernel
theorem dX4_load_58 : decode cX4_load 58 = .ok (.invokestatic 43, 3) := by decide +kernel
theorem dX4_load_61 : decode cX4_load 61 = .ok (.iload 4, 2) := by decide +kernel
theorem dX4_load_63 : decode cX4_load 63 = .ok (.ifCond .eq 12, 3) := by decide +kernel
theorem dX4_load_66 : decode cX4_load 66 = .ok (.aload_n 1, 1) := by decide +kernel
theorem dX4_load_67 : decode cX4_load 67 = .ok (.iload_n 2, 1) := by decide +kernel
theorem dX4_load_68 : decode cX4_load 68 = .ok (.iload_n 3, 1) := by decide +kernel
theorem dX4_load_69 : decode cX4_load 69 = .ok (.invokevirtual 47, 3) := by decide +kernel
theorem dX4_load_72 : decode cX4_load 72 = .ok (.goto 4, 3) := by decide +kernel
theorem dX4_load_75 : decode cX4_load 75 = .ok (.iconst 0, 1) := by decide +kernel
theorem dX4_load_76 : decode cX4_load 76 = .ok (.iastore, 1) := by decide +kernel
theorem dX4_load_77 : decode cX4_load 77 = .ok (.iinc 3 1, 3) := by decide +kernel
theorem dX4_load_80 : decode cX4_load 80 = .ok (.goto (-62), 3) := by decide +kernel
theorem dX4_load_83 : decode cX4_load 83 = .ok (.iinc 2 1, 3) := by decide +kernel
theorem dX4_load_86 : decode cX4_load 86 = .ok (.goto (-76), 3) := by decide +kernel
theorem dX4_load_89 : decode cX4_load 89 = .ok (.aload_n 0, 1) := by decide +kernel
theorem dX4_load_90 : decode cX4_load 90 = .ok (.getfield 9, 3) := by decide +kernel
theorem dX4_load_93 : decode cX4_load 93 = .ok (.iconst 0, 1) := by decide +kernel
theorem dX4_load_94 : decode cX4_load 94 = .ok (.aload_n 0, 1) := by decide +kernel
theorem dX4_load_95 : decode cX4_load 95 = .ok (.getfield 15, 3) := by decide +kernel
theorem dX4_load_98 : decode cX4_load 98 = .ok (.iconst 0, 1) := by decide +kernel
theorem dX4_load_99 : decode cX4_load 99 = .ok (.bipush 64, 2) := by decide +kernel
theorem dX4_load_101 : decode cX4_load 101 = .ok (.invokestatic 50, 3) := by decide +kernel
theorem dX4_load_104 : decode cX4_load 104 = .ok (.return_, 1) := by decide +kernel
theorem dX4_widen_0 : decode cX4_widen 0 = .ok (.aload_n 0, 1) := by decide +kernel
theorem dX4_widen_1 : decode cX4_widen 1 = .ok (.getfield 9, 3) := by decide +kernel
theorem dX4_widen_4 : decode cX4_widen 4 = .ok (.iload_n 1, 1) := by decide +kernel
theorem dX4_widen_5 : decode cX4_widen 5 = .ok (.iload_n 2, 1) := by decide +kernel
theorem dX4_widen_6 : decode cX4_widen 6 = .ok (.invokestatic 43, 3) := by decide +kernel
theorem dX4_widen_9 : decode cX4_widen 9 = .ok (.dup2, 1) := by decide +kernel
theorem dX4_widen_10 : decode cX4_widen 10 = .ok (.iaload, 1) := by decide +kernel
theorem dX4_widen_11 : decode cX4_widen 11 = .ok (.iload_n 3, 1) := by decide +kernel
theorem dX4_widen_12 : decode cX4_widen 12 = .ok (.iadd, 1) := by decide +kernel
theorem dX4_widen_13 : decode cX4_widen 13 = .ok (.iastore, 1) := by decide +kernel
theorem dX4_widen_14 : decode cX4_widen 14 = .ok (.return_, 1) := by decide +kernel
theorem dX4_bar_0 : decode cX4_bar 0 = .ok (.iconst 0, 1) := by decide +kernel
theorem dX4_bar_1 : decode cX4_bar 1 = .ok (.istore_n 2, 1) := by decide +kernel
theorem dX4_bar_2 : decode cX4_bar 2 = .ok (.iload_n 2, 1) := by decide +kernel
theorem dX4_bar_3 : decode cX4_bar 3 = .ok (.aload_n 0, 1) := by decide +kernel
theorem dX4_bar_4 : decode cX4_bar 4 = .ok (.getfield 42, 3) := by decide +kernel
theorem dX4_bar_7 : decode cX4_bar 7 = .ok (.if_icmp .ge 31, 3) := by decide +kernel
theorem dX4_bar_10 : decode cX4_bar 10 = .ok (.aload_n 0, 1) := by decide +kernel
theorem dX4_bar_11 : decode cX4_bar 11 = .ok (.getfield 9, 3) := by decide +kernel
theorem dX4_bar_14 : decode cX4_bar 14 = .ok (.iload_n 1, 1) := by decide +kernel
theorem dX4_bar_15 : decode cX4_bar 15 = .ok (.iload_n 2, 1) := by decide +kernel
theorem dX4_bar_16 : decode cX4_bar 16 = .ok (.invokestatic 43, 3) := by decide +kernel
theorem dX4_bar_19 : decode cX4_bar 19 = .ok (.iconst 0, 1) := by decide +kernel
theorem dX4_bar_20 : decode cX4_bar 20 = .ok (.iastore, 1) := by decide +kernel
theorem dX4_bar_21 : decode cX4_bar 21 = .ok (.aload_n 0, 1) := by decide +kernel
theorem dX4_bar_22 : decode cX4_bar 22 = .ok (.getfield 9, 3) := by decide +kernel
theorem dX4_bar_25 : decode cX4_bar 25 = .ok (.iload_n 2, 1) := by decide +kernel
theorem dX4_bar_26 : decode cX4_bar 26 = .ok (.iload_n 1, 1) := by decide +kernel
theorem dX4_bar_27 : decode cX4_bar 27 = .ok (.invokestatic 43, 3) := by decide +kernel
theorem dX4_bar_30 : decode cX4_bar 30 = .ok (.iconst 0, 1) := by decide +kernel
theorem dX4_bar_31 : decode cX4_bar 31 = .ok (.iastore, 1) := by decide +kernel
theorem dX4_bar_32 : decode cX4_bar 32 = .ok (.iinc 2 1, 3) := by decide +kernel
theorem dX4_bar_35 : decode cX4_bar 35 = .ok (.goto (-33), 3) := by decide +kernel
theorem dX4_bar_38 : decode cX4_bar 38 = .ok (.return_, 1) := by decide +kernel
theorem dX4_gone_0 : decode cX4_gone 0 = .ok (.aload_n 0, 1) := by decide +kernel
theorem dX4_gone_1 : decode cX4_gone 1 = .ok (.getfield 15, 3) := by decide +kernel
theorem dX4_gone_4 : decode cX4_gone 4 = .ok (.iload_n 1, 1) := by decide +kernel
theorem dX4_gone_5 : decode cX4_gone 5 = .ok (.iload_n 2, 1) := by decide +kernel
theorem dX4_gone_6 : decode cX4_gone 6 = .ok (.invokestatic 43, 3) := by decide +kernel
theorem dX4_gone_9 : decode cX4_gone 9 = .ok (.iaload, 1) := by decide +kernel
theorem dX4_gone_10 : decode cX4_gone 10 = .ok (.aload_n 0, 1) := by decide +kernel
theorem dX4_gone_11 : decode cX4_gone 11 = .ok (.getfield 9, 3) := by decide +kernel
theorem dX4_gone_14 : decode cX4_gone 14 = .ok (.iload_n 1, 1) := by decide +kernel
theorem dX4_gone_15 : decode cX4_gone 15 = .ok (.iload_n 2, 1) := by decide +kernel
theorem dX4_gone_16 : decode cX4_gone 16 = .ok (.invokestatic 43, 3) := by decide +kernel
theorem dX4_gone_19 : decode cX4_gone 19 = .ok (.iaload, 1) := by decide +kernel
theorem dX4_gone_20 : decode cX4_gone 20 = .ok (.isub, 1) := by decide +kernel
theorem dX4_gone_21 : decode cX4_gone 21 = .ok (.ireturn, 1) := by decide +kernel
theorem dX4_bookIn_0 : decode cX4_bookIn 0 = .ok (.iconst 0, 1) := by decide +kernel
theorem dX4_bookIn_1 : decode cX4_bookIn 1 = .ok (.istore_n 2, 1) := by decide +kernel
theorem dX4_bookIn_2 : decode cX4_bookIn 2 = .ok (.iload_n 2, 1) := by decide +kernel
theorem dX4_bookIn_3 : decode cX4_bookIn 3 = .ok (.aload_n 0, 1) := by decide +kernel
theorem dX4_bookIn_4 : decode cX4_bookIn 4 = .ok (.getfield 42, 3) := by decide +kernel
theorem dX4_bookIn_7 : decode cX4_bookIn 7 = .ok (.if_icmp .ge 39, 3) := by decide +kernel
theorem dX4_bookIn_10 : decode cX4_bookIn 10 = .ok (.iload_n 2, 1) := by decide +kernel
theorem dX4_bookIn_11 : decode cX4_bookIn 11 = .ok (.iconst 1, 1) := by decide +kernel
theorem dX4_bookIn_12 : decode cX4_bookIn 12 = .ok (.iadd, 1) := by decide +kernel
theorem dX4_bookIn_13 : decode cX4_bookIn 13 = .ok (.istore_n 3, 1) := by decide +kernel
theorem dX4_bookIn_14 : decode cX4_bookIn 14 = .ok (.iload_n 3, 1) := by decide +kernel
theorem dX4_bookIn_15 : decode cX4_bookIn 15 = .ok (.aload_n 0, 1) := by decide +kernel
theorem dX4_bookIn_16 : decode cX4_bookIn 16 = .ok (.getfield 42, 3) := by decide +kernel
theorem dX4_bookIn_19 : decode cX4_bookIn 19 = .ok (.if_icmp .ge 21, 3) := by decide +kernel
theorem dX4_bookIn_22 : decode cX4_bookIn 22 = .ok (.aload_n 1, 1) := by decide +kernel
theorem dX4_bookIn_23 : decode cX4_bookIn 23 = .ok (.iload_n 2, 1) := by decide +kernel
theorem dX4_bookIn_24 : decode cX4_bookIn 24 = .ok (.iload_n 3, 1) := by decide +kernel
theorem dX4_bookIn_25 : decode cX4_bookIn 25 = .ok (.aload_n 0, 1) := by decide +kernel
theorem dX4_bookIn_26 : decode cX4_bookIn 26 = .ok (.iload_n 2, 1) := by decide +kernel
theorem dX4_bookIn_27 : decode cX4_bookIn 27 = .ok (.iload_n 3, 1) := by decide +kernel
theorem dX4_bookIn_28 : decode cX4_bookIn 28 = .ok (.invokevirtual 56, 3) := by decide +kernel
theorem dX4_bookIn_31 : decode cX4_bookIn 31 = .ok (.invokevirtual 59, 3) := by decide +kernel
theorem dX4_bookIn_34 : decode cX4_bookIn 34 = .ok (.iinc 3 1, 3) := by decide +kernel
theorem dX4_bookIn_37 : decode cX4_bookIn 37 = .ok (.goto (-23), 3) := by decide +kernel
theorem dX4_bookIn_40 : decode cX4_bookIn 40 = .ok (.iinc 2 1, 3) := by decide +kernel
theorem dX4_bookIn_43 : decode cX4_bookIn 43 = .ok (.goto (-41), 3) := by decide +kernel
theorem dX4_bookIn_46 : decode cX4_bookIn 46 = .ok (.return_, 1) := by decide +kernel
theorem dX4_wayMember_0 : decode cX4_wayMember 0 = .ok (.aload_n 0, 1) := by decide +kernel
theorem dX4_wayMember_1 : decode cX4_wayMember 1 = .ok (.getfield 27, 3) := by decide +kernel
theorem dX4_wayMember_4 : decode cX4_wayMember 4 = .ok (.iload_n 1, 1) := by decide +kernel
theorem dX4_wayMember_5 : decode cX4_wayMember 5 = .ok (.bipush 7, 2) := by decide +kernel
theorem dX4_wayMember_7 : decode cX4_wayMember 7 = .ok (.iand, 1) := by decide +kernel
theorem dX4_wayMember_8 : decode cX4_wayMember 8 = .ok (.iaload, 1) := by decide +kernel
theorem dX4_wayMember_9 : decode cX4_wayMember 9 = .ok (.ireturn, 1) := by decide +kernel
theorem dX4_findWay_0 : decode cX4_findWay 0 = .ok (.aload_n 0, 1) := by decide +kernel
theorem dX4_findWay_1 : decode cX4_findWay 1 = .ok (.iload_n 2, 1) := by decide +kernel
theorem dX4_findWay_2 : decode cX4_findWay 2 = .ok (.iload_n 3, 1) := by decide +kernel
theorem dX4_findWay_3 : decode cX4_findWay 3 = .ok (.invokevirtual 63, 3) := by decide +kernel
theorem dX4_findWay_6 : decode cX4_findWay 6 = .ok (.aload_n 0, 1) := by decide +kernel
theorem dX4_findWay_7 : decode cX4_findWay 7 = .ok (.getfield 21, 3) := by decide +kernel
theorem dX4_findWay_10 : decode cX4_findWay 10 = .ok (.iload_n 1, 1) := by decide +kernel
theorem dX4_findWay_11 : decode cX4_findWay 11 = .ok (.bipush 7, 2) := by decide +kernel
theorem dX4_findWay_13 : decode cX4_findWay 13 = .ok (.iand, 1) := by decide +kernel
theorem dX4_findWay_14 : decode cX4_findWay 14 = .ok (.iaload, 1) := by decide +kernel
theorem dX4_findWay_15 : decode cX4_findWay 15 = .ok (.istore 4, 2) := by decide +kernel
theorem dX4_findWay_17 : decode cX4_findWay 17 = .ok (.iload 4, 2) := by decide +kernel
theorem dX4_findWay_19 : decode cX4_findWay 19 = .ok (.ifCond .ge 5, 3) := by decide +kernel
theorem dX4_findWay_22 : decode cX4_findWay 22 = .ok (.iconst 0, 1) := by decide +kernel
theorem dX4_findWay_23 : decode cX4_findWay 23 = .ok (.ireturn, 1) := by decide +kernel
theorem dX4_findWay_24 : decode cX4_findWay 24 = .ok (.aload_n 0, 1) := by decide +kernel
theorem dX4_findWay_25 : decode cX4_findWay 25 = .ok (.iload 4, 2) := by decide +kernel
theorem dX4_findWay_27 : decode cX4_findWay 27 = .ok (.iconst 1, 1) := by decide +kernel
theorem dX4_findWay_28 : decode cX4_findWay 28 = .ok (.iadd, 1) := by decide +kernel
theorem dX4_findWay_29 : decode cX4_findWay 29 = .ok (.putfield 67, 3) := by decide +kernel
theorem dX4_findWay_32 : decode cX4_findWay 32 = .ok (.iload_n 1, 1) := by decide +kernel
theorem dX4_findWay_33 : decode cX4_findWay 33 = .ok (.istore 5, 2) := by decide +kernel
theorem dX4_findWay_35 : decode cX4_findWay 35 = .ok (.aload_n 0, 1) := by decide +kernel
theorem dX4_findWay_36 : decode cX4_findWay 36 = .ok (.getfield 27, 3) := by decide +kernel
theorem dX4_findWay_39 : decode cX4_findWay 39 = .ok (.iconst 0, 1) := by decide +kernel
theorem dX4_findWay_40 : decode cX4_findWay 40 = .ok (.iload_n 1, 1) := by decide +kernel
theorem dX4_findWay_41 : decode cX4_findWay 41 = .ok (.iastore, 1) := by decide +kernel
theorem dX4_findWay_42 : decode cX4_findWay 42 = .ok (.iconst 1, 1) := by decide +kernel
theorem dX4_findWay_43 : decode cX4_findWay 43 = .ok (.istore 6, 2) := by decide +kernel
theorem dX4_findWay_45 : decode cX4_findWay 45 = .ok (.iload 6, 2) := by decide +kernel
theorem dX4_findWay_47 : decode cX4_findWay 47 = .ok (.aload_n 0, 1) := by decide +kernel
theorem dX4_findWay_48 : decode cX4_findWay 48 = .ok (.getfield 67, 3) := by decide +kernel
theorem dX4_findWay_51 : decode cX4_findWay 51 = .ok (.if_icmp .ge 43, 3) := by decide +kernel
theorem dX4_findWay_54 : decode cX4_findWay 54 = .ok (.iload 6, 2) := by decide +kernel
theorem dX4_findWay_56 : decode cX4_findWay 56 = .ok (.bipush 8, 2) := by decide +kernel
theorem dX4_findWay_58 : decode cX4_findWay 58 = .ok (.if_icmp .ge 36, 3) := by decide +kernel
theorem dX4_findWay_61 : decode cX4_findWay 61 = .ok (.aload_n 0, 1) := by decide +kernel
theorem dX4_findWay_62 : decode cX4_findWay 62 = .ok (.iload 5, 2) := by decide +kernel
theorem dX4_findWay_64 : decode cX4_findWay 64 = .ok (.aload_n 0, 1) := by decide +kernel
theorem dX4_findWay_65 : decode cX4_findWay 65 = .ok (.getfield 67, 3) := by decide +kernel
theorem dX4_findWay_68 : decode cX4_findWay 68 = .ok (.iconst 1, 1) := by decide +kernel
theorem dX4_findWay_69 : decode cX4_findWay 69 = .ok (.isub, 1) := by decide +kernel
theorem dX4_findWay_70 : decode cX4_findWay 70 = .ok (.iload 6, 2) := by decide +kernel
theorem dX4_findWay_72 : decode cX4_findWay 72 = .ok (.isub, 1) := by decide +kernel
theorem dX4_findWay_73 : decode cX4_findWay 73 = .ok (.iload_n 3, 1) := by decide +kernel
theorem dX4_findWay_74 : decode cX4_findWay 74 = .ok (.invokevirtual 70, 3) := by decide +kernel
theorem dX4_findWay_77 : decode cX4_findWay 77 = .ok (.istore 5, 2) := by decide +kernel
theorem dX4_findWay_79 : decode cX4_findWay 79 = .ok (.aload_n 0, 1) := by decide +kernel
theorem dX4_findWay_80 : decode cX4_findWay 80 = .ok (.getfield 27, 3) := by decide +kernel
theorem dX4_findWay_83 : decode cX4_findWay 83 = .ok (.iload 6, 2) := by decide +kernel
theorem dX4_findWay_85 : decode cX4_findWay 85 = .ok (.iload 5, 2) := by decide +kernel
theorem dX4_findWay_87 : decode cX4_findWay 87 = .ok (.iastore, 1) := by decide +kernel
theorem dX4_findWay_88 : decode cX4_findWay 88 = .ok (.iinc 6 1, 3) := by decide +kernel
theorem dX4_findWay_91 : decode cX4_findWay 91 = .ok (.goto (-46), 3) := by decide +kernel
theorem dX4_findWay_94 : decode cX4_findWay 94 = .ok (.iconst 1, 1) := by decide +kernel
theorem dX4_findWay_95 : decode cX4_findWay 95 = .ok (.ireturn, 1) := by decide +kernel
theorem dX4_measure_0 : decode cX4_measure 0 = .ok (.iconst 0, 1) := by decide +kernel
theorem dX4_measure_1 : decode cX4_measure 1 = .ok (.istore_n 3, 1) := by decide +kernel
theorem dX4_measure_2 : decode cX4_measure 2 = .ok (.iload_n 3, 1) := by decide +kernel
theorem dX4_measure_3 : decode cX4_measure 3 = .ok (.bipush 8, 2) := by decide +kernel
theorem dX4_measure_5 : decode cX4_measure 5 = .ok (.if_icmp .ge 16, 3) := by decide +kernel
theorem dX4_measure_8 : decode cX4_measure 8 = .ok (.aload_n 0, 1) := by decide +kernel
theorem dX4_measure_9 : decode cX4_measure 9 = .ok (.getfield 21, 3) := by decide +kernel
theorem dX4_measure_12 : decode cX4_measure 12 = .ok (.iload_n 3, 1) := by decide +kernel
theorem dX4_measure_13 : decode cX4_measure 13 = .ok (.iconst (-1), 1) := by decide +kernel
theorem dX4_measure_14 : decode cX4_measure 14 = .ok (.iastore, 1) := by decide +kernel
theorem dX4_measure_15 : decode cX4_measure 15 = .ok (.iinc 3 1, 3) := by decide +kernel
theorem dX4_measure_18 : decode cX4_measure 18 = .ok (.goto (-16), 3) := by decide +kernel
theorem dX4_measure_21 : decode cX4_measure 21 = .ok (.aload_n 0, 1) := by decide +kernel
theorem dX4_measure_22 : decode cX4_measure 22 = .ok (.getfield 21, 3) := by decide +kernel
theorem dX4_measure_25 : decode cX4_measure 25 = .ok (.iload_n 1, 1) := by decide +kernel
theorem dX4_measure_26 : decode cX4_measure 26 = .ok (.bipush 7, 2) := by decide +kernel
theorem dX4_measure_28 : decode cX4_measure 28 = .ok (.iand, 1) := by decide +kernel
theorem dX4_measure_29 : decode cX4_measure 29 = .ok (.iconst 0, 1) := by decide +kernel
theorem dX4_measure_30 : decode cX4_measure 30 = .ok (.iastore, 1) := by decide +kernel
theorem dX4_measure_31 : decode cX4_measure 31 = .ok (.aload_n 0, 1) := by decide +kernel
theorem dX4_measure_32 : decode cX4_measure 32 = .ok (.getfield 24, 3) := by decide +kernel
theorem dX4_measure_35 : decode cX4_measure 35 = .ok (.iconst 0, 1) := by decide +kernel
theorem dX4_measure_36 : decode cX4_measure 36 = .ok (.iload_n 1, 1) := by decide +kernel
theorem dX4_measure_37 : decode cX4_measure 37 = .ok (.iastore, 1) := by decide +kernel
theorem dX4_measure_38 : decode cX4_measure 38 = .ok (.iconst 1, 1) := by decide +kernel
theorem dX4_measure_39 : decode cX4_measure 39 = .ok (.istore_n 3, 1) := by decide +kernel
theorem dX4_measure_40 : decode cX4_measure 40 = .ok (.iconst 0, 1) := by decide +kernel
theorem dX4_measure_41 : decode cX4_measure 41 = .ok (.istore 4, 2) := by decide +kernel
theorem dX4_measure_43 : decode cX4_measure 43 = .ok (.iload 4, 2) := by decide +kernel
theorem dX4_measure_45 : decode cX4_measure 45 = .ok (.iload_n 3, 1) := by decide +kernel
theorem dX4_measure_46 : decode cX4_measure 46 = .ok (.if_icmp .ge 118, 3) := by decide +kernel
theorem dX4_measure_49 : decode cX4_measure 49 = .ok (.iload 4, 2) := by decide +kernel
theorem dX4_measure_51 : decode cX4_measure 51 = .ok (.bipush 8, 2) := by decide +kernel
theorem dX4_measure_53 : decode cX4_measure 53 = .ok (.if_icmp .ge 111, 3) := by decide +kernel
theorem dX4_measure_56 : decode cX4_measure 56 = .ok (.aload_n 0, 1) := by decide +kernel
theorem dX4_measure_57 : decode cX4_measure 57 = .ok (.getfield 24, 3) := by decide +kernel
theorem dX4_measure_60 : decode cX4_measure 60 = .ok (.iload 4, 2) := by decide +kernel
theorem dX4_measure_62 : decode cX4_measure 62 = .ok (.bipush 7, 2) := by decide +kernel
theorem dX4_measure_64 : decode cX4_measure 64 = .ok (.iand, 1) := by decide +kernel
theorem dX4_measure_65 : decode cX4_measure 65 = .ok (.iaload, 1) := by decide +kernel
theorem dX4_measure_66 : decode cX4_measure 66 = .ok (.istore 5, 2) := by decide +kernel
theorem dX4_measure_68 : decode cX4_measure 68 = .ok (.aload_n 0, 1) := by decide +kernel
theorem dX4_measure_69 : decode cX4_measure 69 = .ok (.getfield 21, 3) := by decide +kernel
theorem dX4_measure_72 : decode cX4_measure 72 = .ok (.iload 5, 2) := by decide +kernel
theorem dX4_measure_74 : decode cX4_measure 74 = .ok (.bipush 7, 2) := by decide +kernel
theorem dX4_measure_76 : decode cX4_measure 76 = .ok (.iand, 1) := by decide +kernel
theorem dX4_measure_77 : decode cX4_measure 77 = .ok (.iaload, 1) := by decide +kernel
theorem dX4_measure_78 : decode cX4_measure 78 = .ok (.iconst 1, 1) := by decide +kernel
theorem dX4_measure_79 : decode cX4_measure 79 = .ok (.iadd, 1) := by decide +kernel
theorem dX4_measure_80 : decode cX4_measure 80 = .ok (.istore 6, 2) := by decide +kernel
theorem dX4_measure_82 : decode cX4_measure 82 = .ok (.iconst 0, 1) := by decide +kernel
theorem dX4_measure_83 : decode cX4_measure 83 = .ok (.istore 7, 2) := by decide +kernel
theorem dX4_measure_85 : decode cX4_measure 85 = .ok (.iload 7, 2) := by decide +kernel
theorem dX4_measure_87 : decode cX4_measure 87 = .ok (.aload_n 0, 1) := by decide +kernel
theorem dX4_measure_88 : decode cX4_measure 88 = .ok (.getfield 42, 3) := by decide +kernel
theorem dX4_measure_91 : decode cX4_measure 91 = .ok (.if_icmp .ge 67, 3) := by decide +kernel
theorem dX4_measure_94 : decode cX4_measure 94 = .ok (.iload_n 3, 1) := by decide +kernel
theorem dX4_measure_95 : decode cX4_measure 95 = .ok (.bipush 8, 2) := by decide +kernel
theorem dX4_measure_97 : decode cX4_measure 97 = .ok (.if_icmp .ge 61, 3) := by decide +kernel
theorem dX4_measure_100 : decode cX4_measure 100 = .ok (.aload_n 0, 1) := by decide +kernel
theorem dX4_measure_101 : decode cX4_measure 101 = .ok (.getfield 21, 3) := by decide +kernel
theorem dX4_measure_104 : decode cX4_measure 104 = .ok (.iload 7, 2) := by decide +kernel
theorem dX4_measure_106 : decode cX4_measure 106 = .ok (.bipush 7, 2) := by decide +kernel
theorem dX4_measure_108 : decode cX4_measure 108 = .ok (.iand, 1) := by decide +kernel
theorem dX4_measure_109 : decode cX4_measure 109 = .ok (.iaload, 1) := by decide +kernel
theorem dX4_measure_110 : decode cX4_measure 110 = .ok (.ifCond .ge 42, 3) := by decide +kernel
theorem dX4_measure_113 : decode cX4_measure 113 = .ok (.aload_n 0, 1) := by decide +kernel
theorem dX4_measure_114 : decode cX4_measure 114 = .ok (.getfield 9, 3) := by decide +kernel
theorem dX4_measure_117 : decode cX4_measure 117 = .ok (.iload 7, 2) := by decide +kernel
theorem dX4_measure_119 : decode cX4_measure 119 = .ok (.iload 5, 2) := by decide +kernel
theorem dX4_measure_121 : decode cX4_measure 121 = .ok (.invokestatic 43, 3) := by decide +kernel
theorem dX4_measure_124 : decode cX4_measure 124 = .ok (.iaload, 1) := by decide +kernel
theorem dX4_measure_125 : decode cX4_measure 125 = .ok (.iload_n 2, 1) := by decide +kernel
theorem dX4_measure_126 : decode cX4_measure 126 = .ok (.if_icmp .lt 26, 3) := by decide +kernel
theorem dX4_measure_129 : decode cX4_measure 129 = .ok (.aload_n 0, 1) := by decide +kernel
theorem dX4_measure_130 : decode cX4_measure 130 = .ok (.getfield 21, 3) := by decide +kernel
theorem dX4_measure_133 : decode cX4_measure 133 = .ok (.iload 7, 2) := by decide +kernel
theorem dX4_measure_135 : decode cX4_measure 135 = .ok (.bipush 7, 2) := by decide +kernel
theorem dX4_measure_137 : decode cX4_measure 137 = .ok (.iand, 1) := by decide +kernel
theorem dX4_measure_138 : decode cX4_measure 138 = .ok (.iload 6, 2) := by decide +kernel
theorem dX4_measure_140 : decode cX4_measure 140 = .ok (.iastore, 1) := by decide +kernel
theorem dX4_measure_141 : decode cX4_measure 141 = .ok (.aload_n 0, 1) := by decide +kernel
theorem dX4_measure_142 : decode cX4_measure 142 = .ok (.getfield 24, 3) := by decide +kernel
theorem dX4_measure_145 : decode cX4_measure 145 = .ok (.iload_n 3, 1) := by decide +kernel
theorem dX4_measure_146 : decode cX4_measure 146 = .ok (.iload 7, 2) := by decide +kernel
theorem dX4_measure_148 : decode cX4_measure 148 = .ok (.iastore, 1) := by decide +kernel
theorem dX4_measure_149 : decode cX4_measure 149 = .ok (.iinc 3 1, 3) := by decide +kernel
theorem dX4_measure_152 : decode cX4_measure 152 = .ok (.iinc 7 1, 3) := by decide +kernel
theorem dX4_measure_155 : decode cX4_measure 155 = .ok (.goto (-70), 3) := by decide +kernel
theorem dX4_measure_158 : decode cX4_measure 158 = .ok (.iinc 4 1, 3) := by decide +kernel
theorem dX4_measure_161 : decode cX4_measure 161 = .ok (.goto (-118), 3) := by decide +kernel
theorem dX4_measure_164 : decode cX4_measure 164 = .ok (.return_, 1) := by decide +kernel
theorem dX4_nextTowards_0 : decode cX4_nextTowards 0 = .ok (.iconst 0, 1) := by decide +kernel
theorem dX4_nextTowards_1 : decode cX4_nextTowards 1 = .ok (.istore 4, 2) := by decide +kernel
theorem dX4_nextTowards_3 : decode cX4_nextTowards 3 = .ok (.iload 4, 2) := by decide +kernel
theorem dX4_nextTowards_5 : decode cX4_nextTowards 5 = .ok (.aload_n 0, 1) := by decide +kernel
theorem dX4_nextTowards_6 : decode cX4_nextTowards 6 = .ok (.getfield 42, 3) := by decide +kernel
theorem dX4_nextTowards_9 : decode cX4_nextTowards 9 = .ok (.if_icmp .ge 41, 3) := by decide +kernel
theorem dX4_nextTowards_12 : decode cX4_nextTowards 12 = .ok (.aload_n 0, 1) := by decide +kernel
theorem dX4_nextTowards_13 : decode cX4_nextTowards 13 = .ok (.getfield 21, 3) := by decide +kernel
theorem dX4_nextTowards_16 : decode cX4_nextTowards 16 = .ok (.iload 4, 2) := by decide +kernel
theorem dX4_nextTowards_18 : decode cX4_nextTowards 18 = .ok (.bipush 7, 2) := by decide +kernel
theorem dX4_nextTowards_20 : decode cX4_nextTowards 20 = .ok (.iand, 1) := by decide +kernel
theorem dX4_nextTowards_21 : decode cX4_nextTowards 21 = .ok (.iaload, 1) := by decide +kernel
theorem dX4_nextTowards_22 : decode cX4_nextTowards 22 = .ok (.iload_n 2, 1) := by decide +kernel
theorem dX4_nextTowards_23 : decode cX4_nextTowards 23 = .ok (.if_icmp .ne 21, 3) := by decide +kernel
theorem dX4_nextTowards_26 : decode cX4_nextTowards 26 = .ok (.aload_n 0, 1) := by decide +kernel
theorem dX4_nextTowards_27 : decode cX4_nextTowards 27 = .ok (.getfield 9, 3) := by decide +kernel
theorem dX4_nextTowards_30 : decode cX4_nextTowards 30 = .ok (.iload_n 1, 1) := by decide +kernel
theorem dX4_nextTowards_31 : decode cX4_nextTowards 31 = .ok (.iload 4, 2) := by decide +kernel
theorem dX4_nextTowards_33 : decode cX4_nextTowards 33 = .ok (.invokestatic 43, 3) := by decide +kernel
theorem dX4_nextTowards_36 : decode cX4_nextTowards 36 = .ok (.iaload, 1) := by decide +kernel
theorem dX4_nextTowards_37 : decode cX4_nextTowards 37 = .ok (.iload_n 3, 1) := by decide +kernel
theorem dX4_nextTowards_38 : decode cX4_nextTowards 38 = .ok (.if_icmp .lt 6, 3) := by decide +kernel
theorem dX4_nextTowards_41 : decode cX4_nextTowards 41 = .ok (.iload 4, 2) := by decide +kernel
theorem dX4_nextTowards_43 : decode cX4_nextTowards 43 = .ok (.ireturn, 1) := by decide +kernel
theorem dX4_nextTowards_44 : decode cX4_nextTowards 44 = .ok (.iinc 4 1, 3) := by decide +kernel
theorem dX4_nextTowards_47 : decode cX4_nextTowards 47 = .ok (.goto (-44), 3) := by decide +kernel
theorem dX4_nextTowards_50 : decode cX4_nextTowards 50 = .ok (.iload_n 1, 1) := by decide +kernel
theorem dX4_nextTowards_51 : decode cX4_nextTowards 51 = .ok (.ireturn, 1) := by decide +kernel
theorem dX4_leastSpace_0 : decode cX4_leastSpace 0 = .ok (.ldc 74, 2) := by decide +kernel
theorem dX4_leastSpace_2 : decode cX4_leastSpace 2 = .ok (.istore_n 1, 1) := by decide +kernel
theorem dX4_leastSpace_3 : decode cX4_leastSpace 3 = .ok (.iconst 1, 1) := by decide +kernel
theorem dX4_leastSpace_4 : decode cX4_leastSpace 4 = .ok (.istore_n 2, 1) := by decide +kernel
theorem dX4_leastSpace_5 : decode cX4_leastSpace 5 = .ok (.iload_n 2, 1) := by decide +kernel
theorem dX4_leastSpace_6 : decode cX4_leastSpace 6 = .ok (.aload_n 0, 1) := by decide +kernel
theorem dX4_leastSpace_7 : decode cX4_leastSpace 7 = .ok (.getfield 67, 3) := by decide +kernel
theorem dX4_leastSpace_10 : decode cX4_leastSpace 10 = .ok (.if_icmp .ge 34, 3) := by decide +kernel
theorem dX4_leastSpace_13 : decode cX4_leastSpace 13 = .ok (.iload_n 1, 1) := by decide +kernel
theorem dX4_leastSpace_14 : decode cX4_leastSpace 14 = .ok (.aload_n 0, 1) := by decide +kernel
theorem dX4_leastSpace_15 : decode cX4_leastSpace 15 = .ok (.getfield 9, 3) := by decide +kernel
theorem dX4_leastSpace_18 : decode cX4_leastSpace 18 = .ok (.aload_n 0, 1) := by decide +kernel
theorem dX4_leastSpace_19 : decode cX4_leastSpace 19 = .ok (.iload_n 2, 1) := by decide +kernel
theorem dX4_leastSpace_20 : decode cX4_leastSpace 20 = .ok (.iconst 1, 1) := by decide +kernel
theorem dX4_leastSpace_21 : decode cX4_leastSpace 21 = .ok (.isub, 1) := by decide +kernel
theorem dX4_leastSpace_22 : decode cX4_leastSpace 22 = .ok (.invokevirtual 75, 3) := by decide +kernel
theorem dX4_leastSpace_25 : decode cX4_leastSpace 25 = .ok (.aload_n 0, 1) := by decide +kernel
theorem dX4_leastSpace_26 : decode cX4_leastSpace 26 = .ok (.iload_n 2, 1) := by decide +kernel
theorem dX4_leastSpace_27 : decode cX4_leastSpace 27 = .ok (.invokevirtual 75, 3) := by decide +kernel
theorem dX4_leastSpace_30 : decode cX4_leastSpace 30 = .ok (.invokestatic 43, 3) := by decide +kernel
theorem dX4_leastSpace_33 : decode cX4_leastSpace 33 = .ok (.iaload, 1) := by decide +kernel
theorem dX4_leastSpace_34 : decode cX4_leastSpace 34 = .ok (.invokestatic 79, 3) := by decide +kernel
theorem dX4_leastSpace_37 : decode cX4_leastSpace 37 = .ok (.istore_n 1, 1) := by decide +kernel
theorem dX4_leastSpace_38 : decode cX4_leastSpace 38 = .ok (.iinc 2 1, 3) := by decide +kernel
theorem dX4_leastSpace_41 : decode cX4_leastSpace 41 = .ok (.goto (-36), 3) := by decide +kernel
theorem dX4_leastSpace_44 : decode cX4_leastSpace 44 = .ok (.iload_n 1, 1) := by decide +kernel
theorem dX4_leastSpace_45 : decode cX4_leastSpace 45 = .ok (.ireturn, 1) := by decide +kernel
theorem dX4_pushAlong_0 : decode cX4_pushAlong 0 = .ok (.iconst 1, 1) := by decide +kernel
theorem dX4_pushAlong_1 : decode cX4_pushAlong 1 = .ok (.istore_n 2, 1) := by decide +kernel
theorem dX4_pushAlong_2 : decode cX4_pushAlong 2 = .ok (.iload_n 2, 1) := by decide +kernel
theorem dX4_pushAlong_3 : decode cX4_pushAlong 3 = .ok (.aload_n 0, 1) := by decide +kernel
theorem dX4_pushAlong_4 : decode cX4_pushAlong 4 = .ok (.getfield 67, 3) := by decide +kernel
theorem dX4_pushAlong_7 : decode cX4_pushAlong 7 = .ok (.if_icmp .ge 54, 3) := by decide +kernel
theorem dX4_pushAlong_10 : decode cX4_pushAlong 10 = .ok (.aload_n 0, 1) := by decide +kernel
theorem dX4_pushAlong_11 : decode cX4_pushAlong 11 = .ok (.iload_n 2, 1) := by decide +kernel
theorem dX4_pushAlong_12 : decode cX4_pushAlong 12 = .ok (.iconst 1, 1) := by decide +kernel
theorem dX4_pushAlong_13 : decode cX4_pushAlong 13 = .ok (.isub, 1) := by decide +kernel
theorem dX4_pushAlong_14 : decode cX4_pushAlong 14 = .ok (.invokevirtual 75, 3) := by decide +kernel
theorem dX4_pushAlong_17 : decode cX4_pushAlong 17 = .ok (.istore_n 3, 1) := by decide +kernel
theorem dX4_pushAlong_18 : decode cX4_pushAlong 18 = .ok (.aload_n 0, 1) := by decide +kernel
theorem dX4_pushAlong_19 : decode cX4_pushAlong 19 = .ok (.iload_n 2, 1) := by decide +kernel
theorem dX4_pushAlong_20 : decode cX4_pushAlong 20 = .ok (.invokevirtual 75, 3) := by decide +kernel
theorem dX4_pushAlong_23 : decode cX4_pushAlong 23 = .ok (.istore 4, 2) := by decide +kernel
theorem dX4_pushAlong_25 : decode cX4_pushAlong 25 = .ok (.aload_n 0, 1) := by decide +kernel
theorem dX4_pushAlong_26 : decode cX4_pushAlong 26 = .ok (.getfield 9, 3) := by decide +kernel
theorem dX4_pushAlong_29 : decode cX4_pushAlong 29 = .ok (.iload_n 3, 1) := by decide +kernel
theorem dX4_pushAlong_30 : decode cX4_pushAlong 30 = .ok (.iload 4, 2) := by decide +kernel
theorem dX4_pushAlong_32 : decode cX4_pushAlong 32 = .ok (.invokestatic 43, 3) := by decide +kernel
theorem dX4_pushAlong_35 : decode cX4_pushAlong 35 = .ok (.dup2, 1) := by decide +kernel
theorem dX4_pushAlong_36 : decode cX4_pushAlong 36 = .ok (.iaload, 1) := by decide +kernel
theorem dX4_pushAlong_37 : decode cX4_pushAlong 37 = .ok (.iload_n 1, 1) := by decide +kernel
theorem dX4_pushAlong_38 : decode cX4_pushAlong 38 = .ok (.isub, 1) := by decide +kernel
theorem dX4_pushAlong_39 : decode cX4_pushAlong 39 = .ok (.iastore, 1) := by decide +kernel
theorem dX4_pushAlong_40 : decode cX4_pushAlong 40 = .ok (.aload_n 0, 1) := by decide +kernel
theorem dX4_pushAlong_41 : decode cX4_pushAlong 41 = .ok (.getfield 9, 3) := by decide +kernel
theorem dX4_pushAlong_44 : decode cX4_pushAlong 44 = .ok (.iload 4, 2) := by decide +kernel
theorem dX4_pushAlong_46 : decode cX4_pushAlong 46 = .ok (.iload_n 3, 1) := by decide +kernel
theorem dX4_pushAlong_47 : decode cX4_pushAlong 47 = .ok (.invokestatic 43, 3) := by decide +kernel
theorem dX4_pushAlong_50 : decode cX4_pushAlong 50 = .ok (.dup2, 1) := by decide +kernel
theorem dX4_pushAlong_51 : decode cX4_pushAlong 51 = .ok (.iaload, 1) := by decide +kernel
theorem dX4_pushAlong_52 : decode cX4_pushAlong 52 = .ok (.iload_n 1, 1) := by decide +kernel
theorem dX4_pushAlong_53 : decode cX4_pushAlong 53 = .ok (.iadd, 1) := by decide +kernel
theorem dX4_pushAlong_54 : decode cX4_pushAlong 54 = .ok (.iastore, 1) := by decide +kernel
theorem dX4_pushAlong_55 : decode cX4_pushAlong 55 = .ok (.iinc 2 1, 3) := by decide +kernel
theorem dX4_pushAlong_58 : decode cX4_pushAlong 58 = .ok (.goto (-56), 3) := by decide +kernel
theorem dX4_pushAlong_61 : decode cX4_pushAlong 61 = .ok (.return_, 1) := by decide +kernel
theorem dX4_send_0 : decode cX4_send 0 = .ok (.aload_n 0, 1) := by decide +kernel
theorem dX4_send_1 : decode cX4_send 1 = .ok (.iconst 0, 1) := by decide +kernel
theorem dX4_send_2 : decode cX4_send 2 = .ok (.putfield 84, 3) := by decide +kernel
theorem dX4_send_5 : decode cX4_send 5 = .ok (.iload_n 3, 1) := by decide +kernel
theorem dX4_send_6 : decode cX4_send 6 = .ok (.istore 4, 2) := by decide +kernel
theorem dX4_send_8 : decode cX4_send 8 = .ok (.aload_n 0, 1) := by decide +kernel
theorem dX4_send_9 : decode cX4_send 9 = .ok (.getfield 84, 3) := by decide +kernel
theorem dX4_send_12 : decode cX4_send 12 = .ok (.sipush 256, 3) := by decide +kernel
theorem dX4_send_15 : decode cX4_send 15 = .ok (.if_icmp .ge 79, 3) := by decide +kernel
theorem dX4_send_18 : decode cX4_send 18 = .ok (.iload 4, 2) := by decide +kernel
theorem dX4_send_20 : decode cX4_send 20 = .ok (.ifCond .le 74, 3) := by decide +kernel
theorem dX4_send_23 : decode cX4_send 23 = .ok (.aload_n 0, 1) := by decide +kernel
theorem dX4_send_24 : decode cX4_send 24 = .ok (.iload_n 1, 1) := by decide +kernel
theorem dX4_send_25 : decode cX4_send 25 = .ok (.iload_n 2, 1) := by decide +kernel
theorem dX4_send_26 : decode cX4_send 26 = .ok (.iconst 1, 1) := by decide +kernel
theorem dX4_send_27 : decode cX4_send 27 = .ok (.invokevirtual 87, 3) := by decide +kernel
theorem dX4_send_30 : decode cX4_send 30 = .ok (.ifCond .eq 64, 3) := by decide +kernel
theorem dX4_send_33 : decode cX4_send 33 = .ok (.iload 4, 2) := by decide +kernel
theorem dX4_send_35 : decode cX4_send 35 = .ok (.aload_n 0, 1) := by decide +kernel
theorem dX4_send_36 : decode cX4_send 36 = .ok (.invokevirtual 91, 3) := by decide +kernel
theorem dX4_send_39 : decode cX4_send 39 = .ok (.invokestatic 79, 3) := by decide +kernel
theorem dX4_send_42 : decode cX4_send 42 = .ok (.istore 5, 2) := by decide +kernel
theorem dX4_send_44 : decode cX4_send 44 = .ok (.aload_n 0, 1) := by decide +kernel
theorem dX4_send_45 : decode cX4_send 45 = .ok (.iload 5, 2) := by decide +kernel
theorem dX4_send_47 : decode cX4_send 47 = .ok (.invokevirtual 95, 3) := by decide +kernel
theorem dX4_send_50 : decode cX4_send 50 = .ok (.aload_n 0, 1) := by decide +kernel
theorem dX4_send_51 : decode cX4_send 51 = .ok (.getfield 30, 3) := by decide +kernel
theorem dX4_send_54 : decode cX4_send 54 = .ok (.aload_n 0, 1) := by decide +kernel
theorem dX4_send_55 : decode cX4_send 55 = .ok (.getfield 84, 3) := by decide +kernel
theorem dX4_send_58 : decode cX4_send 58 = .ok (.aload_n 0, 1) := by decide +kernel
theorem dX4_send_59 : decode cX4_send 59 = .ok (.getfield 67, 3) := by decide +kernel
theorem dX4_send_62 : decode cX4_send 62 = .ok (.iastore, 1) := by decide +kernel
theorem dX4_send_63 : decode cX4_send 63 = .ok (.aload_n 0, 1) := by decide +kernel
theorem dX4_send_64 : decode cX4_send 64 = .ok (.getfield 33, 3) := by decide +kernel
theorem dX4_send_67 : decode cX4_send 67 = .ok (.aload_n 0, 1) := by decide +kernel
theorem dX4_send_68 : decode cX4_send 68 = .ok (.getfield 84, 3) := by decide +kernel
theorem dX4_send_71 : decode cX4_send 71 = .ok (.iload 5, 2) := by decide +kernel
theorem dX4_send_73 : decode cX4_send 73 = .ok (.iastore, 1) := by decide +kernel
theorem dX4_send_74 : decode cX4_send 74 = .ok (.aload_n 0, 1) := by decide +kernel
theorem dX4_send_75 : decode cX4_send 75 = .ok (.dup, 1) := by decide +kernel
theorem dX4_send_76 : decode cX4_send 76 = .ok (.getfield 84, 3) := by decide +kernel
theorem dX4_send_79 : decode cX4_send 79 = .ok (.iconst 1, 1) := by decide +kernel
theorem dX4_send_80 : decode cX4_send 80 = .ok (.iadd, 1) := by decide +kernel
theorem dX4_send_81 : decode cX4_send 81 = .ok (.putfield 84, 3) := by decide +kernel
theorem dX4_send_84 : decode cX4_send 84 = .ok (.iload 4, 2) := by decide +kernel
theorem dX4_send_86 : decode cX4_send 86 = .ok (.iload 5, 2) := by decide +kernel
theorem dX4_send_88 : decode cX4_send 88 = .ok (.isub, 1) := by decide +kernel
theorem dX4_send_89 : decode cX4_send 89 = .ok (.istore 4, 2) := by decide +kernel
theorem dX4_send_91 : decode cX4_send 91 = .ok (.goto (-83), 3) := by decide +kernel
theorem dX4_send_94 : decode cX4_send 94 = .ok (.iload_n 3, 1) := by decide +kernel
theorem dX4_send_95 : decode cX4_send 95 = .ok (.iload 4, 2) := by decide +kernel
theorem dX4_send_97 : decode cX4_send 97 = .ok (.isub, 1) := by decide +kernel
theorem dX4_send_98 : decode cX4_send 98 = .ok (.ireturn, 1) := by decide +kernel
theorem dX4_payAll_0 : decode cX4_payAll 0 = .ok (.aload_n 0, 1) := by decide +kernel
theorem dX4_payAll_1 : decode cX4_payAll 1 = .ok (.getfield 9, 3) := by decide +kernel
theorem dX4_payAll_4 : decode cX4_payAll 4 = .ok (.iconst 0, 1) := by decide +kernel
theorem dX4_payAll_5 : decode cX4_payAll 5 = .ok (.aload_n 0, 1) := by decide +kernel
theorem dX4_payAll_6 : decode cX4_payAll 6 = .ok (.getfield 18, 3) := by decide +kernel
theorem dX4_payAll_9 : decode cX4_payAll 9 = .ok (.iconst 0, 1) := by decide +kernel
theorem dX4_payAll_10 : decode cX4_payAll 10 = .ok (.bipush 64, 2) := by decide +kernel
theorem dX4_payAll_12 : decode cX4_payAll 12 = .ok (.invokestatic 50, 3) := by decide +kernel
theorem dX4_payAll_15 : decode cX4_payAll 15 = .ok (.aload_n 0, 1) := by decide +kernel
theorem dX4_payAll_16 : decode cX4_payAll 16 = .ok (.iload_n 1, 1) := by decide +kernel
theorem dX4_payAll_17 : decode cX4_payAll 17 = .ok (.iload_n 2, 1) := by decide +kernel
theorem dX4_payAll_18 : decode cX4_payAll 18 = .ok (.iload_n 3, 1) := by decide +kernel
theorem dX4_payAll_19 : decode cX4_payAll 19 = .ok (.invokevirtual 99, 3) := by decide +kernel
theorem dX4_payAll_22 : decode cX4_payAll 22 = .ok (.iload_n 3, 1) := by decide +kernel
theorem dX4_payAll_23 : decode cX4_payAll 23 = .ok (.if_icmp .ne 5, 3) := by decide +kernel
theorem dX4_payAll_26 : decode cX4_payAll 26 = .ok (.iconst 1, 1) := by decide +kernel
theorem dX4_payAll_27 : decode cX4_payAll 27 = .ok (.ireturn, 1) := by decide +kernel
theorem dX4_payAll_28 : decode cX4_payAll 28 = .ok (.aload_n 0, 1) := by decide +kernel
theorem dX4_payAll_29 : decode cX4_payAll 29 = .ok (.getfield 18, 3) := by decide +kernel
theorem dX4_payAll_32 : decode cX4_payAll 32 = .ok (.iconst 0, 1) := by decide +kernel
theorem dX4_payAll_33 : decode cX4_payAll 33 = .ok (.aload_n 0, 1) := by decide +kernel
theorem dX4_payAll_34 : decode cX4_payAll 34 = .ok (.getfield 9, 3) := by decide +kernel
theorem dX4_payAll_37 : decode cX4_payAll 37 = .ok (.iconst 0, 1) := by decide +kernel
theorem dX4_payAll_38 : decode cX4_payAll 38 = .ok (.bipush 64, 2) := by decide +kernel
theorem dX4_payAll_40 : decode cX4_payAll 40 = .ok (.invokestatic 50, 3) := by decide +kernel
theorem dX4_payAll_43 : decode cX4_payAll 43 = .ok (.iconst 0, 1) := by decide +kernel
theorem dX4_payAll_44 : decode cX4_payAll 44 = .ok (.ireturn, 1) := by decide +kernel
theorem dX4_longestPart_0 : decode cX4_longestPart 0 = .ok (.iconst 0, 1) := by decide +kernel
theorem dX4_longestPart_1 : decode cX4_longestPart 1 = .ok (.istore_n 1, 1) := by decide +kernel
theorem dX4_longestPart_2 : decode cX4_longestPart 2 = .ok (.iconst 0, 1) := by decide +kernel
theorem dX4_longestPart_3 : decode cX4_longestPart 3 = .ok (.istore_n 2, 1) := by decide +kernel
theorem dX4_longestPart_4 : decode cX4_longestPart 4 = .ok (.iload_n 2, 1) := by decide +kernel
theorem dX4_longestPart_5 : decode cX4_longestPart 5 = .ok (.aload_n 0, 1) := by decide +kernel
theorem dX4_longestPart_6 : decode cX4_longestPart 6 = .ok (.getfield 84, 3) := by decide +kernel
theorem dX4_longestPart_9 : decode cX4_longestPart 9 = .ok (.if_icmp .ge 20, 3) := by decide +kernel
theorem dX4_longestPart_12 : decode cX4_longestPart 12 = .ok (.iload_n 1, 1) := by decide +kernel
theorem dX4_longestPart_13 : decode cX4_longestPart 13 = .ok (.aload_n 0, 1) := by decide +kernel
theorem dX4_longestPart_14 : decode cX4_longestPart 14 = .ok (.getfield 30, 3) := by decide +kernel
theorem dX4_longestPart_17 : decode cX4_longestPart 17 = .ok (.iload_n 2, 1) := by decide +kernel
theorem dX4_longestPart_18 : decode cX4_longestPart 18 = .ok (.iaload, 1) := by decide +kernel
theorem dX4_longestPart_19 : decode cX4_longestPart 19 = .ok (.invokestatic 102, 3) := by decide +kernel
theorem dX4_longestPart_22 : decode cX4_longestPart 22 = .ok (.istore_n 1, 1) := by decide +kernel
theorem dX4_longestPart_23 : decode cX4_longestPart 23 = .ok (.iinc 2 1, 3) := by decide +kernel
theorem dX4_longestPart_26 : decode cX4_longestPart 26 = .ok (.goto (-22), 3) := by decide +kernel
theorem dX4_longestPart_29 : decode cX4_longestPart 29 = .ok (.iload_n 1, 1) := by decide +kernel
theorem dX4_longestPart_30 : decode cX4_longestPart 30 = .ok (.ireturn, 1) := by decide +kernel
theorem dX4_reached_0 : decode cX4_reached 0 = .ok (.iconst 1, 1) := by decide +kernel
theorem dX4_reached_1 : decode cX4_reached 1 = .ok (.iload_n 1, 1) := by decide +kernel
theorem dX4_reached_2 : decode cX4_reached 2 = .ok (.ishl, 1) := by decide +kernel
theorem dX4_reached_3 : decode cX4_reached 3 = .ok (.istore_n 3, 1) := by decide +kernel
theorem dX4_reached_4 : decode cX4_reached 4 = .ok (.aload_n 0, 1) := by decide +kernel
theorem dX4_reached_5 : decode cX4_reached 5 = .ok (.getfield 24, 3) := by decide +kernel
theorem dX4_reached_8 : decode cX4_reached 8 = .ok (.iconst 0, 1) := by decide +kernel
theorem dX4_reached_9 : decode cX4_reached 9 = .ok (.iload_n 1, 1) := by decide +kernel
theorem dX4_reached_10 : decode cX4_reached 10 = .ok (.iastore, 1) := by decide +kernel
theorem dX4_reached_11 : decode cX4_reached 11 = .ok (.iconst 1, 1) := by decide +kernel
theorem dX4_reached_12 : decode cX4_reached 12 = .ok (.istore 4, 2) := by decide +kernel
theorem dX4_reached_14 : decode cX4_reached 14 = .ok (.iconst 0, 1) := by decide +kernel
theorem dX4_reached_15 : decode cX4_reached 15 = .ok (.istore 5, 2) := by decide +kernel
theorem dX4_reached_17 : decode cX4_reached 17 = .ok (.iload 5, 2) := by decide +kernel
theorem dX4_reached_19 : decode cX4_reached 19 = .ok (.iload 4, 2) := by decide +kernel
theorem dX4_reached_21 : decode cX4_reached 21 = .ok (.if_icmp .ge 97, 3) := by decide +kernel
theorem dX4_reached_24 : decode cX4_reached 24 = .ok (.iload 5, 2) := by decide +kernel
theorem dX4_reached_26 : decode cX4_reached 26 = .ok (.bipush 8, 2) := by decide +kernel
theorem dX4_reached_28 : decode cX4_reached 28 = .ok (.if_icmp .ge 90, 3) := by decide +kernel
theorem dX4_reached_31 : decode cX4_reached 31 = .ok (.aload_n 0, 1) := by decide +kernel
theorem dX4_reached_32 : decode cX4_reached 32 = .ok (.getfield 24, 3) := by decide +kernel
theorem dX4_reached_35 : decode cX4_reached 35 = .ok (.iload 5, 2) := by decide +kernel
theorem dX4_reached_37 : decode cX4_reached 37 = .ok (.bipush 7, 2) := by decide +kernel
theorem dX4_reached_39 : decode cX4_reached 39 = .ok (.iand, 1) := by decide +kernel
theorem dX4_reached_40 : decode cX4_reached 40 = .ok (.iaload, 1) := by decide +kernel
theorem dX4_reached_41 : decode cX4_reached 41 = .ok (.istore 6, 2) := by decide +kernel
theorem dX4_reached_43 : decode cX4_reached 43 = .ok (.iconst 0, 1) := by decide +kernel
theorem dX4_reached_44 : decode cX4_reached 44 = .ok (.istore 7, 2) := by decide +kernel
theorem dX4_reached_46 : decode cX4_reached 46 = .ok (.iload 7, 2) := by decide +kernel
theorem dX4_reached_48 : decode cX4_reached 48 = .ok (.aload_n 0, 1) := by decide +kernel
theorem dX4_reached_49 : decode cX4_reached 49 = .ok (.getfield 42, 3) := by decide +kernel
theorem dX4_reached_52 : decode cX4_reached 52 = .ok (.if_icmp .ge 60, 3) := by decide +kernel
theorem dX4_reached_55 : decode cX4_reached 55 = .ok (.iload 4, 2) := by decide +kernel
theorem dX4_reached_57 : decode cX4_reached 57 = .ok (.bipush 8, 2) := by decide +kernel
theorem dX4_reached_59 : decode cX4_reached 59 = .ok (.if_icmp .ge 53, 3) := by decide +kernel
theorem dX4_reached_62 : decode cX4_reached 62 = .ok (.iload_n 3, 1) := by decide +kernel
theorem dX4_reached_63 : decode cX4_reached 63 = .ok (.iload 7, 2) := by decide +kernel
theorem dX4_reached_65 : decode cX4_reached 65 = .ok (.ishr, 1) := by decide +kernel
theorem dX4_reached_66 : decode cX4_reached 66 = .ok (.iconst 1, 1) := by decide +kernel
theorem dX4_reached_67 : decode cX4_reached 67 = .ok (.iand, 1) := by decide +kernel
theorem dX4_reached_68 : decode cX4_reached 68 = .ok (.ifCond .ne 38, 3) := by decide +kernel
theorem dX4_reached_71 : decode cX4_reached 71 = .ok (.aload_n 0, 1) := by decide +kernel
theorem dX4_reached_72 : decode cX4_reached 72 = .ok (.getfield 9, 3) := by decide +kernel
theorem dX4_reached_75 : decode cX4_reached 75 = .ok (.iload 6, 2) := by decide +kernel
theorem dX4_reached_77 : decode cX4_reached 77 = .ok (.iload 7, 2) := by decide +kernel
theorem dX4_reached_79 : decode cX4_reached 79 = .ok (.invokestatic 43, 3) := by decide +kernel
theorem dX4_reached_82 : decode cX4_reached 82 = .ok (.iaload, 1) := by decide +kernel
theorem dX4_reached_83 : decode cX4_reached 83 = .ok (.iload_n 2, 1) := by decide +kernel
theorem dX4_reached_84 : decode cX4_reached 84 = .ok (.if_icmp .lt 22, 3) := by decide +kernel
theorem dX4_reached_87 : decode cX4_reached 87 = .ok (.iload_n 3, 1) := by decide +kernel
theorem dX4_reached_88 : decode cX4_reached 88 = .ok (.iconst 1, 1) := by decide +kernel
theorem dX4_reached_89 : decode cX4_reached 89 = .ok (.iload 7, 2) := by decide +kernel
theorem dX4_reached_91 : decode cX4_reached 91 = .ok (.ishl, 1) := by decide +kernel
theorem dX4_reached_92 : decode cX4_reached 92 = .ok (.ior, 1) := by decide +kernel
theorem dX4_reached_93 : decode cX4_reached 93 = .ok (.istore_n 3, 1) := by decide +kernel
theorem dX4_reached_94 : decode cX4_reached 94 = .ok (.aload_n 0, 1) := by decide +kernel
theorem dX4_reached_95 : decode cX4_reached 95 = .ok (.getfield 24, 3) := by decide +kernel
theorem dX4_reached_98 : decode cX4_reached 98 = .ok (.iload 4, 2) := by decide +kernel
theorem dX4_reached_100 : decode cX4_reached 100 = .ok (.iload 7, 2) := by decide +kernel
theorem dX4_reached_102 : decode cX4_reached 102 = .ok (.iastore, 1) := by decide +kernel
theorem dX4_reached_103 : decode cX4_reached 103 = .ok (.iinc 4 1, 3) := by decide +kernel
theorem dX4_reached_106 : decode cX4_reached 106 = .ok (.iinc 7 1, 3) := by decide +kernel
theorem dX4_reached_109 : decode cX4_reached 109 = .ok (.goto (-63), 3) := by decide +kernel
theorem dX4_reached_112 : decode cX4_reached 112 = .ok (.iinc 5 1, 3) := by decide +kernel
theorem dX4_reached_115 : decode cX4_reached 115 = .ok (.goto (-98), 3) := by decide +kernel
theorem dX4_reached_118 : decode cX4_reached 118 = .ok (.iload_n 3, 1) := by decide +kernel
theorem dX4_reached_119 : decode cX4_reached 119 = .ok (.ireturn, 1) := by decide +kernel
theorem dX4_widest_0 : decode cX4_widest 0 = .ok (.iconst 0, 1) := by decide +kernel
theorem dX4_widest_1 : decode cX4_widest 1 = .ok (.istore_n 3, 1) := by decide +kernel
theorem dX4_widest_2 : decode cX4_widest 2 = .ok (.iload_n 3, 1) := by decide +kernel
theorem dX4_widest_3 : decode cX4_widest 3 = .ok (.bipush 8, 2) := by decide +kernel
theorem dX4_widest_5 : decode cX4_widest 5 = .ok (.if_icmp .ge 16, 3) := by decide +kernel
theorem dX4_widest_8 : decode cX4_widest 8 = .ok (.aload_n 0, 1) := by decide +kernel
theorem dX4_widest_9 : decode cX4_widest 9 = .ok (.getfield 21, 3) := by decide +kernel
theorem dX4_widest_12 : decode cX4_widest 12 = .ok (.iload_n 3, 1) := by decide +kernel
theorem dX4_widest_13 : decode cX4_widest 13 = .ok (.iconst 0, 1) := by decide +kernel
theorem dX4_widest_14 : decode cX4_widest 14 = .ok (.iastore, 1) := by decide +kernel
theorem dX4_widest_15 : decode cX4_widest 15 = .ok (.iinc 3 1, 3) := by decide +kernel
theorem dX4_widest_18 : decode cX4_widest 18 = .ok (.goto (-16), 3) := by decide +kernel
theorem dX4_widest_21 : decode cX4_widest 21 = .ok (.aload_n 0, 1) := by decide +kernel
theorem dX4_widest_22 : decode cX4_widest 22 = .ok (.getfield 21, 3) := by decide +kernel
theorem dX4_widest_25 : decode cX4_widest 25 = .ok (.iload_n 1, 1) := by decide +kernel
theorem dX4_widest_26 : decode cX4_widest 26 = .ok (.bipush 7, 2) := by decide +kernel
theorem dX4_widest_28 : decode cX4_widest 28 = .ok (.iand, 1) := by decide +kernel
theorem dX4_widest_29 : decode cX4_widest 29 = .ok (.ldc 74, 2) := by decide +kernel
theorem dX4_widest_31 : decode cX4_widest 31 = .ok (.iastore, 1) := by decide +kernel
theorem dX4_widest_32 : decode cX4_widest 32 = .ok (.iconst 1, 1) := by decide +kernel
theorem dX4_widest_33 : decode cX4_widest 33 = .ok (.istore_n 3, 1) := by decide +kernel
theorem dX4_widest_34 : decode cX4_widest 34 = .ok (.iload_n 3, 1) := by decide +kernel
theorem dX4_widest_35 : decode cX4_widest 35 = .ok (.aload_n 0, 1) := by decide +kernel
theorem dX4_widest_36 : decode cX4_widest 36 = .ok (.getfield 42, 3) := by decide +kernel
theorem dX4_widest_39 : decode cX4_widest 39 = .ok (.if_icmp .ge 97, 3) := by decide +kernel
theorem dX4_widest_42 : decode cX4_widest 42 = .ok (.iconst 0, 1) := by decide +kernel
theorem dX4_widest_43 : decode cX4_widest 43 = .ok (.istore 4, 2) := by decide +kernel
theorem dX4_widest_45 : decode cX4_widest 45 = .ok (.iload 4, 2) := by decide +kernel
theorem dX4_widest_47 : decode cX4_widest 47 = .ok (.aload_n 0, 1) := by decide +kernel
theorem dX4_widest_48 : decode cX4_widest 48 = .ok (.getfield 42, 3) := by decide +kernel
theorem dX4_widest_51 : decode cX4_widest 51 = .ok (.if_icmp .ge 79, 3) := by decide +kernel
theorem dX4_widest_54 : decode cX4_widest 54 = .ok (.iconst 0, 1) := by decide +kernel
theorem dX4_widest_55 : decode cX4_widest 55 = .ok (.istore 5, 2) := by decide +kernel
theorem dX4_widest_57 : decode cX4_widest 57 = .ok (.iload 5, 2) := by decide +kernel
theorem dX4_widest_59 : decode cX4_widest 59 = .ok (.aload_n 0, 1) := by decide +kernel
theorem dX4_widest_60 : decode cX4_widest 60 = .ok (.getfield 42, 3) := by decide +kernel
theorem dX4_widest_63 : decode cX4_widest 63 = .ok (.if_icmp .ge 61, 3) := by decide +kernel
theorem dX4_widest_66 : decode cX4_widest 66 = .ok (.aload_n 0, 1) := by decide +kernel
theorem dX4_widest_67 : decode cX4_widest 67 = .ok (.getfield 21, 3) := by decide +kernel
theorem dX4_widest_70 : decode cX4_widest 70 = .ok (.iload 4, 2) := by decide +kernel
theorem dX4_widest_72 : decode cX4_widest 72 = .ok (.bipush 7, 2) := by decide +kernel
theorem dX4_widest_74 : decode cX4_widest 74 = .ok (.iand, 1) := by decide +kernel
theorem dX4_widest_75 : decode cX4_widest 75 = .ok (.iaload, 1) := by decide +kernel
theorem dX4_widest_76 : decode cX4_widest 76 = .ok (.aload_n 0, 1) := by decide +kernel
theorem dX4_widest_77 : decode cX4_widest 77 = .ok (.getfield 9, 3) := by decide +kernel
theorem dX4_widest_80 : decode cX4_widest 80 = .ok (.iload 4, 2) := by decide +kernel
theorem dX4_widest_82 : decode cX4_widest 82 = .ok (.iload 5, 2) := by decide +kernel
theorem dX4_widest_84 : decode cX4_widest 84 = .ok (.invokestatic 43, 3) := by decide +kernel
theorem dX4_widest_87 : decode cX4_widest 87 = .ok (.iaload, 1) := by decide +kernel
theorem dX4_widest_88 : decode cX4_widest 88 = .ok (.invokestatic 79, 3) := by decide +kernel
theorem dX4_widest_91 : decode cX4_widest 91 = .ok (.istore 6, 2) := by decide +kernel
theorem dX4_widest_93 : decode cX4_widest 93 = .ok (.aload_n 0, 1) := by decide +kernel
theorem dX4_widest_94 : decode cX4_widest 94 = .ok (.getfield 21, 3) := by decide +kernel
theorem dX4_widest_97 : decode cX4_widest 97 = .ok (.iload 5, 2) := by decide +kernel
theorem dX4_widest_99 : decode cX4_widest 99 = .ok (.bipush 7, 2) := by decide +kernel
theorem dX4_widest_101 : decode cX4_widest 101 = .ok (.iand, 1) := by decide +kernel
theorem dX4_widest_102 : decode cX4_widest 102 = .ok (.aload_n 0, 1) := by decide +kernel
theorem dX4_widest_103 : decode cX4_widest 103 = .ok (.getfield 21, 3) := by decide +kernel
theorem dX4_widest_106 : decode cX4_widest 106 = .ok (.iload 5, 2) := by decide +kernel
theorem dX4_widest_108 : decode cX4_widest 108 = .ok (.bipush 7, 2) := by decide +kernel
theorem dX4_widest_110 : decode cX4_widest 110 = .ok (.iand, 1) := by decide +kernel
theorem dX4_widest_111 : decode cX4_widest 111 = .ok (.iaload, 1) := by decide +kernel
theorem dX4_widest_112 : decode cX4_widest 112 = .ok (.iload 6, 2) := by decide +kernel
theorem dX4_widest_114 : decode cX4_widest 114 = .ok (.invokestatic 102, 3) := by decide +kernel
theorem dX4_widest_117 : decode cX4_widest 117 = .ok (.iastore, 1) := by decide +kernel
theorem dX4_widest_118 : decode cX4_widest 118 = .ok (.iinc 5 1, 3) := by decide +kernel
theorem dX4_widest_121 : decode cX4_widest 121 = .ok (.goto (-64), 3) := by decide +kernel
theorem dX4_widest_124 : decode cX4_widest 124 = .ok (.iinc 4 1, 3) := by decide +kernel
theorem dX4_widest_127 : decode cX4_widest 127 = .ok (.goto (-82), 3) := by decide +kernel
theorem dX4_widest_130 : decode cX4_widest 130 = .ok (.iinc 3 1, 3) := by decide +kernel
theorem dX4_widest_133 : decode cX4_widest 133 = .ok (.goto (-99), 3) := by decide +kernel
theorem dX4_widest_136 : decode cX4_widest 136 = .ok (.aload_n 0, 1) := by decide +kernel
theorem dX4_widest_137 : decode cX4_widest 137 = .ok (.getfield 21, 3) := by decide +kernel
theorem dX4_widest_140 : decode cX4_widest 140 = .ok (.iload_n 2, 1) := by decide +kernel
theorem dX4_widest_141 : decode cX4_widest 141 = .ok (.bipush 7, 2) := by decide +kernel
theorem dX4_widest_143 : decode cX4_widest 143 = .ok (.iand, 1) := by decide +kernel
theorem dX4_widest_144 : decode cX4_widest 144 = .ok (.iaload, 1) := by decide +kernel
theorem dX4_widest_145 : decode cX4_widest 145 = .ok (.ireturn, 1) := by decide +kernel
theorem dX5_init_0 : decode cX5_init 0 = .ok (.aload_n 0, 1) := by decide +kernel
theorem dX5_init_1 : decode cX5_init 1 = .ok (.invokespecial 3, 3) := by decide +kernel
theorem dX5_init_4 : decode cX5_init 4 = .ok (.aload_n 0, 1) := by decide +kernel
theorem dX5_init_5 : decode cX5_init 5 = .ok (.sipush 512, 3) := by decide +kernel
theorem dX5_init_8 : decode cX5_init 8 = .ok (.newarray .long, 2) := by decide +kernel
theorem dX5_init_10 : decode cX5_init 10 = .ok (.putfield 9, 3) := by decide +kernel
theorem dX5_init_13 : decode cX5_init 13 = .ok (.return_, 1) := by decide +kernel
theorem dX5_begin_0 : decode cX5_begin 0 = .ok (.aload_n 0, 1) := by decide +kernel
theorem dX5_begin_1 : decode cX5_begin 1 = .ok (.iconst 0, 1) := by decide +kernel
theorem dX5_begin_2 : decode cX5_begin 2 = .ok (.putfield 15, 3) := by decide +kernel
theorem dX5_begin_5 : decode cX5_begin 5 = .ok (.return_, 1) := by decide +kernel
theorem dX5_add_0 : decode cX5_add 0 = .ok (.aload_n 0, 1) := by decide +kernel
theorem dX5_add_1 : decode cX5_add 1 = .ok (.getfield 15, 3) := by decide +kernel
theorem dX5_add_4 : decode cX5_add 4 = .ok (.sipush 512, 3) := by decide +kernel
theorem dX5_add_7 : decode cX5_add 7 = .ok (.if_icmp .ge 23, 3) := by decide +kernel
theorem dX5_add_10 : decode cX5_add 10 = .ok (.aload_n 0, 1) := by decide +kernel
theorem dX5_add_11 : decode cX5_add 11 = .ok (.getfield 9, 3) := by decide +kernel
theorem dX5_add_14 : decode cX5_add 14 = .ok (.aload_n 0, 1) := by decide +kernel
theorem dX5_add_15 : decode cX5_add 15 = .ok (.getfield 15, 3) := by decide +kernel
theorem dX5_add_18 : decode cX5_add 18 = .ok (.lload_n 1, 1) := by decide +kernel
theorem dX5_add_19 : decode cX5_add 19 = .ok (.lastore, 1) := by decide +kernel
theorem dX5_add_20 : decode cX5_add 20 = .ok (.aload_n 0, 1) := by decide +kernel
theorem dX5_add_21 : decode cX5_add 21 = .ok (.dup, 1) := by decide +kernel
theorem dX5_add_22 : decode cX5_add 22 = .ok (.getfield 15, 3) := by decide +kernel
theorem dX5_add_25 : decode cX5_add 25 = .ok (.iconst 1, 1) := by decide +kernel
theorem dX5_add_26 : decode cX5_add 26 = .ok (.iadd, 1) := by decide +kernel
theorem dX5_add_27 : decode cX5_add 27 = .ok (.putfield 15, 3) := by decide +kernel
theorem dX5_add_30 : decode cX5_add 30 = .ok (.return_, 1) := by decide +kernel
theorem dX5_tellOne_0 : decode cX5_tellOne 0 = .ok (.aload_n 0, 1) := by decide +kernel
theorem dX5_tellOne_1 : decode cX5_tellOne 1 = .ok (.invokevirtual 19, 3) := by decide +kernel
theorem dX5_tellOne_4 : decode cX5_tellOne 4 = .ok (.aload_n 0, 1) := by decide +kernel
theorem dX5_tellOne_5 : decode cX5_tellOne 5 = .ok (.lload_n 1, 1) := by decide +kernel
theorem dX5_tellOne_6 : decode cX5_tellOne 6 = .ok (.invokevirtual 22, 3) := by decide +kernel
theorem dX5_tellOne_9 : decode cX5_tellOne 9 = .ok (.return_, 1) := by decide +kernel
theorem dX5_tellTwo_0 : decode cX5_tellTwo 0 = .ok (.aload_n 0, 1) := by decide +kernel
theorem dX5_tellTwo_1 : decode cX5_tellTwo 1 = .ok (.lload_n 1, 1) := by decide +kernel
theorem dX5_tellTwo_2 : decode cX5_tellTwo 2 = .ok (.invokevirtual 26, 3) := by decide +kernel
theorem dX5_tellTwo_5 : decode cX5_tellTwo 5 = .ok (.aload_n 0, 1) := by decide +kernel
theorem dX5_tellTwo_6 : decode cX5_tellTwo 6 = .ok (.lload_n 3, 1) := by decide +kernel
theorem dX5_tellTwo_7 : decode cX5_tellTwo 7 = .ok (.invokevirtual 22, 3) := by decide +kernel
theorem dX5_tellTwo_10 : decode cX5_tellTwo 10 = .ok (.return_, 1) := by decide +kernel
theorem dX5_tellThree_0 : decode cX5_tellThree 0 = .ok (.aload_n 0, 1) := by decide +kernel
theorem dX5_tellThree_1 : decode cX5_tellThree 1 = .ok (.lload_n 1, 1) := by decide +kernel
theorem dX5_tellThree_2 : decode cX5_tellThree 2 = .ok (.lload_n 3, 1) := by decide +kernel
theorem dX5_tellThree_3 : decode cX5_tellThree 3 = .ok (.invokevirtual 29, 3) := by decide +kernel
theorem dX5_tellThree_6 : decode cX5_tellThree 6 = .ok (.aload_n 0, 1) := by decide +kernel
theorem dX5_tellThree_7 : decode cX5_tellThree 7 = .ok (.lload 5, 2) := by decide +kernel
theorem dX5_tellThree_9 : decode cX5_tellThree 9 = .ok (.invokevirtual 22, 3) := by decide +kernel
theorem dX5_tellThree_12 : decode cX5_tellThree 12 = .ok (.return_, 1) := by decide +kernel
theorem dX6_init_0 : decode cX6_init 0 = .ok (.aload_n 0, 1) := by decide +kernel
theorem dX6_init_1 : decode cX6_init 1 = .ok (.invokespecial 3, 3) := by decide +kernel
theorem dX6_init_4 : decode cX6_init 4 = .ok (.aload_n 0, 1) := by decide +kernel
theorem dX6_init_5 : decode cX6_init 5 = .ok (.bipush 8, 2) := by decide +kernel
theorem dX6_init_7 : decode cX6_init 7 = .ok (.anewarray 9, 3) := by decide +kernel
theorem dX6_init_10 : decode cX6_init 10 = .ok (.putfield 11, 3) := by decide +kernel
theorem dX6_init_13 : decode cX6_init 13 = .ok (.iconst 0, 1) := by decide +kernel
theorem dX6_init_14 : decode cX6_init 14 = .ok (.istore_n 1, 1) := by decide +kernel
theorem dX6_init_15 : decode cX6_init 15 = .ok (.iload_n 1, 1) := by decide +kernel
theorem dX6_init_16 : decode cX6_init 16 = .ok (.bipush 8, 2) := by decide +kernel
theorem dX6_init_18 : decode cX6_init 18 = .ok (.if_icmp .ge 22, 3) := by decide +kernel
theorem dX6_init_21 : decode cX6_init 21 = .ok (.aload_n 0, 1) := by decide +kernel
theorem dX6_init_22 : decode cX6_init 22 = .ok (.getfield 11, 3) := by decide +kernel
theorem dX6_init_25 : decode cX6_init 25 = .ok (.iload_n 1, 1) := by decide +kernel
theorem dX6_init_26 : decode cX6_init 26 = .ok (.new 9, 3) := by decide +kernel
theorem dX6_init_29 : decode cX6_init 29 = .ok (.dup, 1) := by decide +kernel
theorem dX6_init_30 : decode cX6_init 30 = .ok (.invokespecial 17, 3) := by decide +kernel
theorem dX6_init_33 : decode cX6_init 33 = .ok (.aastore, 1) := by decide +kernel
theorem dX6_init_34 : decode cX6_init 34 = .ok (.iinc 1 1, 3) := by decide +kernel
theorem dX6_init_37 : decode cX6_init 37 = .ok (.goto (-22), 3) := by decide +kernel
theorem dX6_init_40 : decode cX6_init 40 = .ok (.return_, 1) := by decide +kernel
theorem dX6_add_0 : decode cX6_add 0 = .ok (.aload_n 0, 1) := by decide +kernel
theorem dX6_add_1 : decode cX6_add 1 = .ok (.getfield 18, 3) := by decide +kernel
theorem dX6_add_4 : decode cX6_add 4 = .ok (.bipush 8, 2) := by decide +kernel
theorem dX6_add_6 : decode cX6_add 6 = .ok (.if_icmp .lt 52, 3) := by decide +kernel
theorem dX6_add_9 : decode cX6_add 9 = .ok (.aload_n 0, 1) := by decide +kernel
theorem dX6_add_10 : decode cX6_add 10 = .ok (.getfield 11, 3) := by decide +kernel
theorem dX6_add_13 : decode cX6_add 13 = .ok (.iconst 0, 1) := by decide +kernel
theorem dX6_add_14 : decode cX6_add 14 = .ok (.aaload, 1) := by decide +kernel
theorem dX6_add_15 : decode cX6_add 15 = .ok (.astore_n 2, 1) := by decide +kernel
theorem dX6_add_16 : decode cX6_add 16 = .ok (.iconst 1, 1) := by decide +kernel
theorem dX6_add_17 : decode cX6_add 17 = .ok (.istore_n 3, 1) := by decide +kernel
theorem dX6_add_18 : decode cX6_add 18 = .ok (.iload_n 3, 1) := by decide +kernel
theorem dX6_add_19 : decode cX6_add 19 = .ok (.bipush 8, 2) := by decide +kernel
theorem dX6_add_21 : decode cX6_add 21 = .ok (.if_icmp .ge 23, 3) := by decide +kernel
theorem dX6_add_24 : decode cX6_add 24 = .ok (.aload_n 0, 1) := by decide +kernel
theorem dX6_add_25 : decode cX6_add 25 = .ok (.getfield 11, 3) := by decide +kernel
theorem dX6_add_28 : decode cX6_add 28 = .ok (.iload_n 3, 1) := by decide +kernel
theorem dX6_add_29 : decode cX6_add 29 = .ok (.iconst 1, 1) := by decide +kernel
theorem dX6_add_30 : decode cX6_add 30 = .ok (.isub, 1) := by decide +kernel
theorem dX6_add_31 : decode cX6_add 31 = .ok (.aload_n 0, 1) := by decide +kernel
theorem dX6_add_32 : decode cX6_add 32 = .ok (.getfield 11, 3) := by decide +kernel
theorem dX6_add_35 : decode cX6_add 35 = .ok (.iload_n 3, 1) := by decide +kernel
theorem dX6_add_36 : decode cX6_add 36 = .ok (.aaload, 1) := by decide +kernel
theorem dX6_add_37 : decode cX6_add 37 = .ok (.aastore, 1) := by decide +kernel
theorem dX6_add_38 : decode cX6_add 38 = .ok (.iinc 3 1, 3) := by decide +kernel
theorem dX6_add_41 : decode cX6_add 41 = .ok (.goto (-23), 3) := by decide +kernel
theorem dX6_add_44 : decode cX6_add 44 = .ok (.aload_n 0, 1) := by decide +kernel
theorem dX6_add_45 : decode cX6_add 45 = .ok (.getfield 11, 3) := by decide +kernel
theorem dX6_add_48 : decode cX6_add 48 = .ok (.bipush 7, 2) := by decide +kernel
theorem dX6_add_50 : decode cX6_add 50 = .ok (.aload_n 2, 1) := by decide +kernel
theorem dX6_add_51 : decode cX6_add 51 = .ok (.aastore, 1) := by decide +kernel
theorem dX6_add_52 : decode cX6_add 52 = .ok (.aload_n 0, 1) := by decide +kernel
theorem dX6_add_53 : decode cX6_add 53 = .ok (.bipush 7, 2) := by decide +kernel
theorem dX6_add_55 : decode cX6_add 55 = .ok (.putfield 18, 3) := by decide +kernel
theorem dX6_add_58 : decode cX6_add 58 = .ok (.aload_n 0, 1) := by decide +kernel
theorem dX6_add_59 : decode cX6_add 59 = .ok (.getfield 11, 3) := by decide +kernel
theorem dX6_add_62 : decode cX6_add 62 = .ok (.aload_n 0, 1) := by decide +kernel
theorem dX6_add_63 : decode cX6_add 63 = .ok (.getfield 18, 3) := by decide +kernel
theorem dX6_add_66 : decode cX6_add 66 = .ok (.aaload, 1) := by decide +kernel
theorem dX6_add_67 : decode cX6_add 67 = .ok (.aload_n 1, 1) := by decide +kernel
theorem dX6_add_68 : decode cX6_add 68 = .ok (.invokevirtual 22, 3) := by decide +kernel
theorem dX6_add_71 : decode cX6_add 71 = .ok (.aload_n 0, 1) := by decide +kernel
theorem dX6_add_72 : decode cX6_add 72 = .ok (.dup, 1) := by decide +kernel
theorem dX6_add_73 : decode cX6_add 73 = .ok (.getfield 18, 3) := by decide +kernel
theorem dX6_add_76 : decode cX6_add 76 = .ok (.iconst 1, 1) := by decide +kernel
theorem dX6_add_77 : decode cX6_add 77 = .ok (.iadd, 1) := by decide +kernel
theorem dX6_add_78 : decode cX6_add 78 = .ok (.putfield 18, 3) := by decide +kernel
theorem dX6_add_81 : decode cX6_add 81 = .ok (.return_, 1) := by decide +kernel
theorem dX6_takeInto_0 : decode cX6_takeInto 0 = .ok (.aload_n 0, 1) := by decide +kernel
theorem dX6_takeInto_1 : decode cX6_takeInto 1 = .ok (.getfield 18, 3) := by decide +kernel
theorem dX6_takeInto_4 : decode cX6_takeInto 4 = .ok (.ifCond .le 26, 3) := by decide +kernel
theorem dX6_takeInto_7 : decode cX6_takeInto 7 = .ok (.aload_n 0, 1) := by decide +kernel
theorem dX6_takeInto_8 : decode cX6_takeInto 8 = .ok (.dup, 1) := by decide +kernel
theorem dX6_takeInto_9 : decode cX6_takeInto 9 = .ok (.getfield 18, 3) := by decide +kernel
theorem dX6_takeInto_12 : decode cX6_takeInto 12 = .ok (.iconst 1, 1) := by decide +kernel
theorem dX6_takeInto_13 : decode cX6_takeInto 13 = .ok (.isub, 1) := by decide +kernel
theorem dX6_takeInto_14 : decode cX6_takeInto 14 = .ok (.putfield 18, 3) := by decide +kernel
theorem dX6_takeInto_17 : decode cX6_takeInto 17 = .ok (.aload_n 1, 1) := by decide +kernel
theorem dX6_takeInto_18 : decode cX6_takeInto 18 = .ok (.aload_n 0, 1) := by decide +kernel
theorem dX6_takeInto_19 : decode cX6_takeInto 19 = .ok (.getfield 11, 3) := by decide +kernel
theorem dX6_takeInto_22 : decode cX6_takeInto 22 = .ok (.aload_n 0, 1) := by decide +kernel
theorem dX6_takeInto_23 : decode cX6_takeInto 23 = .ok (.getfield 18, 3) := by decide +kernel
theorem dX6_takeInto_26 : decode cX6_takeInto 26 = .ok (.aaload, 1) := by decide +kernel
theorem dX6_takeInto_27 : decode cX6_takeInto 27 = .ok (.invokevirtual 22, 3) := by decide +kernel
theorem dX6_takeInto_30 : decode cX6_takeInto 30 = .ok (.return_, 1) := by decide +kernel
theorem dX6_forget_0 : decode cX6_forget 0 = .ok (.aload_n 0, 1) := by decide +kernel
theorem dX6_forget_1 : decode cX6_forget 1 = .ok (.iconst 0, 1) := by decide +kernel
theorem dX6_forget_2 : decode cX6_forget 2 = .ok (.putfield 18, 3) := by decide +kernel
theorem dX6_forget_5 : decode cX6_forget 5 = .ok (.return_, 1) := by decide +kernel
theorem dX7_init_0 : decode cX7_init 0 = .ok (.aload_n 0, 1) := by decide +kernel
theorem dX7_init_1 : decode cX7_init 1 = .ok (.invokespecial 3, 3) := by decide +kernel
theorem dX7_init_4 : decode cX7_init 4 = .ok (.aload_n 0, 1) := by decide +kernel
theorem dX7_init_5 : decode cX7_init 5 = .ok (.bipush 8, 2) := by decide +kernel
theorem dX7_init_7 : decode cX7_init 7 = .ok (.newarray .int, 2) := by decide +kernel
theorem dX7_init_9 : decode cX7_init 9 = .ok (.putfield 9, 3) := by decide +kernel
theorem dX7_init_12 : decode cX7_init 12 = .ok (.aload_n 0, 1) := by decide +kernel
theorem dX7_init_13 : decode cX7_init 13 = .ok (.bipush 8, 2) := by decide +kernel
theorem dX7_init_15 : decode cX7_init 15 = .ok (.newarray .int, 2) := by decide +kernel
theorem dX7_init_17 : decode cX7_init 17 = .ok (.putfield 15, 3) := by decide +kernel
theorem dX7_init_20 : decode cX7_init 20 = .ok (.aload_n 0, 1) := by decide +kernel
theorem dX7_init_21 : decode cX7_init 21 = .ok (.bipush 8, 2) := by decide +kernel
theorem dX7_init_23 : decode cX7_init 23 = .ok (.newarray .int, 2) := by decide +kernel
theorem dX7_init_25 : decode cX7_init 25 = .ok (.putfield 18, 3) := by decide +kernel
theorem dX7_init_28 : decode cX7_init 28 = .ok (.return_, 1) := by decide +kernel
theorem dX7_memberAt_0 : decode cX7_memberAt 0 = .ok (.aload_n 0, 1) := by decide +kernel
theorem dX7_memberAt_1 : decode cX7_memberAt 1 = .ok (.getfield 18, 3) := by decide +kernel
theorem dX7_memberAt_4 : decode cX7_memberAt 4 = .ok (.iload_n 1, 1) := by decide +kernel
theorem dX7_memberAt_5 : decode cX7_memberAt 5 = .ok (.bipush 7, 2) := by decide +kernel
theorem dX7_memberAt_7 : decode cX7_memberAt 7 = .ok (.iand, 1) := by decide +kernel
theorem dX7_memberAt_8 : decode cX7_memberAt 8 = .ok (.iaload, 1) := by decide +kernel
theorem dX7_memberAt_9 : decode cX7_memberAt 9 = .ok (.ireturn, 1) := by decide +kernel
theorem dX7_find_0 : decode cX7_find 0 = .ok (.iconst (-1), 1) := by decide +kernel
theorem dX7_find_1 : decode cX7_find 1 = .ok (.istore_n 2, 1) := by decide +kernel
theorem dX7_find_2 : decode cX7_find 2 = .ok (.aload_n 0, 1) := by decide +kernel
theorem dX7_find_3 : decode cX7_find 3 = .ok (.bipush 9, 2) := by decide +kernel
theorem dX7_find_5 : decode cX7_find 5 = .ok (.putfield 21, 3) := by decide +kernel
theorem dX7_find_8 : decode cX7_find 8 = .ok (.iconst 0, 1) := by decide +kernel
theorem dX7_find_9 : decode cX7_find 9 = .ok (.istore_n 3, 1) := by decide +kernel
theorem dX7_find_10 : decode cX7_find 10 = .ok (.iload_n 3, 1) := by decide +kernel
theorem dX7_find_11 : decode cX7_find 11 = .ok (.aload_n 1, 1) := by decide +kernel
theorem dX7_find_12 : decode cX7_find 12 = .ok (.getfield 25, 3) := by decide +kernel
theorem dX7_find_15 : decode cX7_find 15 = .ok (.if_icmp .ge 39, 3) := by decide +kernel
theorem dX7_find_18 : decode cX7_find 18 = .ok (.aload_n 0, 1) := by decide +kernel
theorem dX7_find_19 : decode cX7_find 19 = .ok (.aload_n 1, 1) := by decide +kernel
theorem dX7_find_20 : decode cX7_find 20 = .ok (.iload_n 3, 1) := by decide +kernel
theorem dX7_find_21 : decode cX7_find 21 = .ok (.invokevirtual 30, 3) := by decide +kernel
theorem dX7_find_24 : decode cX7_find 24 = .ok (.istore 4, 2) := by decide +kernel
theorem dX7_find_26 : decode cX7_find 26 = .ok (.iload 4, 2) := by decide +kernel
theorem dX7_find_28 : decode cX7_find 28 = .ok (.ifCond .le 20, 3) := by decide +kernel
theorem dX7_find_31 : decode cX7_find 31 = .ok (.iload 4, 2) := by decide +kernel
theorem dX7_find_33 : decode cX7_find 33 = .ok (.aload_n 0, 1) := by decide +kernel
theorem dX7_find_34 : decode cX7_find 34 = .ok (.getfield 21, 3) := by decide +kernel
theorem dX7_find_37 : decode cX7_find 37 = .ok (.if_icmp .ge 11, 3) := by decide +kernel
theorem dX7_find_40 : decode cX7_find 40 = .ok (.aload_n 0, 1) := by decide +kernel
theorem dX7_find_41 : decode cX7_find 41 = .ok (.iload 4, 2) := by decide +kernel
theorem dX7_find_43 : decode cX7_find 43 = .ok (.putfield 21, 3) := by decide +kernel
theorem dX7_find_46 : decode cX7_find 46 = .ok (.iload_n 3, 1) := by decide +kernel
theorem dX7_find_47 : decode cX7_find 47 = .ok (.istore_n 2, 1) := by decide +kernel
theorem dX7_find_48 : decode cX7_find 48 = .ok (.iinc 3 1, 3) := by decide +kernel
theorem dX7_find_51 : decode cX7_find 51 = .ok (.goto (-41), 3) := by decide +kernel
theorem dX7_find_54 : decode cX7_find 54 = .ok (.iload_n 2, 1) := by decide +kernel
theorem dX7_find_55 : decode cX7_find 55 = .ok (.ifCond .ge 10, 3) := by decide +kernel
theorem dX7_find_58 : decode cX7_find 58 = .ok (.aload_n 0, 1) := by decide +kernel
theorem dX7_find_59 : decode cX7_find 59 = .ok (.iconst 0, 1) := by decide +kernel
theorem dX7_find_60 : decode cX7_find 60 = .ok (.putfield 21, 3) := by decide +kernel
theorem dX7_find_63 : decode cX7_find 63 = .ok (.iconst 0, 1) := by decide +kernel
theorem dX7_find_64 : decode cX7_find 64 = .ok (.ireturn, 1) := by decide +kernel
theorem dX7_find_65 : decode cX7_find 65 = .ok (.aload_n 0, 1) := by decide +kernel
theorem dX7_find_66 : decode cX7_find 66 = .ok (.aload_n 1, 1) := by decide +kernel
theorem dX7_find_67 : decode cX7_find 67 = .ok (.iload_n 2, 1) := by decide +kernel
theorem dX7_find_68 : decode cX7_find 68 = .ok (.invokevirtual 34, 3) := by decide +kernel
theorem dX7_find_71 : decode cX7_find 71 = .ok (.iload_n 2, 1) := by decide +kernel
theorem dX7_find_72 : decode cX7_find 72 = .ok (.istore_n 3, 1) := by decide +kernel
theorem dX7_find_73 : decode cX7_find 73 = .ok (.aload_n 0, 1) := by decide +kernel
theorem dX7_find_74 : decode cX7_find 74 = .ok (.getfield 18, 3) := by decide +kernel
theorem dX7_find_77 : decode cX7_find 77 = .ok (.iconst 0, 1) := by decide +kernel
theorem dX7_find_78 : decode cX7_find 78 = .ok (.iload_n 2, 1) := by decide +kernel
theorem dX7_find_79 : decode cX7_find 79 = .ok (.iastore, 1) := by decide +kernel
theorem dX7_find_80 : decode cX7_find 80 = .ok (.iconst 1, 1) := by decide +kernel
theorem dX7_find_81 : decode cX7_find 81 = .ok (.istore 4, 2) := by decide +kernel
theorem dX7_find_83 : decode cX7_find 83 = .ok (.iload 4, 2) := by decide +kernel
theorem dX7_find_85 : decode cX7_find 85 = .ok (.aload_n 0, 1) := by decide +kernel
theorem dX7_find_86 : decode cX7_find 86 = .ok (.getfield 21, 3) := by decide +kernel
theorem dX7_find_89 : decode cX7_find 89 = .ok (.if_icmp .ge 39, 3) := by decide +kernel
theorem dX7_find_92 : decode cX7_find 92 = .ok (.iload 4, 2) := by decide +kernel
theorem dX7_find_94 : decode cX7_find 94 = .ok (.bipush 8, 2) := by decide +kernel
theorem dX7_find_96 : decode cX7_find 96 = .ok (.if_icmp .ge 32, 3) := by decide +kernel
theorem dX7_find_99 : decode cX7_find 99 = .ok (.aload_n 0, 1) := by decide +kernel
theorem dX7_find_100 : decode cX7_find 100 = .ok (.aload_n 1, 1) := by decide +kernel
theorem dX7_find_101 : decode cX7_find 101 = .ok (.iload_n 2, 1) := by decide +kernel
theorem dX7_find_102 : decode cX7_find 102 = .ok (.iload_n 3, 1) := by decide +kernel
theorem dX7_find_103 : decode cX7_find 103 = .ok (.aload_n 0, 1) := by decide +kernel
theorem dX7_find_104 : decode cX7_find 104 = .ok (.getfield 21, 3) := by decide +kernel
theorem dX7_find_107 : decode cX7_find 107 = .ok (.iload 4, 2) := by decide +kernel
theorem dX7_find_109 : decode cX7_find 109 = .ok (.isub, 1) := by decide +kernel
theorem dX7_find_110 : decode cX7_find 110 = .ok (.invokevirtual 38, 3) := by decide +kernel
theorem dX7_find_113 : decode cX7_find 113 = .ok (.istore_n 3, 1) := by decide +kernel
theorem dX7_find_114 : decode cX7_find 114 = .ok (.aload_n 0, 1) := by decide +kernel
theorem dX7_find_115 : decode cX7_find 115 = .ok (.getfield 18, 3) := by decide +kernel
theorem dX7_find_118 : decode cX7_find 118 = .ok (.iload 4, 2) := by decide +kernel
theorem dX7_find_120 : decode cX7_find 120 = .ok (.iload_n 3, 1) := by decide +kernel
theorem dX7_find_121 : decode cX7_find 121 = .ok (.iastore, 1) := by decide +kernel
theorem dX7_find_122 : decode cX7_find 122 = .ok (.iinc 4 1, 3) := by decide +kernel
theorem dX7_find_125 : decode cX7_find 125 = .ok (.goto (-42), 3) := by decide +kernel
theorem dX7_find_128 : decode cX7_find 128 = .ok (.aload_n 0, 1) := by decide +kernel
theorem dX7_find_129 : decode cX7_find 129 = .ok (.aload_n 0, 1) := by decide +kernel
theorem dX7_find_130 : decode cX7_find 130 = .ok (.aload_n 1, 1) := by decide +kernel
theorem dX7_find_131 : decode cX7_find 131 = .ok (.invokevirtual 42, 3) := by decide +kernel
theorem dX7_find_134 : decode cX7_find 134 = .ok (.putfield 46, 3) := by decide +kernel
theorem dX7_find_137 : decode cX7_find 137 = .ok (.iconst 1, 1) := by decide +kernel
theorem dX7_find_138 : decode cX7_find 138 = .ok (.ireturn, 1) := by decide +kernel
theorem dX7_lengthFrom_0 : decode cX7_lengthFrom 0 = .ok (.aload_n 0, 1) := by decide +kernel
theorem dX7_lengthFrom_1 : decode cX7_lengthFrom 1 = .ok (.aload_n 1, 1) := by decide +kernel
theorem dX7_lengthFrom_2 : decode cX7_lengthFrom 2 = .ok (.iload_n 2, 1) := by decide +kernel
theorem dX7_lengthFrom_3 : decode cX7_lengthFrom 3 = .ok (.invokevirtual 34, 3) := by decide +kernel
theorem dX7_lengthFrom_6 : decode cX7_lengthFrom 6 = .ok (.iconst 0, 1) := by decide +kernel
theorem dX7_lengthFrom_7 : decode cX7_lengthFrom 7 = .ok (.istore_n 3, 1) := by decide +kernel
theorem dX7_lengthFrom_8 : decode cX7_lengthFrom 8 = .ok (.iload_n 2, 1) := by decide +kernel
theorem dX7_lengthFrom_9 : decode cX7_lengthFrom 9 = .ok (.iconst 1, 1) := by decide +kernel
theorem dX7_lengthFrom_10 : decode cX7_lengthFrom 10 = .ok (.iadd, 1) := by decide +kernel
theorem dX7_lengthFrom_11 : decode cX7_lengthFrom 11 = .ok (.istore 4, 2) := by decide +kernel
theorem dX7_lengthFrom_13 : decode cX7_lengthFrom 13 = .ok (.iload 4, 2) := by decide +kernel
theorem dX7_lengthFrom_15 : decode cX7_lengthFrom 15 = .ok (.aload_n 1, 1) := by decide +kernel
theorem dX7_lengthFrom_16 : decode cX7_lengthFrom 16 = .ok (.getfield 25, 3) := by decide +kernel
theorem dX7_lengthFrom_19 : decode cX7_lengthFrom 19 = .ok (.if_icmp .ge 52, 3) := by decide +kernel
theorem dX7_lengthFrom_22 : decode cX7_lengthFrom 22 = .ok (.aload_n 0, 1) := by decide +kernel
theorem dX7_lengthFrom_23 : decode cX7_lengthFrom 23 = .ok (.getfield 9, 3) := by decide +kernel
theorem dX7_lengthFrom_26 : decode cX7_lengthFrom 26 = .ok (.iload 4, 2) := by decide +kernel
theorem dX7_lengthFrom_28 : decode cX7_lengthFrom 28 = .ok (.bipush 7, 2) := by decide +kernel
theorem dX7_lengthFrom_30 : decode cX7_lengthFrom 30 = .ok (.iand, 1) := by decide +kernel
theorem dX7_lengthFrom_31 : decode cX7_lengthFrom 31 = .ok (.iaload, 1) := by decide +kernel
theorem dX7_lengthFrom_32 : decode cX7_lengthFrom 32 = .ok (.iconst 1, 1) := by decide +kernel
theorem dX7_lengthFrom_33 : decode cX7_lengthFrom 33 = .ok (.iadd, 1) := by decide +kernel
theorem dX7_lengthFrom_34 : decode cX7_lengthFrom 34 = .ok (.istore 5, 2) := by decide +kernel
theorem dX7_lengthFrom_36 : decode cX7_lengthFrom 36 = .ok (.iload 5, 2) := by decide +kernel
theorem dX7_lengthFrom_38 : decode cX7_lengthFrom 38 = .ok (.iconst 1, 1) := by decide +kernel
theorem dX7_lengthFrom_39 : decode cX7_lengthFrom 39 = .ok (.if_icmp .le 26, 3) := by decide +kernel
theorem dX7_lengthFrom_42 : decode cX7_lengthFrom 42 = .ok (.aload_n 1, 1) := by decide +kernel
theorem dX7_lengthFrom_43 : decode cX7_lengthFrom 43 = .ok (.iload_n 2, 1) := by decide +kernel
theorem dX7_lengthFrom_44 : decode cX7_lengthFrom 44 = .ok (.iload 4, 2) := by decide +kernel
theorem dX7_lengthFrom_46 : decode cX7_lengthFrom 46 = .ok (.invokevirtual 49, 3) := by decide +kernel
theorem dX7_lengthFrom_49 : decode cX7_lengthFrom 49 = .ok (.ifCond .le 16, 3) := by decide +kernel
theorem dX7_lengthFrom_52 : decode cX7_lengthFrom 52 = .ok (.iload_n 3, 1) := by decide +kernel
theorem dX7_lengthFrom_53 : decode cX7_lengthFrom 53 = .ok (.ifCond .eq 9, 3) := by decide +kernel
theorem dX7_lengthFrom_56 : decode cX7_lengthFrom 56 = .ok (.iload 5, 2) := by decide +kernel
theorem dX7_lengthFrom_58 : decode cX7_lengthFrom 58 = .ok (.iload_n 3, 1) := by decide +kernel
theorem dX7_lengthFrom_59 : decode cX7_lengthFrom 59 = .ok (.if_icmp .ge 6, 3) := by decide +kernel
theorem dX7_lengthFrom_62 : decode cX7_lengthFrom 62 = .ok (.iload 5, 2) := by decide +kernel
theorem dX7_lengthFrom_64 : decode cX7_lengthFrom 64 = .ok (.istore_n 3, 1) := by decide +kernel
theorem dX7_lengthFrom_65 : decode cX7_lengthFrom 65 = .ok (.iinc 4 1, 3) := by decide +kernel
theorem dX7_lengthFrom_68 : decode cX7_lengthFrom 68 = .ok (.goto (-55), 3) := by decide +kernel
theorem dX7_lengthFrom_71 : decode cX7_lengthFrom 71 = .ok (.iload_n 3, 1) := by decide +kernel
theorem dX7_lengthFrom_72 : decode cX7_lengthFrom 72 = .ok (.ireturn, 1) := by decide +kernel
theorem dX7_measure_0 : decode cX7_measure 0 = .ok (.iconst 0, 1) := by decide +kernel
theorem dX7_measure_1 : decode cX7_measure 1 = .ok (.istore_n 3, 1) := by decide +kernel
theorem dX7_measure_2 : decode cX7_measure 2 = .ok (.iload_n 3, 1) := by decide +kernel
theorem dX7_measure_3 : decode cX7_measure 3 = .ok (.bipush 8, 2) := by decide +kernel
theorem dX7_measure_5 : decode cX7_measure 5 = .ok (.if_icmp .ge 16, 3) := by decide +kernel
theorem dX7_measure_8 : decode cX7_measure 8 = .ok (.aload_n 0, 1) := by decide +kernel
theorem dX7_measure_9 : decode cX7_measure 9 = .ok (.getfield 9, 3) := by decide +kernel
theorem dX7_measure_12 : decode cX7_measure 12 = .ok (.iload_n 3, 1) := by decide +kernel
theorem dX7_measure_13 : decode cX7_measure 13 = .ok (.iconst (-1), 1) := by decide +kernel
theorem dX7_measure_14 : decode cX7_measure 14 = .ok (.iastore, 1) := by decide +kernel
theorem dX7_measure_15 : decode cX7_measure 15 = .ok (.iinc 3 1, 3) := by decide +kernel
theorem dX7_measure_18 : decode cX7_measure 18 = .ok (.goto (-16), 3) := by decide +kernel
theorem dX7_measure_21 : decode cX7_measure 21 = .ok (.aload_n 0, 1) := by decide +kernel
theorem dX7_measure_22 : decode cX7_measure 22 = .ok (.getfield 9, 3) := by decide +kernel
theorem dX7_measure_25 : decode cX7_measure 25 = .ok (.iload_n 2, 1) := by decide +kernel
theorem dX7_measure_26 : decode cX7_measure 26 = .ok (.bipush 7, 2) := by decide +kernel
theorem dX7_measure_28 : decode cX7_measure 28 = .ok (.iand, 1) := by decide +kernel
theorem dX7_measure_29 : decode cX7_measure 29 = .ok (.iconst 0, 1) := by decide +kernel
theorem dX7_measure_30 : decode cX7_measure 30 = .ok (.iastore, 1) := by decide +kernel
theorem dX7_measure_31 : decode cX7_measure 31 = .ok (.aload_n 0, 1) := by decide +kernel
theorem dX7_measure_32 : decode cX7_measure 32 = .ok (.getfield 15, 3) := by decide +kernel
theorem dX7_measure_35 : decode cX7_measure 35 = .ok (.iconst 0, 1) := by decide +kernel
theorem dX7_measure_36 : decode cX7_measure 36 = .ok (.iload_n 2, 1) := by decide +kernel
theorem dX7_measure_37 : decode cX7_measure 37 = .ok (.iastore, 1) := by decide +kernel
theorem dX7_measure_38 : decode cX7_measure 38 = .ok (.iconst 1, 1) := by decide +kernel
theorem dX7_measure_39 : decode cX7_measure 39 = .ok (.istore_n 3, 1) := by decide +kernel
theorem dX7_measure_40 : decode cX7_measure 40 = .ok (.iconst 0, 1) := by decide +kernel
theorem dX7_measure_41 : decode cX7_measure 41 = .ok (.istore 4, 2) := by decide +kernel
theorem dX7_measure_43 : decode cX7_measure 43 = .ok (.iload 4, 2) := by decide +kernel
theorem dX7_measure_45 : decode cX7_measure 45 = .ok (.iload_n 3, 1) := by decide +kernel
theorem dX7_measure_46 : decode cX7_measure 46 = .ok (.if_icmp .ge 119, 3) := by decide +kernel
theorem dX7_measure_49 : decode cX7_measure 49 = .ok (.iload 4, 2) := by decide +kernel
theorem dX7_measure_51 : decode cX7_measure 51 = .ok (.bipush 8, 2) := by decide +kernel
theorem dX7_measure_53 : decode cX7_measure 53 = .ok (.if_icmp .ge 112, 3) := by decide +kernel
theorem dX7_measure_56 : decode cX7_measure 56 = .ok (.aload_n 0, 1) := by decide +kernel
theorem dX7_measure_57 : decode cX7_measure 57 = .ok (.getfield 15, 3) := by decide +kernel
theorem dX7_measure_60 : decode cX7_measure 60 = .ok (.iload 4, 2) := by decide +kernel
theorem dX7_measure_62 : decode cX7_measure 62 = .ok (.bipush 7, 2) := by decide +kernel
theorem dX7_measure_64 : decode cX7_measure 64 = .ok (.iand, 1) := by decide +kernel
theorem dX7_measure_65 : decode cX7_measure 65 = .ok (.iaload, 1) := by decide +kernel
theorem dX7_measure_66 : decode cX7_measure 66 = .ok (.istore 5, 2) := by decide +kernel
theorem dX7_measure_68 : decode cX7_measure 68 = .ok (.aload_n 0, 1) := by decide +kernel
theorem dX7_measure_69 : decode cX7_measure 69 = .ok (.getfield 9, 3) := by decide +kernel
theorem dX7_measure_72 : decode cX7_measure 72 = .ok (.iload 5, 2) := by decide +kernel
theorem dX7_measure_74 : decode cX7_measure 74 = .ok (.bipush 7, 2) := by decide +kernel
theorem dX7_measure_76 : decode cX7_measure 76 = .ok (.iand, 1) := by decide +kernel
theorem dX7_measure_77 : decode cX7_measure 77 = .ok (.iaload, 1) := by decide +kernel
theorem dX7_measure_78 : decode cX7_measure 78 = .ok (.iconst 1, 1) := by decide +kernel
theorem dX7_measure_79 : decode cX7_measure 79 = .ok (.iadd, 1) := by decide +kernel
theorem dX7_measure_80 : decode cX7_measure 80 = .ok (.istore 6, 2) := by decide +kernel
theorem dX7_measure_82 : decode cX7_measure 82 = .ok (.iload_n 2, 1) := by decide +kernel
theorem dX7_measure_83 : decode cX7_measure 83 = .ok (.iconst 1, 1) := by decide +kernel
theorem dX7_measure_84 : decode cX7_measure 84 = .ok (.iadd, 1) := by decide +kernel
theorem dX7_measure_85 : decode cX7_measure 85 = .ok (.istore 7, 2) := by decide +kernel
theorem dX7_measure_87 : decode cX7_measure 87 = .ok (.iload 7, 2) := by decide +kernel
theorem dX7_measure_89 : decode cX7_measure 89 = .ok (.aload_n 1, 1) := by decide +kernel
theorem dX7_measure_90 : decode cX7_measure 90 = .ok (.getfield 25, 3) := by decide +kernel
theorem dX7_measure_93 : decode cX7_measure 93 = .ok (.if_icmp .ge 66, 3) := by decide +kernel
theorem dX7_measure_96 : decode cX7_measure 96 = .ok (.iload_n 3, 1) := by decide +kernel
theorem dX7_measure_97 : decode cX7_measure 97 = .ok (.bipush 8, 2) := by decide +kernel
theorem dX7_measure_99 : decode cX7_measure 99 = .ok (.if_icmp .ge 60, 3) := by decide +kernel
theorem dX7_measure_102 : decode cX7_measure 102 = .ok (.aload_n 0, 1) := by decide +kernel
theorem dX7_measure_103 : decode cX7_measure 103 = .ok (.getfield 9, 3) := by decide +kernel
theorem dX7_measure_106 : decode cX7_measure 106 = .ok (.iload 7, 2) := by decide +kernel
theorem dX7_measure_108 : decode cX7_measure 108 = .ok (.bipush 7, 2) := by decide +kernel
theorem dX7_measure_110 : decode cX7_measure 110 = .ok (.iand, 1) := by decide +kernel
theorem dX7_measure_111 : decode cX7_measure 111 = .ok (.iaload, 1) := by decide +kernel
theorem dX7_measure_112 : decode cX7_measure 112 = .ok (.ifCond .ge 41, 3) := by decide +kernel
theorem dX7_measure_115 : decode cX7_measure 115 = .ok (.aload_n 1, 1) := by decide +kernel
theorem dX7_measure_116 : decode cX7_measure 116 = .ok (.getfield 53, 3) := by decide +kernel
theorem dX7_measure_119 : decode cX7_measure 119 = .ok (.iload 7, 2) := by decide +kernel
theorem dX7_measure_121 : decode cX7_measure 121 = .ok (.iload 5, 2) := by decide +kernel
theorem dX7_measure_123 : decode cX7_measure 123 = .ok (.invokestatic 56, 3) := by decide +kernel
theorem dX7_measure_126 : decode cX7_measure 126 = .ok (.iaload, 1) := by decide +kernel
theorem dX7_measure_127 : decode cX7_measure 127 = .ok (.ifCond .le 26, 3) := by decide +kernel
theorem dX7_measure_130 : decode cX7_measure 130 = .ok (.aload_n 0, 1) := by decide +kernel
theorem dX7_measure_131 : decode cX7_measure 131 = .ok (.getfield 9, 3) := by decide +kernel
theorem dX7_measure_134 : decode cX7_measure 134 = .ok (.iload 7, 2) := by decide +kernel
theorem dX7_measure_136 : decode cX7_measure 136 = .ok (.bipush 7, 2) := by decide +kernel
theorem dX7_measure_138 : decode cX7_measure 138 = .ok (.iand, 1) := by decide +kernel
theorem dX7_measure_139 : decode cX7_measure 139 = .ok (.iload 6, 2) := by decide +kernel
theorem dX7_measure_141 : decode cX7_measure 141 = .ok (.iastore, 1) := by decide +kernel
theorem dX7_measure_142 : decode cX7_measure 142 = .ok (.aload_n 0, 1) := by decide +kernel
theorem dX7_measure_143 : decode cX7_measure 143 = .ok (.getfield 15, 3) := by decide +kernel
theorem dX7_measure_146 : decode cX7_measure 146 = .ok (.iload_n 3, 1) := by decide +kernel
theorem dX7_measure_147 : decode cX7_measure 147 = .ok (.iload 7, 2) := by decide +kernel
theorem dX7_measure_149 : decode cX7_measure 149 = .ok (.iastore, 1) := by decide +kernel
theorem dX7_measure_150 : decode cX7_measure 150 = .ok (.iinc 3 1, 3) := by decide +kernel
theorem dX7_measure_153 : decode cX7_measure 153 = .ok (.iinc 7 1, 3) := by decide +kernel
theorem dX7_measure_156 : decode cX7_measure 156 = .ok (.goto (-69), 3) := by decide +kernel
theorem dX7_measure_159 : decode cX7_measure 159 = .ok (.iinc 4 1, 3) := by decide +kernel
theorem dX7_measure_162 : decode cX7_measure 162 = .ok (.goto (-119), 3) := by decide +kernel
theorem dX7_measure_165 : decode cX7_measure 165 = .ok (.return_, 1) := by decide +kernel
theorem dX7_nextTowards_0 : decode cX7_nextTowards 0 = .ok (.iload_n 2, 1) := by decide +kernel
theorem dX7_nextTowards_1 : decode cX7_nextTowards 1 = .ok (.iconst 1, 1) := by decide +kernel
theorem dX7_nextTowards_2 : decode cX7_nextTowards 2 = .ok (.iadd, 1) := by decide +kernel
theorem dX7_nextTowards_3 : decode cX7_nextTowards 3 = .ok (.istore 5, 2) := by decide +kernel
theorem dX7_nextTowards_5 : decode cX7_nextTowards 5 = .ok (.iload 5, 2) := by decide +kernel
theorem dX7_nextTowards_7 : decode cX7_nextTowards 7 = .ok (.aload_n 1, 1) := by decide +kernel
theorem dX7_nextTowards_8 : decode cX7_nextTowards 8 = .ok (.getfield 25, 3) := by decide +kernel
theorem dX7_nextTowards_11 : decode cX7_nextTowards 11 = .ok (.if_icmp .ge 37, 3) := by decide +kernel
theorem dX7_nextTowards_14 : decode cX7_nextTowards 14 = .ok (.aload_n 0, 1) := by decide +kernel
theorem dX7_nextTowards_15 : decode cX7_nextTowards 15 = .ok (.getfield 9, 3) := by decide +kernel
theorem dX7_nextTowards_18 : decode cX7_nextTowards 18 = .ok (.iload 5, 2) := by decide +kernel
theorem dX7_nextTowards_20 : decode cX7_nextTowards 20 = .ok (.bipush 7, 2) := by decide +kernel
theorem dX7_nextTowards_22 : decode cX7_nextTowards 22 = .ok (.iand, 1) := by decide +kernel
theorem dX7_nextTowards_23 : decode cX7_nextTowards 23 = .ok (.iaload, 1) := by decide +kernel
theorem dX7_nextTowards_24 : decode cX7_nextTowards 24 = .ok (.iload 4, 2) := by decide +kernel
theorem dX7_nextTowards_26 : decode cX7_nextTowards 26 = .ok (.if_icmp .ne 16, 3) := by decide +kernel
theorem dX7_nextTowards_29 : decode cX7_nextTowards 29 = .ok (.aload_n 1, 1) := by decide +kernel
theorem dX7_nextTowards_30 : decode cX7_nextTowards 30 = .ok (.iload_n 3, 1) := by decide +kernel
theorem dX7_nextTowards_31 : decode cX7_nextTowards 31 = .ok (.iload 5, 2) := by decide +kernel
theorem dX7_nextTowards_33 : decode cX7_nextTowards 33 = .ok (.invokevirtual 49, 3) := by decide +kernel
theorem dX7_nextTowards_36 : decode cX7_nextTowards 36 = .ok (.ifCond .le 6, 3) := by decide +kernel
theorem dX7_nextTowards_39 : decode cX7_nextTowards 39 = .ok (.iload 5, 2) := by decide +kernel
theorem dX7_nextTowards_41 : decode cX7_nextTowards 41 = .ok (.ireturn, 1) := by decide +kernel
theorem dX7_nextTowards_42 : decode cX7_nextTowards 42 = .ok (.iinc 5 1, 3) := by decide +kernel
theorem dX7_nextTowards_45 : decode cX7_nextTowards 45 = .ok (.goto (-40), 3) := by decide +kernel
theorem dX7_nextTowards_48 : decode cX7_nextTowards 48 = .ok (.iload_n 3, 1) := by decide +kernel
theorem dX7_nextTowards_49 : decode cX7_nextTowards 49 = .ok (.ireturn, 1) := by decide +kernel
theorem dX7_leastOwed_0 : decode cX7_leastOwed 0 = .ok (.ldc 59, 2) := by decide +kernel
theorem dX7_leastOwed_2 : decode cX7_leastOwed 2 = .ok (.istore_n 2, 1) := by decide +kernel
theorem dX7_leastOwed_3 : decode cX7_leastOwed 3 = .ok (.iconst 0, 1) := by decide +kernel
theorem dX7_leastOwed_4 : decode cX7_leastOwed 4 = .ok (.istore_n 3, 1) := by decide +kernel
theorem dX7_leastOwed_5 : decode cX7_leastOwed 5 = .ok (.iload_n 3, 1) := by decide +kernel
theorem dX7_leastOwed_6 : decode cX7_leastOwed 6 = .ok (.aload_n 0, 1) := by decide +kernel
theorem dX7_leastOwed_7 : decode cX7_leastOwed 7 = .ok (.getfield 21, 3) := by decide +kernel
theorem dX7_leastOwed_10 : decode cX7_leastOwed 10 = .ok (.if_icmp .ge 28, 3) := by decide +kernel
theorem dX7_leastOwed_13 : decode cX7_leastOwed 13 = .ok (.iload_n 2, 1) := by decide +kernel
theorem dX7_leastOwed_14 : decode cX7_leastOwed 14 = .ok (.aload_n 1, 1) := by decide +kernel
theorem dX7_leastOwed_15 : decode cX7_leastOwed 15 = .ok (.aload_n 0, 1) := by decide +kernel
theorem dX7_leastOwed_16 : decode cX7_leastOwed 16 = .ok (.iload_n 3, 1) := by decide +kernel
theorem dX7_leastOwed_17 : decode cX7_leastOwed 17 = .ok (.invokevirtual 60, 3) := by decide +kernel
theorem dX7_leastOwed_20 : decode cX7_leastOwed 20 = .ok (.aload_n 0, 1) := by decide +kernel
theorem dX7_leastOwed_21 : decode cX7_leastOwed 21 = .ok (.iload_n 3, 1) := by decide +kernel
theorem dX7_leastOwed_22 : decode cX7_leastOwed 22 = .ok (.invokevirtual 64, 3) := by decide +kernel
theorem dX7_leastOwed_25 : decode cX7_leastOwed 25 = .ok (.invokevirtual 49, 3) := by decide +kernel
theorem dX7_leastOwed_28 : decode cX7_leastOwed 28 = .ok (.invokestatic 67, 3) := by decide +kernel
theorem dX7_leastOwed_31 : decode cX7_leastOwed 31 = .ok (.istore_n 2, 1) := by decide +kernel
theorem dX7_leastOwed_32 : decode cX7_leastOwed 32 = .ok (.iinc 3 1, 3) := by decide +kernel
theorem dX7_leastOwed_35 : decode cX7_leastOwed 35 = .ok (.goto (-30), 3) := by decide +kernel
theorem dX7_leastOwed_38 : decode cX7_leastOwed 38 = .ok (.iload_n 2, 1) := by decide +kernel
theorem dX7_leastOwed_39 : decode cX7_leastOwed 39 = .ok (.ireturn, 1) := by decide +kernel
theorem dX7_nextOnRing_0 : decode cX7_nextOnRing 0 = .ok (.iload_n 1, 1) := by decide +kernel
theorem dX7_nextOnRing_1 : decode cX7_nextOnRing 1 = .ok (.iconst 1, 1) := by decide +kernel
theorem dX7_nextOnRing_2 : decode cX7_nextOnRing 2 = .ok (.iadd, 1) := by decide +kernel
theorem dX7_nextOnRing_3 : decode cX7_nextOnRing 3 = .ok (.aload_n 0, 1) := by decide +kernel
theorem dX7_nextOnRing_4 : decode cX7_nextOnRing 4 = .ok (.getfield 21, 3) := by decide +kernel
theorem dX7_nextOnRing_7 : decode cX7_nextOnRing 7 = .ok (.if_icmp .ge 13, 3) := by decide +kernel
theorem dX7_nextOnRing_10 : decode cX7_nextOnRing 10 = .ok (.aload_n 0, 1) := by decide +kernel
theorem dX7_nextOnRing_11 : decode cX7_nextOnRing 11 = .ok (.iload_n 1, 1) := by decide +kernel
theorem dX7_nextOnRing_12 : decode cX7_nextOnRing 12 = .ok (.iconst 1, 1) := by decide +kernel
theorem dX7_nextOnRing_13 : decode cX7_nextOnRing 13 = .ok (.iadd, 1) := by decide +kernel
theorem dX7_nextOnRing_14 : decode cX7_nextOnRing 14 = .ok (.invokevirtual 60, 3) := by decide +kernel
theorem dX7_nextOnRing_17 : decode cX7_nextOnRing 17 = .ok (.goto 8, 3) := by decide +kernel
theorem dX7_nextOnRing_20 : decode cX7_nextOnRing 20 = .ok (.aload_n 0, 1) := by decide +kernel
theorem dX7_nextOnRing_21 : decode cX7_nextOnRing 21 = .ok (.iconst 0, 1) := by decide +kernel
theorem dX7_nextOnRing_22 : decode cX7_nextOnRing 22 = .ok (.invokevirtual 60, 3) := by decide +kernel
theorem dX7_nextOnRing_25 : decode cX7_nextOnRing 25 = .ok (.ireturn, 1) := by decide +kernel
theorem dX7_settleAll_0 : decode cX7_settleAll 0 = .ok (.iconst 0, 1) := by decide +kernel
theorem dX7_settleAll_1 : decode cX7_settleAll 1 = .ok (.istore_n 2, 1) := by decide +kernel
theorem dX7_settleAll_2 : decode cX7_settleAll 2 = .ok (.iload_n 2, 1) := by decide +kernel
theorem dX7_settleAll_3 : decode cX7_settleAll 3 = .ok (.bipush 64, 2) := by decide +kernel
theorem dX7_settleAll_5 : decode cX7_settleAll 5 = .ok (.if_icmp .ge 51, 3) := by decide +kernel
theorem dX7_settleAll_8 : decode cX7_settleAll 8 = .ok (.aload_n 0, 1) := by decide +kernel
theorem dX7_settleAll_9 : decode cX7_settleAll 9 = .ok (.aload_n 1, 1) := by decide +kernel
theorem dX7_settleAll_10 : decode cX7_settleAll 10 = .ok (.invokevirtual 72, 3) := by decide +kernel
theorem dX7_settleAll_13 : decode cX7_settleAll 13 = .ok (.ifCond .eq 43, 3) := by decide +kernel
theorem dX7_settleAll_16 : decode cX7_settleAll 16 = .ok (.iconst 0, 1) := by decide +kernel
theorem dX7_settleAll_17 : decode cX7_settleAll 17 = .ok (.istore_n 3, 1) := by decide +kernel
theorem dX7_settleAll_18 : decode cX7_settleAll 18 = .ok (.iload_n 3, 1) := by decide +kernel
theorem dX7_settleAll_19 : decode cX7_settleAll 19 = .ok (.aload_n 0, 1) := by decide +kernel
theorem dX7_settleAll_20 : decode cX7_settleAll 20 = .ok (.getfield 21, 3) := by decide +kernel
theorem dX7_settleAll_23 : decode cX7_settleAll 23 = .ok (.if_icmp .ge 27, 3) := by decide +kernel
theorem dX7_settleAll_26 : decode cX7_settleAll 26 = .ok (.aload_n 1, 1) := by decide +kernel
theorem dX7_settleAll_27 : decode cX7_settleAll 27 = .ok (.aload_n 0, 1) := by decide +kernel
theorem dX7_settleAll_28 : decode cX7_settleAll 28 = .ok (.iload_n 3, 1) := by decide +kernel
theorem dX7_settleAll_29 : decode cX7_settleAll 29 = .ok (.invokevirtual 64, 3) := by decide +kernel
theorem dX7_settleAll_32 : decode cX7_settleAll 32 = .ok (.aload_n 0, 1) := by decide +kernel
theorem dX7_settleAll_33 : decode cX7_settleAll 33 = .ok (.iload_n 3, 1) := by decide +kernel
theorem dX7_settleAll_34 : decode cX7_settleAll 34 = .ok (.invokevirtual 60, 3) := by decide +kernel
theorem dX7_settleAll_37 : decode cX7_settleAll 37 = .ok (.aload_n 0, 1) := by decide +kernel
theorem dX7_settleAll_38 : decode cX7_settleAll 38 = .ok (.getfield 46, 3) := by decide +kernel
theorem dX7_settleAll_41 : decode cX7_settleAll 41 = .ok (.invokevirtual 76, 3) := by decide +kernel
theorem dX7_settleAll_44 : decode cX7_settleAll 44 = .ok (.iinc 3 1, 3) := by decide +kernel
theorem dX7_settleAll_47 : decode cX7_settleAll 47 = .ok (.goto (-29), 3) := by decide +kernel
theorem dX7_settleAll_50 : decode cX7_settleAll 50 = .ok (.iinc 2 1, 3) := by decide +kernel
theorem dX7_settleAll_53 : decode cX7_settleAll 53 = .ok (.goto (-51), 3) := by decide +kernel
theorem dX7_settleAll_56 : decode cX7_settleAll 56 = .ok (.iload_n 2, 1) := by decide +kernel
theorem dX7_settleAll_57 : decode cX7_settleAll 57 = .ok (.ireturn, 1) := by decide +kernel
theorem dX8_init_0 : decode cX8_init 0 = .ok (.aload_n 0, 1) := by decide +kernel
theorem dX8_init_1 : decode cX8_init 1 = .ok (.invokespecial 3, 3) := by decide +kernel
theorem dX8_init_4 : decode cX8_init 4 = .ok (.aload_n 0, 1) := by decide +kernel
theorem dX8_init_5 : decode cX8_init 5 = .ok (.iconst 5, 1) := by decide +kernel
theorem dX8_init_6 : decode cX8_init 6 = .ok (.bipush 64, 2) := by decide +kernel
theorem dX8_init_8 : decode cX8_init 8 = .ok (.multianewarray 9 2, 4) := by decide +kernel
theorem dX8_init_12 : decode cX8_init 12 = .ok (.putfield 11, 3) := by decide +kernel
theorem dX8_init_15 : decode cX8_init 15 = .ok (.aload_n 0, 1) := by decide +kernel
theorem dX8_init_16 : decode cX8_init 16 = .ok (.iconst 5, 1) := by decide +kernel
theorem dX8_init_17 : decode cX8_init 17 = .ok (.newarray .int, 2) := by decide +kernel
theorem dX8_init_19 : decode cX8_init 19 = .ok (.putfield 16, 3) := by decide +kernel
theorem dX8_init_22 : decode cX8_init 22 = .ok (.aload_n 0, 1) := by decide +kernel
theorem dX8_init_23 : decode cX8_init 23 = .ok (.iconst 5, 1) := by decide +kernel
theorem dX8_init_24 : decode cX8_init 24 = .ok (.newarray .int, 2) := by decide +kernel
theorem dX8_init_26 : decode cX8_init 26 = .ok (.putfield 20, 3) := by decide +kernel
theorem dX8_init_29 : decode cX8_init 29 = .ok (.return_, 1) := by decide +kernel
theorem dX8_search_0 : decode cX8_search 0 = .ok (.aload_n 0, 1) := by decide +kernel
theorem dX8_search_1 : decode cX8_search 1 = .ok (.iconst 0, 1) := by decide +kernel
theorem dX8_search_2 : decode cX8_search 2 = .ok (.putfield 23, 3) := by decide +kernel
theorem dX8_search_5 : decode cX8_search 5 = .ok (.aload_n 0, 1) := by decide +kernel
theorem dX8_search_6 : decode cX8_search 6 = .ok (.aload_n 1, 1) := by decide +kernel
theorem dX8_search_7 : decode cX8_search 7 = .ok (.aload_n 2, 1) := by decide +kernel
theorem dX8_search_8 : decode cX8_search 8 = .ok (.iconst 0, 1) := by decide +kernel
theorem dX8_search_9 : decode cX8_search 9 = .ok (.iconst 0, 1) := by decide +kernel
theorem dX8_search_10 : decode cX8_search 10 = .ok (.invokevirtual 27, 3) := by decide +kernel
theorem dX8_search_13 : decode cX8_search 13 = .ok (.return_, 1) := by decide +kernel
theorem dX8_goOn_0 : decode cX8_goOn 0 = .ok (.iload_n 3, 1) := by decide +kernel
theorem dX8_goOn_1 : decode cX8_goOn 1 = .ok (.aload_n 2, 1) := by decide +kernel
theorem dX8_goOn_2 : decode cX8_goOn 2 = .ok (.getfield 31, 3) := by decide +kernel
theorem dX8_goOn_5 : decode cX8_goOn 5 = .ok (.if_icmp .lt 35, 3) := by decide +kernel
theorem dX8_goOn_8 : decode cX8_goOn 8 = .ok (.aload_n 0, 1) := by decide +kernel
theorem dX8_goOn_9 : decode cX8_goOn 9 = .ok (.getfield 23, 3) := by decide +kernel
theorem dX8_goOn_12 : decode cX8_goOn 12 = .ok (.ifCond .ne 17, 3) := by decide +kernel
theorem dX8_goOn_15 : decode cX8_goOn 15 = .ok (.aload_n 0, 1) := by decide +kernel
theorem dX8_goOn_16 : decode cX8_goOn 16 = .ok (.getfield 16, 3) := by decide +kernel
theorem dX8_goOn_19 : decode cX8_goOn 19 = .ok (.iconst 0, 1) := by decide +kernel
theorem dX8_goOn_20 : decode cX8_goOn 20 = .ok (.aload_n 0, 1) := by decide +kernel
theorem dX8_goOn_21 : decode cX8_goOn 21 = .ok (.getfield 20, 3) := by decide +kernel
theorem dX8_goOn_24 : decode cX8_goOn 24 = .ok (.iconst 0, 1) := by decide +kernel
theorem dX8_goOn_25 : decode cX8_goOn 25 = .ok (.iconst 5, 1) := by decide +kernel
theorem dX8_goOn_26 : decode cX8_goOn 26 = .ok (.invokestatic 36, 3) := by decide +kernel
theorem dX8_goOn_29 : decode cX8_goOn 29 = .ok (.aload_n 0, 1) := by decide +kernel
theorem dX8_goOn_30 : decode cX8_goOn 30 = .ok (.dup, 1) := by decide +kernel
theorem dX8_goOn_31 : decode cX8_goOn 31 = .ok (.getfield 23, 3) := by decide +kernel
theorem dX8_goOn_34 : decode cX8_goOn 34 = .ok (.iconst 1, 1) := by decide +kernel
theorem dX8_goOn_35 : decode cX8_goOn 35 = .ok (.iadd, 1) := by decide +kernel
theorem dX8_goOn_36 : decode cX8_goOn 36 = .ok (.putfield 23, 3) := by decide +kernel
theorem dX8_goOn_39 : decode cX8_goOn 39 = .ok (.return_, 1) := by decide +kernel
theorem dX8_goOn_40 : decode cX8_goOn 40 = .ok (.iload_n 3, 1) := by decide +kernel
theorem dX8_goOn_41 : decode cX8_goOn 41 = .ok (.iconst 5, 1) := by decide +kernel
theorem dX8_goOn_42 : decode cX8_goOn 42 = .ok (.if_icmp .lt 4, 3) := by decide +kernel
theorem dX8_goOn_45 : decode cX8_goOn 45 = .ok (.return_, 1) := by decide +kernel
theorem dX8_goOn_46 : decode cX8_goOn 46 = .ok (.aload_n 1, 1) := by decide +kernel
theorem dX8_goOn_47 : decode cX8_goOn 47 = .ok (.getfield 42, 3) := by decide +kernel
theorem dX8_goOn_50 : decode cX8_goOn 50 = .ok (.iconst 0, 1) := by decide +kernel
theorem dX8_goOn_51 : decode cX8_goOn 51 = .ok (.aload_n 0, 1) := by decide +kernel
theorem dX8_goOn_52 : decode cX8_goOn 52 = .ok (.getfield 11, 3) := by decide +kernel
theorem dX8_goOn_55 : decode cX8_goOn 55 = .ok (.iload_n 3, 1) := by decide +kernel
theorem dX8_goOn_56 : decode cX8_goOn 56 = .ok (.aaload, 1) := by decide +kernel
theorem dX8_goOn_57 : decode cX8_goOn 57 = .ok (.iconst 0, 1) := by decide +kernel
theorem dX8_goOn_58 : decode cX8_goOn 58 = .ok (.bipush 64, 2) := by decide +kernel
theorem dX8_goOn_60 : decode cX8_goOn 60 = .ok (.invokestatic 36, 3) := by decide +kernel
theorem dX8_goOn_63 : decode cX8_goOn 63 = .ok (.iconst 0, 1) := by decide +kernel
theorem dX8_goOn_64 : decode cX8_goOn 64 = .ok (.istore 5, 2) := by decide +kernel
theorem dX8_goOn_66 : decode cX8_goOn 66 = .ok (.iload 5, 2) := by decide +kernel
theorem dX8_goOn_68 : decode cX8_goOn 68 = .ok (.aload_n 2, 1) := by decide +kernel
theorem dX8_goOn_69 : decode cX8_goOn 69 = .ok (.getfield 31, 3) := by decide +kernel
theorem dX8_goOn_72 : decode cX8_goOn 72 = .ok (.if_icmp .ge 98, 3) := by decide +kernel
theorem dX8_goOn_75 : decode cX8_goOn 75 = .ok (.iload 4, 2) := by decide +kernel
theorem dX8_goOn_77 : decode cX8_goOn 77 = .ok (.iload 5, 2) := by decide +kernel
theorem dX8_goOn_79 : decode cX8_goOn 79 = .ok (.ishr, 1) := by decide +kernel
theorem dX8_goOn_80 : decode cX8_goOn 80 = .ok (.iconst 1, 1) := by decide +kernel
theorem dX8_goOn_81 : decode cX8_goOn 81 = .ok (.iand, 1) := by decide +kernel
theorem dX8_goOn_82 : decode cX8_goOn 82 = .ok (.iconst 1, 1) := by decide +kernel
theorem dX8_goOn_83 : decode cX8_goOn 83 = .ok (.if_icmp .ne 6, 3) := by decide +kernel
theorem dX8_goOn_86 : decode cX8_goOn 86 = .ok (.goto 78, 3) := by decide +kernel
theorem dX8_goOn_89 : decode cX8_goOn 89 = .ok (.aload_n 0, 1) := by decide +kernel
theorem dX8_goOn_90 : decode cX8_goOn 90 = .ok (.getfield 11, 3) := by decide +kernel
theorem dX8_goOn_93 : decode cX8_goOn 93 = .ok (.iload_n 3, 1) := by decide +kernel
theorem dX8_goOn_94 : decode cX8_goOn 94 = .ok (.aaload, 1) := by decide +kernel
theorem dX8_goOn_95 : decode cX8_goOn 95 = .ok (.iconst 0, 1) := by decide +kernel
theorem dX8_goOn_96 : decode cX8_goOn 96 = .ok (.aload_n 1, 1) := by decide +kernel
theorem dX8_goOn_97 : decode cX8_goOn 97 = .ok (.getfield 42, 3) := by decide +kernel
theorem dX8_goOn_100 : decode cX8_goOn 100 = .ok (.iconst 0, 1) := by decide +kernel
theorem dX8_goOn_101 : decode cX8_goOn 101 = .ok (.bipush 64, 2) := by decide +kernel
theorem dX8_goOn_103 : decode cX8_goOn 103 = .ok (.invokestatic 36, 3) := by decide +kernel
theorem dX8_goOn_106 : decode cX8_goOn 106 = .ok (.aload_n 2, 1) := by decide +kernel
theorem dX8_goOn_107 : decode cX8_goOn 107 = .ok (.getfield 47, 3) := by decide +kernel
theorem dX8_goOn_110 : decode cX8_goOn 110 = .ok (.iload 5, 2) := by decide +kernel
theorem dX8_goOn_112 : decode cX8_goOn 112 = .ok (.iaload, 1) := by decide +kernel
theorem dX8_goOn_113 : decode cX8_goOn 113 = .ok (.istore 6, 2) := by decide +kernel
theorem dX8_goOn_115 : decode cX8_goOn 115 = .ok (.aload_n 1, 1) := by decide +kernel
theorem dX8_goOn_116 : decode cX8_goOn 116 = .ok (.aload_n 2, 1) := by decide +kernel
theorem dX8_goOn_117 : decode cX8_goOn 117 = .ok (.getfield 50, 3) := by decide +kernel
theorem dX8_goOn_120 : decode cX8_goOn 120 = .ok (.iload 5, 2) := by decide +kernel
theorem dX8_goOn_122 : decode cX8_goOn 122 = .ok (.iaload, 1) := by decide +kernel
theorem dX8_goOn_123 : decode cX8_goOn 123 = .ok (.aload_n 2, 1) := by decide +kernel
theorem dX8_goOn_124 : decode cX8_goOn 124 = .ok (.getfield 53, 3) := by decide +kernel
theorem dX8_goOn_127 : decode cX8_goOn 127 = .ok (.iload 5, 2) := by decide +kernel
theorem dX8_goOn_129 : decode cX8_goOn 129 = .ok (.iaload, 1) := by decide +kernel
theorem dX8_goOn_130 : decode cX8_goOn 130 = .ok (.iload 6, 2) := by decide +kernel
theorem dX8_goOn_132 : decode cX8_goOn 132 = .ok (.invokevirtual 56, 3) := by decide +kernel
theorem dX8_goOn_135 : decode cX8_goOn 135 = .ok (.iload 6, 2) := by decide +kernel
theorem dX8_goOn_137 : decode cX8_goOn 137 = .ok (.if_icmp .ne 27, 3) := by decide +kernel
theorem dX8_goOn_140 : decode cX8_goOn 140 = .ok (.aload_n 0, 1) := by decide +kernel
theorem dX8_goOn_141 : decode cX8_goOn 141 = .ok (.getfield 16, 3) := by decide +kernel
theorem dX8_goOn_144 : decode cX8_goOn 144 = .ok (.iload_n 3, 1) := by decide +kernel
theorem dX8_goOn_145 : decode cX8_goOn 145 = .ok (.iload 5, 2) := by decide +kernel
theorem dX8_goOn_147 : decode cX8_goOn 147 = .ok (.iastore, 1) := by decide +kernel
theorem dX8_goOn_148 : decode cX8_goOn 148 = .ok (.aload_n 0, 1) := by decide +kernel
theorem dX8_goOn_149 : decode cX8_goOn 149 = .ok (.aload_n 1, 1) := by decide +kernel
theorem dX8_goOn_150 : decode cX8_goOn 150 = .ok (.aload_n 2, 1) := by decide +kernel
theorem dX8_goOn_151 : decode cX8_goOn 151 = .ok (.iload_n 3, 1) := by decide +kernel
theorem dX8_goOn_152 : decode cX8_goOn 152 = .ok (.iconst 1, 1) := by decide +kernel
theorem dX8_goOn_153 : decode cX8_goOn 153 = .ok (.iadd, 1) := by decide +kernel
theorem dX8_goOn_154 : decode cX8_goOn 154 = .ok (.iload 4, 2) := by decide +kernel
theorem dX8_goOn_156 : decode cX8_goOn 156 = .ok (.iconst 1, 1) := by decide +kernel
theorem dX8_goOn_157 : decode cX8_goOn 157 = .ok (.iload 5, 2) := by decide +kernel
theorem dX8_goOn_159 : decode cX8_goOn 159 = .ok (.ishl, 1) := by decide +kernel
theorem dX8_goOn_160 : decode cX8_goOn 160 = .ok (.ior, 1) := by decide +kernel
theorem dX8_goOn_161 : decode cX8_goOn 161 = .ok (.invokevirtual 27, 3) := by decide +kernel
theorem dX8_goOn_164 : decode cX8_goOn 164 = .ok (.iinc 5 1, 3) := by decide +kernel
theorem dX8_goOn_167 : decode cX8_goOn 167 = .ok (.goto (-101), 3) := by decide +kernel
theorem dX8_goOn_170 : decode cX8_goOn 170 = .ok (.return_, 1) := by decide +kernel
theorem dX9_init_0 : decode cX9_init 0 = .ok (.aload_n 0, 1) := by decide +kernel
theorem dX9_init_1 : decode cX9_init 1 = .ok (.invokespecial 3, 3) := by decide +kernel
theorem dX9_init_4 : decode cX9_init 4 = .ok (.aload_n 0, 1) := by decide +kernel
theorem dX9_init_5 : decode cX9_init 5 = .ok (.bipush 80, 2) := by decide +kernel
theorem dX9_init_7 : decode cX9_init 7 = .ok (.newarray .int, 2) := by decide +kernel
theorem dX9_init_9 : decode cX9_init 9 = .ok (.putfield 9, 3) := by decide +kernel
theorem dX9_init_12 : decode cX9_init 12 = .ok (.return_, 1) := by decide +kernel
theorem dX9_append_0 : decode cX9_append 0 = .ok (.aload_n 0, 1) := by decide +kernel
theorem dX9_append_1 : decode cX9_append 1 = .ok (.getfield 15, 3) := by decide +kernel
theorem dX9_append_4 : decode cX9_append 4 = .ok (.iconst 4, 1) := by decide +kernel
theorem dX9_append_5 : decode cX9_append 5 = .ok (.iadd, 1) := by decide +kernel
theorem dX9_append_6 : decode cX9_append 6 = .ok (.bipush 80, 2) := by decide +kernel
theorem dX9_append_8 : decode cX9_append 8 = .ok (.if_icmp .le 5, 3) := by decide +kernel
theorem dX9_append_11 : decode cX9_append 11 = .ok (.iconst 0, 1) := by decide +kernel
theorem dX9_append_12 : decode cX9_append 12 = .ok (.ireturn, 1) := by decide +kernel
theorem dX9_append_13 : decode cX9_append 13 = .ok (.bipush 24, 2) := by decide +kernel
theorem dX9_append_15 : decode cX9_append 15 = .ok (.istore_n 2, 1) := by decide +kernel
theorem dX9_append_16 : decode cX9_append 16 = .ok (.iload_n 2, 1) := by decide +kernel
theorem dX9_append_17 : decode cX9_append 17 = .ok (.ifCond .lt 35, 3) := by decide +kernel
theorem dX9_append_20 : decode cX9_append 20 = .ok (.aload_n 0, 1) := by decide +kernel
theorem dX9_append_21 : decode cX9_append 21 = .ok (.getfield 9, 3) := by decide +kernel
theorem dX9_append_24 : decode cX9_append 24 = .ok (.aload_n 0, 1) := by decide +kernel
theorem dX9_append_25 : decode cX9_append 25 = .ok (.getfield 15, 3) := by decide +kernel
theorem dX9_append_28 : decode cX9_append 28 = .ok (.iload_n 1, 1) := by decide +kernel
theorem dX9_append_29 : decode cX9_append 29 = .ok (.iload_n 2, 1) := by decide +kernel
theorem dX9_append_30 : decode cX9_append 30 = .ok (.iushr, 1) := by decide +kernel
theorem dX9_append_31 : decode cX9_append 31 = .ok (.sipush 255, 3) := by decide +kernel
theorem dX9_append_34 : decode cX9_append 34 = .ok (.iand, 1) := by decide +kernel
theorem dX9_append_35 : decode cX9_append 35 = .ok (.iastore, 1) := by decide +kernel
theorem dX9_append_36 : decode cX9_append 36 = .ok (.aload_n 0, 1) := by decide +kernel
theorem dX9_append_37 : decode cX9_append 37 = .ok (.dup, 1) := by decide +kernel
theorem dX9_append_38 : decode cX9_append 38 = .ok (.getfield 15, 3) := by decide +kernel
theorem dX9_append_41 : decode cX9_append 41 = .ok (.iconst 1, 1) := by decide +kernel
theorem dX9_append_42 : decode cX9_append 42 = .ok (.iadd, 1) := by decide +kernel
theorem dX9_append_43 : decode cX9_append 43 = .ok (.putfield 15, 3) := by decide +kernel
theorem dX9_append_46 : decode cX9_append 46 = .ok (.iinc 2 (-8), 3) := by decide +kernel
theorem dX9_append_49 : decode cX9_append 49 = .ok (.goto (-33), 3) := by decide +kernel
theorem dX9_append_52 : decode cX9_append 52 = .ok (.iconst 1, 1) := by decide +kernel
theorem dX9_append_53 : decode cX9_append 53 = .ok (.ireturn, 1) := by decide +kernel
theorem dX9_cutTo_0 : decode cX9_cutTo 0 = .ok (.iload_n 1, 1) := by decide +kernel
theorem dX9_cutTo_1 : decode cX9_cutTo 1 = .ok (.ifCond .lt 11, 3) := by decide +kernel
theorem dX9_cutTo_4 : decode cX9_cutTo 4 = .ok (.iload_n 1, 1) := by decide +kernel
theorem dX9_cutTo_5 : decode cX9_cutTo 5 = .ok (.aload_n 0, 1) := by decide +kernel
theorem dX9_cutTo_6 : decode cX9_cutTo 6 = .ok (.getfield 15, 3) := by decide +kernel
theorem dX9_cutTo_9 : decode cX9_cutTo 9 = .ok (.if_icmp .le 5, 3) := by decide +kernel
theorem dX9_cutTo_12 : decode cX9_cutTo 12 = .ok (.iconst 0, 1) := by decide +kernel
theorem dX9_cutTo_13 : decode cX9_cutTo 13 = .ok (.ireturn, 1) := by decide +kernel
theorem dX9_cutTo_14 : decode cX9_cutTo 14 = .ok (.aload_n 0, 1) := by decide +kernel
theorem dX9_cutTo_15 : decode cX9_cutTo 15 = .ok (.iload_n 1, 1) := by decide +kernel
theorem dX9_cutTo_16 : decode cX9_cutTo 16 = .ok (.putfield 15, 3) := by decide +kernel
theorem dX9_cutTo_19 : decode cX9_cutTo 19 = .ok (.iconst 1, 1) := by decide +kernel
theorem dX9_cutTo_20 : decode cX9_cutTo 20 = .ok (.ireturn, 1) := by decide +kernel
theorem dX9_empty_0 : decode cX9_empty 0 = .ok (.aload_n 0, 1) := by decide +kernel
theorem dX9_empty_1 : decode cX9_empty 1 = .ok (.iconst 0, 1) := by decide +kernel
theorem dX9_empty_2 : decode cX9_empty 2 = .ok (.putfield 15, 3) := by decide +kernel
theorem dX9_empty_5 : decode cX9_empty 5 = .ok (.return_, 1) := by decide +kernel
theorem dX9_signAt_0 : decode cX9_signAt 0 = .ok (.iload_n 1, 1) := by decide +kernel
theorem dX9_signAt_1 : decode cX9_signAt 1 = .ok (.ifCond .lt 26, 3) := by decide +kernel
theorem dX9_signAt_4 : decode cX9_signAt 4 = .ok (.iload_n 1, 1) := by decide +kernel
theorem dX9_signAt_5 : decode cX9_signAt 5 = .ok (.aload_n 0, 1) := by decide +kernel
theorem dX9_signAt_6 : decode cX9_signAt 6 = .ok (.getfield 15, 3) := by decide +kernel
theorem dX9_signAt_9 : decode cX9_signAt 9 = .ok (.if_icmp .ge 18, 3) := by decide +kernel
theorem dX9_signAt_12 : decode cX9_signAt 12 = .ok (.iload_n 1, 1) := by decide +kernel
theorem dX9_signAt_13 : decode cX9_signAt 13 = .ok (.bipush 80, 2) := by decide +kernel
theorem dX9_signAt_15 : decode cX9_signAt 15 = .ok (.if_icmp .ge 12, 3) := by decide +kernel
theorem dX9_signAt_18 : decode cX9_signAt 18 = .ok (.aload_n 0, 1) := by decide +kernel
theorem dX9_signAt_19 : decode cX9_signAt 19 = .ok (.getfield 9, 3) := by decide +kernel
theorem dX9_signAt_22 : decode cX9_signAt 22 = .ok (.iload_n 1, 1) := by decide +kernel
theorem dX9_signAt_23 : decode cX9_signAt 23 = .ok (.iaload, 1) := by decide +kernel
theorem dX9_signAt_24 : decode cX9_signAt 24 = .ok (.goto 4, 3) := by decide +kernel
theorem dX9_signAt_27 : decode cX9_signAt 27 = .ok (.iconst (-1), 1) := by decide +kernel
theorem dX9_signAt_28 : decode cX9_signAt 28 = .ok (.ireturn, 1) := by decide +kernel
theorem dX9_digitAt_0 : decode cX9_digitAt 0 = .ok (.aload_n 0, 1) := by decide +kernel
theorem dX9_digitAt_1 : decode cX9_digitAt 1 = .ok (.iload_n 1, 1) := by decide +kernel
theorem dX9_digitAt_2 : decode cX9_digitAt 2 = .ok (.invokevirtual 19, 3) := by decide +kernel
theorem dX9_digitAt_5 : decode cX9_digitAt 5 = .ok (.istore_n 2, 1) := by decide +kernel
theorem dX9_digitAt_6 : decode cX9_digitAt 6 = .ok (.iload_n 2, 1) := by decide +kernel
theorem dX9_digitAt_7 : decode cX9_digitAt 7 = .ok (.bipush 48, 2) := by decide +kernel
theorem dX9_digitAt_9 : decode cX9_digitAt 9 = .ok (.if_icmp .lt 16, 3) := by decide +kernel
theorem dX9_digitAt_12 : decode cX9_digitAt 12 = .ok (.iload_n 2, 1) := by decide +kernel
theorem dX9_digitAt_13 : decode cX9_digitAt 13 = .ok (.bipush 57, 2) := by decide +kernel
theorem dX9_digitAt_15 : decode cX9_digitAt 15 = .ok (.if_icmp .gt 10, 3) := by decide +kernel
theorem dX9_digitAt_18 : decode cX9_digitAt 18 = .ok (.iload_n 2, 1) := by decide +kernel
theorem dX9_digitAt_19 : decode cX9_digitAt 19 = .ok (.bipush 48, 2) := by decide +kernel
theorem dX9_digitAt_21 : decode cX9_digitAt 21 = .ok (.isub, 1) := by decide +kernel
theorem dX9_digitAt_22 : decode cX9_digitAt 22 = .ok (.goto 4, 3) := by decide +kernel
theorem dX9_digitAt_25 : decode cX9_digitAt 25 = .ok (.iconst (-1), 1) := by decide +kernel
theorem dX9_digitAt_26 : decode cX9_digitAt 26 = .ok (.ireturn, 1) := by decide +kernel
theorem dX9_letterAt_0 : decode cX9_letterAt 0 = .ok (.aload_n 0, 1) := by decide +kernel
theorem dX9_letterAt_1 : decode cX9_letterAt 1 = .ok (.iload_n 1, 1) := by decide +kernel
theorem dX9_letterAt_2 : decode cX9_letterAt 2 = .ok (.invokevirtual 19, 3) := by decide +kernel
theorem dX9_letterAt_5 : decode cX9_letterAt 5 = .ok (.istore_n 3, 1) := by decide +kernel
theorem dX9_letterAt_6 : decode cX9_letterAt 6 = .ok (.iload_n 3, 1) := by decide +kernel
theorem dX9_letterAt_7 : decode cX9_letterAt 7 = .ok (.bipush 97, 2) := by decide +kernel
theorem dX9_letterAt_9 : decode cX9_letterAt 9 = .ok (.if_icmp .lt 18, 3) := by decide +kernel
theorem dX9_letterAt_12 : decode cX9_letterAt 12 = .ok (.iload_n 3, 1) := by decide +kernel
theorem dX9_letterAt_13 : decode cX9_letterAt 13 = .ok (.bipush 97, 2) := by decide +kernel
theorem dX9_letterAt_15 : decode cX9_letterAt 15 = .ok (.iload_n 2, 1) := by decide +kernel
theorem dX9_letterAt_16 : decode cX9_letterAt 16 = .ok (.iadd, 1) := by decide +kernel
theorem dX9_letterAt_17 : decode cX9_letterAt 17 = .ok (.if_icmp .ge 10, 3) := by decide +kernel
theorem dX9_letterAt_20 : decode cX9_letterAt 20 = .ok (.iload_n 3, 1) := by decide +kernel
theorem dX9_letterAt_21 : decode cX9_letterAt 21 = .ok (.bipush 97, 2) := by decide +kernel
theorem dX9_letterAt_23 : decode cX9_letterAt 23 = .ok (.isub, 1) := by decide +kernel
theorem dX9_letterAt_24 : decode cX9_letterAt 24 = .ok (.goto 4, 3) := by decide +kernel
theorem dX9_letterAt_27 : decode cX9_letterAt 27 = .ok (.iconst (-1), 1) := by decide +kernel
theorem dX9_letterAt_28 : decode cX9_letterAt 28 = .ok (.ireturn, 1) := by decide +kernel
theorem dX9_numberAt_0 : decode cX9_numberAt 0 = .ok (.iconst 0, 1) := by decide +kernel
theorem dX9_numberAt_1 : decode cX9_numberAt 1 = .ok (.istore_n 3, 1) := by decide +kernel
theorem dX9_numberAt_2 : decode cX9_numberAt 2 = .ok (.iload_n 1, 1) := by decide +kernel
theorem dX9_numberAt_3 : decode cX9_numberAt 3 = .ok (.istore 4, 2) := by decide +kernel
theorem dX9_numberAt_5 : decode cX9_numberAt 5 = .ok (.iload 4, 2) := by decide +kernel
theorem dX9_numberAt_7 : decode cX9_numberAt 7 = .ok (.iload_n 1, 1) := by decide +kernel
theorem dX9_numberAt_8 : decode cX9_numberAt 8 = .ok (.iload_n 2, 1) := by decide +kernel
theorem dX9_numberAt_9 : decode cX9_numberAt 9 = .ok (.iadd, 1) := by decide +kernel
theorem dX9_numberAt_10 : decode cX9_numberAt 10 = .ok (.if_icmp .ge 35, 3) := by decide +kernel
theorem dX9_numberAt_13 : decode cX9_numberAt 13 = .ok (.aload_n 0, 1) := by decide +kernel
theorem dX9_numberAt_14 : decode cX9_numberAt 14 = .ok (.iload 4, 2) := by decide +kernel
theorem dX9_numberAt_16 : decode cX9_numberAt 16 = .ok (.invokevirtual 23, 3) := by decide +kernel
theorem dX9_numberAt_19 : decode cX9_numberAt 19 = .ok (.istore 5, 2) := by decide +kernel
theorem dX9_numberAt_21 : decode cX9_numberAt 21 = .ok (.iload 5, 2) := by decide +kernel
theorem dX9_numberAt_23 : decode cX9_numberAt 23 = .ok (.ifCond .ge 8, 3) := by decide +kernel
theorem dX9_numberAt_26 : decode cX9_numberAt 26 = .ok (.iconst (-1), 1) := by decide +kernel
theorem dX9_numberAt_27 : decode cX9_numberAt 27 = .ok (.iload 4, 2) := by decide +kernel
theorem dX9_numberAt_29 : decode cX9_numberAt 29 = .ok (.isub, 1) := by decide +kernel
theorem dX9_numberAt_30 : decode cX9_numberAt 30 = .ok (.ireturn, 1) := by decide +kernel
theorem dX9_numberAt_31 : decode cX9_numberAt 31 = .ok (.bipush 10, 2) := by decide +kernel
theorem dX9_numberAt_33 : decode cX9_numberAt 33 = .ok (.iload_n 3, 1) := by decide +kernel
theorem dX9_numberAt_34 : decode cX9_numberAt 34 = .ok (.imul, 1) := by decide +kernel
theorem dX9_numberAt_35 : decode cX9_numberAt 35 = .ok (.iload 5, 2) := by decide +kernel
theorem dX9_numberAt_37 : decode cX9_numberAt 37 = .ok (.iadd, 1) := by decide +kernel
theorem dX9_numberAt_38 : decode cX9_numberAt 38 = .ok (.istore_n 3, 1) := by decide +kernel
theorem dX9_numberAt_39 : decode cX9_numberAt 39 = .ok (.iinc 4 1, 3) := by decide +kernel
theorem dX9_numberAt_42 : decode cX9_numberAt 42 = .ok (.goto (-37), 3) := by decide +kernel
theorem dX9_numberAt_45 : decode cX9_numberAt 45 = .ok (.iload_n 3, 1) := by decide +kernel
theorem dX9_numberAt_46 : decode cX9_numberAt 46 = .ok (.ireturn, 1) := by decide +kernel
theorem dX9_readClub_0 : decode cX9_readClub 0 = .ok (.aload_n 0, 1) := by decide +kernel
theorem dX9_readClub_1 : decode cX9_readClub 1 = .ok (.iconst 0, 1) := by decide +kernel
theorem dX9_readClub_2 : decode cX9_readClub 2 = .ok (.invokevirtual 23, 3) := by decide +kernel
theorem dX9_readClub_5 : decode cX9_readClub 5 = .ok (.istore_n 2, 1) := by decide +kernel
theorem dX9_readClub_6 : decode cX9_readClub 6 = .ok (.iload_n 2, 1) := by decide +kernel
theorem dX9_readClub_7 : decode cX9_readClub 7 = .ok (.iconst 2, 1) := by decide +kernel
theorem dX9_readClub_8 : decode cX9_readClub 8 = .ok (.if_icmp .lt 9, 3) := by decide +kernel
theorem dX9_readClub_11 : decode cX9_readClub 11 = .ok (.iload_n 2, 1) := by decide +kernel
theorem dX9_readClub_12 : decode cX9_readClub 12 = .ok (.bipush 8, 2) := by decide +kernel
theorem dX9_readClub_14 : decode cX9_readClub 14 = .ok (.if_icmp .le 5, 3) := by decide +kernel
theorem dX9_readClub_17 : decode cX9_readClub 17 = .ok (.iconst (-1), 1) := by decide +kernel
theorem dX9_readClub_18 : decode cX9_readClub 18 = .ok (.ireturn, 1) := by decide +kernel
theorem dX9_readClub_19 : decode cX9_readClub 19 = .ok (.aload_n 1, 1) := by decide +kernel
theorem dX9_readClub_20 : decode cX9_readClub 20 = .ok (.iload_n 2, 1) := by decide +kernel
theorem dX9_readClub_21 : decode cX9_readClub 21 = .ok (.invokevirtual 26, 3) := by decide +kernel
theorem dX9_readClub_24 : decode cX9_readClub 24 = .ok (.lconst 0, 1) := by decide +kernel
theorem dX9_readClub_25 : decode cX9_readClub 25 = .ok (.lstore_n 3, 1) := by decide +kernel
theorem dX9_readClub_26 : decode cX9_readClub 26 = .ok (.iconst 0, 1) := by decide +kernel
theorem dX9_readClub_27 : decode cX9_readClub 27 = .ok (.istore 5, 2) := by decide +kernel
theorem dX9_readClub_29 : decode cX9_readClub 29 = .ok (.iconst 1, 1) := by decide +kernel
theorem dX9_readClub_30 : decode cX9_readClub 30 = .ok (.istore 6, 2) := by decide +kernel
theorem dX9_readClub_32 : decode cX9_readClub 32 = .ok (.iload 6, 2) := by decide +kernel
theorem dX9_readClub_34 : decode cX9_readClub 34 = .ok (.aload_n 0, 1) := by decide +kernel
theorem dX9_readClub_35 : decode cX9_readClub 35 = .ok (.getfield 15, 3) := by decide +kernel
theorem dX9_readClub_38 : decode cX9_readClub 38 = .ok (.if_icmp .ge 122, 3) := by decide +kernel
theorem dX9_readClub_41 : decode cX9_readClub 41 = .ok (.aload_n 0, 1) := by decide +kernel
theorem dX9_readClub_42 : decode cX9_readClub 42 = .ok (.iload 6, 2) := by decide +kernel
theorem dX9_readClub_44 : decode cX9_readClub 44 = .ok (.iload_n 2, 1) := by decide +kernel
theorem dX9_readClub_45 : decode cX9_readClub 45 = .ok (.invokevirtual 32, 3) := by decide +kernel
theorem dX9_readClub_48 : decode cX9_readClub 48 = .ok (.istore 7, 2) := by decide +kernel
theorem dX9_readClub_50 : decode cX9_readClub 50 = .ok (.iload 7, 2) := by decide +kernel
theorem dX9_readClub_52 : decode cX9_readClub 52 = .ok (.ifCond .ge 8, 3) := by decide +kernel
theorem dX9_readClub_55 : decode cX9_readClub 55 = .ok (.iconst (-1), 1) := by decide +kernel
theorem dX9_readClub_56 : decode cX9_readClub 56 = .ok (.iload 6, 2) := by decide +kernel
theorem dX9_readClub_58 : decode cX9_readClub 58 = .ok (.isub, 1) := by decide +kernel
theorem dX9_readClub_59 : decode cX9_readClub 59 = .ok (.ireturn, 1) := by decide +kernel
theorem dX9_readClub_60 : decode cX9_readClub 60 = .ok (.aload_n 0, 1) := by decide +kernel
theorem dX9_readClub_61 : decode cX9_readClub 61 = .ok (.iload 6, 2) := by decide +kernel
theorem dX9_readClub_63 : decode cX9_readClub 63 = .ok (.iconst 1, 1) := by decide +kernel
theorem dX9_readClub_64 : decode cX9_readClub 64 = .ok (.iadd, 1) := by decide +kernel
theorem dX9_readClub_65 : decode cX9_readClub 65 = .ok (.iload_n 2, 1) := by decide +kernel
theorem dX9_readClub_66 : decode cX9_readClub 66 = .ok (.invokevirtual 32, 3) := by decide +kernel
theorem dX9_readClub_69 : decode cX9_readClub 69 = .ok (.istore 8, 2) := by decide +kernel
theorem dX9_readClub_71 : decode cX9_readClub 71 = .ok (.iload 8, 2) := by decide +kernel
theorem dX9_readClub_73 : decode cX9_readClub 73 = .ok (.ifCond .lt 26, 3) := by decide +kernel
theorem dX9_readClub_76 : decode cX9_readClub 76 = .ok (.iload 8, 2) := by decide +kernel
theorem dX9_readClub_78 : decode cX9_readClub 78 = .ok (.iload 7, 2) := by decide +kernel
theorem dX9_readClub_80 : decode cX9_readClub 80 = .ok (.if_icmp .eq 19, 3) := by decide +kernel
theorem dX9_readClub_83 : decode cX9_readClub 83 = .ok (.lload_n 3, 1) := by decide +kernel
theorem dX9_readClub_84 : decode cX9_readClub 84 = .ok (.iload 7, 2) := by decide +kernel
theorem dX9_readClub_86 : decode cX9_readClub 86 = .ok (.iload 8, 2) := by decide +kernel
theorem dX9_readClub_88 : decode cX9_readClub 88 = .ok (.invokestatic 36, 3) := by decide +kernel
theorem dX9_readClub_91 : decode cX9_readClub 91 = .ok (.lushr, 1) := by decide +kernel
theorem dX9_readClub_92 : decode cX9_readClub 92 = .ok (.lconst 1, 1) := by decide +kernel
theorem dX9_readClub_93 : decode cX9_readClub 93 = .ok (.land, 1) := by decide +kernel
theorem dX9_readClub_94 : decode cX9_readClub 94 = .ok (.lconst 1, 1) := by decide +kernel
theorem dX9_readClub_95 : decode cX9_readClub 95 = .ok (.lcmp, 1) := by decide +kernel
theorem dX9_readClub_96 : decode cX9_readClub 96 = .ok (.ifCond .ne 10, 3) := by decide +kernel
theorem dX9_readClub_99 : decode cX9_readClub 99 = .ok (.iconst (-1), 1) := by decide +kernel
theorem dX9_readClub_100 : decode cX9_readClub 100 = .ok (.iload 6, 2) := by decide +kernel
theorem dX9_readClub_102 : decode cX9_readClub 102 = .ok (.iconst 1, 1) := by decide +kernel
theorem dX9_readClub_103 : decode cX9_readClub 103 = .ok (.iadd, 1) := by decide +kernel
theorem dX9_readClub_104 : decode cX9_readClub 104 = .ok (.isub, 1) := by decide +kernel
theorem dX9_readClub_105 : decode cX9_readClub 105 = .ok (.ireturn, 1) := by decide +kernel
theorem dX9_readClub_106 : decode cX9_readClub 106 = .ok (.aload_n 0, 1) := by decide +kernel
theorem dX9_readClub_107 : decode cX9_readClub 107 = .ok (.iload 6, 2) := by decide +kernel
theorem dX9_readClub_109 : decode cX9_readClub 109 = .ok (.iconst 2, 1) := by decide +kernel
theorem dX9_readClub_110 : decode cX9_readClub 110 = .ok (.iadd, 1) := by decide +kernel
theorem dX9_readClub_111 : decode cX9_readClub 111 = .ok (.iconst 3, 1) := by decide +kernel
theorem dX9_readClub_112 : decode cX9_readClub 112 = .ok (.invokevirtual 39, 3) := by decide +kernel
theorem dX9_readClub_115 : decode cX9_readClub 115 = .ok (.istore 9, 2) := by decide +kernel
theorem dX9_readClub_117 : decode cX9_readClub 117 = .ok (.iload 9, 2) := by decide +kernel
theorem dX9_readClub_119 : decode cX9_readClub 119 = .ok (.ifCond .ge 6, 3) := by decide +kernel
theorem dX9_readClub_122 : decode cX9_readClub 122 = .ok (.iload 9, 2) := by decide +kernel
theorem dX9_readClub_124 : decode cX9_readClub 124 = .ok (.ireturn, 1) := by decide +kernel
theorem dX9_readClub_125 : decode cX9_readClub 125 = .ok (.aload_n 1, 1) := by decide +kernel
theorem dX9_readClub_126 : decode cX9_readClub 126 = .ok (.getfield 42, 3) := by decide +kernel
theorem dX9_readClub_129 : decode cX9_readClub 129 = .ok (.iload 7, 2) := by decide +kernel
theorem dX9_readClub_131 : decode cX9_readClub 131 = .ok (.iload 8, 2) := by decide +kernel
theorem dX9_readClub_133 : decode cX9_readClub 133 = .ok (.invokestatic 36, 3) := by decide +kernel
theorem dX9_readClub_136 : decode cX9_readClub 136 = .ok (.iload 9, 2) := by decide +kernel
theorem dX9_readClub_138 : decode cX9_readClub 138 = .ok (.iastore, 1) := by decide +kernel
theorem dX9_readClub_139 : decode cX9_readClub 139 = .ok (.lload_n 3, 1) := by decide +kernel
theorem dX9_readClub_140 : decode cX9_readClub 140 = .ok (.lconst 1, 1) := by decide +kernel
theorem dX9_readClub_141 : decode cX9_readClub 141 = .ok (.iload 7, 2) := by decide +kernel
theorem dX9_readClub_143 : decode cX9_readClub 143 = .ok (.iload 8, 2) := by decide +kernel
theorem dX9_readClub_145 : decode cX9_readClub 145 = .ok (.invokestatic 36, 3) := by decide +kernel
theorem dX9_readClub_148 : decode cX9_readClub 148 = .ok (.lshl, 1) := by decide +kernel
theorem dX9_readClub_149 : decode cX9_readClub 149 = .ok (.lor, 1) := by decide +kernel
theorem dX9_readClub_150 : decode cX9_readClub 150 = .ok (.lstore_n 3, 1) := by decide +kernel
theorem dX9_readClub_151 : decode cX9_readClub 151 = .ok (.iinc 5 1, 3) := by decide +kernel
theorem dX9_readClub_154 : decode cX9_readClub 154 = .ok (.iinc 6 5, 3) := by decide +kernel
theorem dX9_readClub_157 : decode cX9_readClub 157 = .ok (.goto (-125), 3) := by decide +kernel
theorem dX9_readClub_160 : decode cX9_readClub 160 = .ok (.iload 5, 2) := by decide +kernel
theorem dX9_readClub_162 : decode cX9_readClub 162 = .ok (.ireturn, 1) := by decide +kernel
theorem dX10_init_0 : decode cX10_init 0 = .ok (.aload_n 0, 1) := by decide +kernel
theorem dX10_init_1 : decode cX10_init 1 = .ok (.invokespecial 3, 3) := by decide +kernel
theorem dX10_init_4 : decode cX10_init 4 = .ok (.aload_n 0, 1) := by decide +kernel
theorem dX10_init_5 : decode cX10_init 5 = .ok (.new 9, 3) := by decide +kernel
theorem dX10_init_8 : decode cX10_init 8 = .ok (.dup, 1) := by decide +kernel
theorem dX10_init_9 : decode cX10_init 9 = .ok (.invokespecial 11, 3) := by decide +kernel
theorem dX10_init_12 : decode cX10_init 12 = .ok (.putfield 12, 3) := by decide +kernel
theorem dX10_init_15 : decode cX10_init 15 = .ok (.aload_n 0, 1) := by decide +kernel
theorem dX10_init_16 : decode cX10_init 16 = .ok (.new 9, 3) := by decide +kernel
theorem dX10_init_19 : decode cX10_init 19 = .ok (.dup, 1) := by decide +kernel
theorem dX10_init_20 : decode cX10_init 20 = .ok (.invokespecial 11, 3) := by decide +kernel
theorem dX10_init_23 : decode cX10_init 23 = .ok (.putfield 16, 3) := by decide +kernel
theorem dX10_init_26 : decode cX10_init 26 = .ok (.aload_n 0, 1) := by decide +kernel
theorem dX10_init_27 : decode cX10_init 27 = .ok (.new 9, 3) := by decide +kernel
theorem dX10_init_30 : decode cX10_init 30 = .ok (.dup, 1) := by decide +kernel
theorem dX10_init_31 : decode cX10_init 31 = .ok (.invokespecial 11, 3) := by decide +kernel
theorem dX10_init_34 : decode cX10_init 34 = .ok (.putfield 19, 3) := by decide +kernel
theorem dX10_init_37 : decode cX10_init 37 = .ok (.aload_n 0, 1) := by decide +kernel
theorem dX10_init_38 : decode cX10_init 38 = .ok (.iconst 2, 1) := by decide +kernel
theorem dX10_init_39 : decode cX10_init 39 = .ok (.anewarray 9, 3) := by decide +kernel
theorem dX10_init_42 : decode cX10_init 42 = .ok (.putfield 22, 3) := by decide +kernel
theorem dX10_init_45 : decode cX10_init 45 = .ok (.iconst 0, 1) := by decide +kernel
theorem dX10_init_46 : decode cX10_init 46 = .ok (.istore_n 1, 1) := by decide +kernel
theorem dX10_init_47 : decode cX10_init 47 = .ok (.iload_n 1, 1) := by decide +kernel
theorem dX10_init_48 : decode cX10_init 48 = .ok (.iconst 2, 1) := by decide +kernel
theorem dX10_init_49 : decode cX10_init 49 = .ok (.if_icmp .ge 22, 3) := by decide +kernel
theorem dX10_init_52 : decode cX10_init 52 = .ok (.aload_n 0, 1) := by decide +kernel
theorem dX10_init_53 : decode cX10_init 53 = .ok (.getfield 22, 3) := by decide +kernel
theorem dX10_init_56 : decode cX10_init 56 = .ok (.iload_n 1, 1) := by decide +kernel
theorem dX10_init_57 : decode cX10_init 57 = .ok (.new 9, 3) := by decide +kernel
theorem dX10_init_60 : decode cX10_init 60 = .ok (.dup, 1) := by decide +kernel
theorem dX10_init_61 : decode cX10_init 61 = .ok (.invokespecial 11, 3) := by decide +kernel
theorem dX10_init_64 : decode cX10_init 64 = .ok (.aastore, 1) := by decide +kernel
theorem dX10_init_65 : decode cX10_init 65 = .ok (.iinc 1 1, 3) := by decide +kernel
theorem dX10_init_68 : decode cX10_init 68 = .ok (.goto (-21), 3) := by decide +kernel
theorem dX10_init_71 : decode cX10_init 71 = .ok (.aload_n 0, 1) := by decide +kernel
theorem dX10_init_72 : decode cX10_init 72 = .ok (.iconst 2, 1) := by decide +kernel
theorem dX10_init_73 : decode cX10_init 73 = .ok (.newarray .boolean, 2) := by decide +kernel
theorem dX10_init_75 : decode cX10_init 75 = .ok (.putfield 26, 3) := by decide +kernel
theorem dX10_init_78 : decode cX10_init 78 = .ok (.aload_n 0, 1) := by decide +kernel
theorem dX10_init_79 : decode cX10_init 79 = .ok (.new 30, 3) := by decide +kernel
theorem dX10_init_82 : decode cX10_init 82 = .ok (.dup, 1) := by decide +kernel
theorem dX10_init_83 : decode cX10_init 83 = .ok (.invokespecial 32, 3) := by decide +kernel
theorem dX10_init_86 : decode cX10_init 86 = .ok (.putfield 33, 3) := by decide +kernel
theorem dX10_init_89 : decode cX10_init 89 = .ok (.aload_n 0, 1) := by decide +kernel
theorem dX10_init_90 : decode cX10_init 90 = .ok (.new 37, 3) := by decide +kernel
theorem dX10_init_93 : decode cX10_init 93 = .ok (.dup, 1) := by decide +kernel
theorem dX10_init_94 : decode cX10_init 94 = .ok (.invokespecial 39, 3) := by decide +kernel
theorem dX10_init_97 : decode cX10_init 97 = .ok (.putfield 40, 3) := by decide +kernel
theorem dX10_init_100 : decode cX10_init 100 = .ok (.aload_n 0, 1) := by decide +kernel
theorem dX10_init_101 : decode cX10_init 101 = .ok (.new 44, 3) := by decide +kernel
theorem dX10_init_104 : decode cX10_init 104 = .ok (.dup, 1) := by decide +kernel
theorem dX10_init_105 : decode cX10_init 105 = .ok (.invokespecial 46, 3) := by decide +kernel
theorem dX10_init_108 : decode cX10_init 108 = .ok (.putfield 47, 3) := by decide +kernel
theorem dX10_init_111 : decode cX10_init 111 = .ok (.aload_n 0, 1) := by decide +kernel
theorem dX10_init_112 : decode cX10_init 112 = .ok (.new 51, 3) := by decide +kernel
theorem dX10_init_115 : decode cX10_init 115 = .ok (.dup, 1) := by decide +kernel
theorem dX10_init_116 : decode cX10_init 116 = .ok (.invokespecial 53, 3) := by decide +kernel
theorem dX10_init_119 : decode cX10_init 119 = .ok (.putfield 54, 3) := by decide +kernel
theorem dX10_init_122 : decode cX10_init 122 = .ok (.aload_n 0, 1) := by decide +kernel
theorem dX10_init_123 : decode cX10_init 123 = .ok (.new 58, 3) := by decide +kernel
theorem dX10_init_126 : decode cX10_init 126 = .ok (.dup, 1) := by decide +kernel
theorem dX10_init_127 : decode cX10_init 127 = .ok (.invokespecial 60, 3) := by decide +kernel
theorem dX10_init_130 : decode cX10_init 130 = .ok (.putfield 61, 3) := by decide +kernel
theorem dX10_init_133 : decode cX10_init 133 = .ok (.aload_n 0, 1) := by decide +kernel
theorem dX10_init_134 : decode cX10_init 134 = .ok (.new 65, 3) := by decide +kernel
theorem dX10_init_137 : decode cX10_init 137 = .ok (.dup, 1) := by decide +kernel
theorem dX10_init_138 : decode cX10_init 138 = .ok (.invokespecial 67, 3) := by decide +kernel
theorem dX10_init_141 : decode cX10_init 141 = .ok (.putfield 68, 3) := by decide +kernel
theorem dX10_init_144 : decode cX10_init 144 = .ok (.aload_n 0, 1) := by decide +kernel
theorem dX10_init_145 : decode cX10_init 145 = .ok (.new 72, 3) := by decide +kernel
theorem dX10_init_148 : decode cX10_init 148 = .ok (.dup, 1) := by decide +kernel
theorem dX10_init_149 : decode cX10_init 149 = .ok (.invokespecial 74, 3) := by decide +kernel
theorem dX10_init_152 : decode cX10_init 152 = .ok (.putfield 75, 3) := by decide +kernel
theorem dX10_init_155 : decode cX10_init 155 = .ok (.aload_n 0, 1) := by decide +kernel
theorem dX10_init_156 : decode cX10_init 156 = .ok (.new 79, 3) := by decide +kernel
theorem dX10_init_159 : decode cX10_init 159 = .ok (.dup, 1) := by decide +kernel
theorem dX10_init_160 : decode cX10_init 160 = .ok (.invokespecial 81, 3) := by decide +kernel
theorem dX10_init_163 : decode cX10_init 163 = .ok (.putfield 82, 3) := by decide +kernel
theorem dX10_init_166 : decode cX10_init 166 = .ok (.return_, 1) := by decide +kernel
theorem dX10_sign_0 : decode cX10_sign 0 = .ok (.aload_n 0, 1) := by decide +kernel
theorem dX10_sign_1 : decode cX10_sign 1 = .ok (.getfield 40, 3) := by decide +kernel
theorem dX10_sign_4 : decode cX10_sign 4 = .ok (.iload_n 1, 1) := by decide +kernel
theorem dX10_sign_5 : decode cX10_sign 5 = .ok (.invokevirtual 86, 3) := by decide +kernel
theorem dX10_sign_8 : decode cX10_sign 8 = .ok (.ifCond .eq 13, 3) := by decide +kernel
theorem dX10_sign_11 : decode cX10_sign 11 = .ok (.aload_n 0, 1) := by decide +kernel
theorem dX10_sign_12 : decode cX10_sign 12 = .ok (.getfield 40, 3) := by decide +kernel
theorem dX10_sign_15 : decode cX10_sign 15 = .ok (.getfield 90, 3) := by decide +kernel
theorem dX10_sign_18 : decode cX10_sign 18 = .ok (.goto 4, 3) := by decide +kernel
theorem dX10_sign_21 : decode cX10_sign 21 = .ok (.iconst (-1), 1) := by decide +kernel
theorem dX10_sign_22 : decode cX10_sign 22 = .ok (.ireturn, 1) := by decide +kernel
theorem dX10_end_0 : decode cX10_end 0 = .ok (.aload_n 0, 1) := by decide +kernel
theorem dX10_end_1 : decode cX10_end 1 = .ok (.getfield 40, 3) := by decide +kernel
theorem dX10_end_4 : decode cX10_end 4 = .ok (.iload_n 1, 1) := by decide +kernel
theorem dX10_end_5 : decode cX10_end 5 = .ok (.invokevirtual 94, 3) := by decide +kernel
theorem dX10_end_8 : decode cX10_end 8 = .ok (.ireturn, 1) := by decide +kernel
theorem dX10_club_0 : decode cX10_club 0 = .ok (.aload_n 0, 1) := by decide +kernel
theorem dX10_club_1 : decode cX10_club 1 = .ok (.getfield 40, 3) := by decide +kernel
theorem dX10_club_4 : decode cX10_club 4 = .ok (.aload_n 0, 1) := by decide +kernel
theorem dX10_club_5 : decode cX10_club 5 = .ok (.getfield 19, 3) := by decide +kernel
theorem dX10_club_8 : decode cX10_club 8 = .ok (.invokevirtual 97, 3) := by decide +kernel
theorem dX10_club_11 : decode cX10_club 11 = .ok (.istore_n 1, 1) := by decide +kernel
theorem dX10_club_12 : decode cX10_club 12 = .ok (.aload_n 0, 1) := by decide +kernel
theorem dX10_club_13 : decode cX10_club 13 = .ok (.getfield 40, 3) := by decide +kernel
theorem dX10_club_16 : decode cX10_club 16 = .ok (.invokevirtual 101, 3) := by decide +kernel
theorem dX10_club_19 : decode cX10_club 19 = .ok (.iload_n 1, 1) := by decide +kernel
theorem dX10_club_20 : decode cX10_club 20 = .ok (.ifCond .ge 5, 3) := by decide +kernel
theorem dX10_club_23 : decode cX10_club 23 = .ok (.iload_n 1, 1) := by decide +kernel
theorem dX10_club_24 : decode cX10_club 24 = .ok (.ireturn, 1) := by decide +kernel
theorem dX10_club_25 : decode cX10_club 25 = .ok (.aload_n 0, 1) := by decide +kernel
theorem dX10_club_26 : decode cX10_club 26 = .ok (.getfield 33, 3) := by decide +kernel
theorem dX10_club_29 : decode cX10_club 29 = .ok (.aload_n 0, 1) := by decide +kernel
theorem dX10_club_30 : decode cX10_club 30 = .ok (.getfield 12, 3) := by decide +kernel
theorem dX10_club_33 : decode cX10_club 33 = .ok (.invokevirtual 104, 3) := by decide +kernel
theorem dX10_club_36 : decode cX10_club 36 = .ok (.aload_n 0, 1) := by decide +kernel
theorem dX10_club_37 : decode cX10_club 37 = .ok (.getfield 12, 3) := by decide +kernel
theorem dX10_club_40 : decode cX10_club 40 = .ok (.aload_n 0, 1) := by decide +kernel
theorem dX10_club_41 : decode cX10_club 41 = .ok (.getfield 19, 3) := by decide +kernel
theorem dX10_club_44 : decode cX10_club 44 = .ok (.invokevirtual 108, 3) := by decide +kernel
theorem dX10_club_47 : decode cX10_club 47 = .ok (.iload_n 1, 1) := by decide +kernel
theorem dX10_club_48 : decode cX10_club 48 = .ok (.ireturn, 1) := by decide +kernel
theorem dX10_sheet_0 : decode cX10_sheet 0 = .ok (.aload_n 0, 1) := by decide +kernel
theorem dX10_sheet_1 : decode cX10_sheet 1 = .ok (.getfield 12, 3) := by decide +kernel
theorem dX10_sheet_4 : decode cX10_sheet 4 = .ok (.iload_n 1, 1) := by decide +kernel
theorem dX10_sheet_5 : decode cX10_sheet 5 = .ok (.invokevirtual 111, 3) := by decide +kernel
theorem dX10_sheet_8 : decode cX10_sheet 8 = .ok (.ifCond .eq 18, 3) := by decide +kernel
theorem dX10_sheet_11 : decode cX10_sheet 11 = .ok (.iload_n 2, 1) := by decide +kernel
theorem dX10_sheet_12 : decode cX10_sheet 12 = .ok (.ifCond .lt 14, 3) := by decide +kernel
theorem dX10_sheet_15 : decode cX10_sheet 15 = .ok (.iload_n 2, 1) := by decide +kernel
theorem dX10_sheet_16 : decode cX10_sheet 16 = .ok (.iconst 3, 1) := by decide +kernel
theorem dX10_sheet_17 : decode cX10_sheet 17 = .ok (.if_icmp .gt 9, 3) := by decide +kernel
theorem dX10_sheet_20 : decode cX10_sheet 20 = .ok (.iload_n 3, 1) := by decide +kernel
theorem dX10_sheet_21 : decode cX10_sheet 21 = .ok (.bipush 20, 2) := by decide +kernel
theorem dX10_sheet_23 : decode cX10_sheet 23 = .ok (.if_icmp .le 5, 3) := by decide +kernel
theorem dX10_sheet_26 : decode cX10_sheet 26 = .ok (.iconst (-1), 1) := by decide +kernel
theorem dX10_sheet_27 : decode cX10_sheet 27 = .ok (.ireturn, 1) := by decide +kernel
theorem dX10_sheet_28 : decode cX10_sheet 28 = .ok (.aload_n 0, 1) := by decide +kernel
theorem dX10_sheet_29 : decode cX10_sheet 29 = .ok (.getfield 12, 3) := by decide +kernel
theorem dX10_sheet_32 : decode cX10_sheet 32 = .ok (.invokevirtual 114, 3) := by decide +kernel
theorem dX10_sheet_35 : decode cX10_sheet 35 = .ok (.ifCond .eq 6, 3) := by decide +kernel
theorem dX10_sheet_38 : decode cX10_sheet 38 = .ok (.bipush (-5), 2) := by decide +kernel
theorem dX10_sheet_40 : decode cX10_sheet 40 = .ok (.ireturn, 1) := by decide +kernel
theorem dX10_sheet_41 : decode cX10_sheet 41 = .ok (.iload_n 2, 1) := by decide +kernel
theorem dX10_sheet_42 : decode cX10_sheet 42 = .ok (.iconst 3, 1) := by decide +kernel
theorem dX10_sheet_43 : decode cX10_sheet 43 = .ok (.if_icmp .ne 6, 3) := by decide +kernel
theorem dX10_sheet_46 : decode cX10_sheet 46 = .ok (.bipush (-3), 2) := by decide +kernel
theorem dX10_sheet_48 : decode cX10_sheet 48 = .ok (.ireturn, 1) := by decide +kernel
theorem dX10_sheet_49 : decode cX10_sheet 49 = .ok (.iload_n 3, 1) := by decide +kernel
theorem dX10_sheet_50 : decode cX10_sheet 50 = .ok (.ifCond .ge 6, 3) := by decide +kernel
theorem dX10_sheet_53 : decode cX10_sheet 53 = .ok (.bipush (-2), 2) := by decide +kernel
theorem dX10_sheet_55 : decode cX10_sheet 55 = .ok (.ireturn, 1) := by decide +kernel
theorem dX10_sheet_56 : decode cX10_sheet 56 = .ok (.iconst 0, 1) := by decide +kernel
theorem dX10_sheet_57 : decode cX10_sheet 57 = .ok (.istore 6, 2) := by decide +kernel
theorem dX10_sheet_59 : decode cX10_sheet 59 = .ok (.iload 6, 2) := by decide +kernel
theorem dX10_sheet_61 : decode cX10_sheet 61 = .ok (.iload_n 3, 1) := by decide +kernel
theorem dX10_sheet_62 : decode cX10_sheet 62 = .ok (.if_icmp .ge 51, 3) := by decide +kernel
theorem dX10_sheet_65 : decode cX10_sheet 65 = .ok (.aload_n 0, 1) := by decide +kernel
theorem dX10_sheet_66 : decode cX10_sheet 66 = .ok (.iload_n 1, 1) := by decide +kernel
theorem dX10_sheet_67 : decode cX10_sheet 67 = .ok (.iload 6, 2) := by decide +kernel
theorem dX10_sheet_69 : decode cX10_sheet 69 = .ok (.iload_n 2, 1) := by decide +kernel
theorem dX10_sheet_70 : decode cX10_sheet 70 = .ok (.iload 4, 2) := by decide +kernel
theorem dX10_sheet_72 : decode cX10_sheet 72 = .ok (.iload 6, 2) := by decide +kernel
theorem dX10_sheet_74 : decode cX10_sheet 74 = .ok (.iload 5, 2) := by decide +kernel
theorem dX10_sheet_76 : decode cX10_sheet 76 = .ok (.imul, 1) := by decide +kernel
