theorem dX4_complain_12 : decode cX4_complain 12 = .ok (.aload_n 0, 1) := by decide +kernel
theorem dX4_complain_13 : decode cX4_complain 13 = .ok (.aload_n 0, 1) := by decide +kernel
theorem dX4_complain_14 : decode cX4_complain 14 = .ok (.getfield 21, 3) := by decide +kernel
theorem dX4_complain_17 : decode cX4_complain 17 = .ok (.getfield 48, 3) := by decide +kernel
theorem dX4_complain_20 : decode cX4_complain 20 = .ok (.aload_n 0, 1) := by decide +kernel
theorem dX4_complain_21 : decode cX4_complain 21 = .ok (.getfield 38, 3) := by decide +kernel
theorem dX4_complain_24 : decode cX4_complain 24 = .ok (.iaload, 1) := by decide +kernel
theorem dX4_complain_25 : decode cX4_complain 25 = .ok (.putfield 15, 3) := by decide +kernel
theorem dX4_complain_28 : decode cX4_complain 28 = .ok (.aload_n 0, 1) := by decide +kernel
theorem dX4_complain_29 : decode cX4_complain 29 = .ok (.bipush 39, 2) := by decide +kernel
theorem dX4_complain_31 : decode cX4_complain 31 = .ok (.putfield 45, 3) := by decide +kernel
theorem dX4_complain_34 : decode cX4_complain 34 = .ok (.return_, 1) := by decide +kernel
theorem dX4_advance_0 : decode cX4_advance 0 = .ok (.aload_n 0, 1) := by decide +kernel
theorem dX4_advance_1 : decode cX4_advance 1 = .ok (.getfield 9, 3) := by decide +kernel
theorem dX4_advance_4 : decode cX4_advance 4 = .ok (.ifCond .ne 55, 3) := by decide +kernel
theorem dX4_advance_7 : decode cX4_advance 7 = .ok (.aload_n 0, 1) := by decide +kernel
theorem dX4_advance_8 : decode cX4_advance 8 = .ok (.getfield 45, 3) := by decide +kernel
theorem dX4_advance_11 : decode cX4_advance 11 = .ok (.bipush 39, 2) := by decide +kernel
theorem dX4_advance_13 : decode cX4_advance 13 = .ok (.if_icmp .eq 46, 3) := by decide +kernel
theorem dX4_advance_16 : decode cX4_advance 16 = .ok (.aload_n 0, 1) := by decide +kernel
theorem dX4_advance_17 : decode cX4_advance 17 = .ok (.getfield 38, 3) := by decide +kernel
theorem dX4_advance_20 : decode cX4_advance 20 = .ok (.iconst 1, 1) := by decide +kernel
theorem dX4_advance_21 : decode cX4_advance 21 = .ok (.iadd, 1) := by decide +kernel
theorem dX4_advance_22 : decode cX4_advance 22 = .ok (.aload_n 0, 1) := by decide +kernel
theorem dX4_advance_23 : decode cX4_advance 23 = .ok (.getfield 21, 3) := by decide +kernel
theorem dX4_advance_26 : decode cX4_advance 26 = .ok (.getfield 41, 3) := by decide +kernel
theorem dX4_advance_29 : decode cX4_advance 29 = .ok (.arraylength, 1) := by decide +kernel
theorem dX4_advance_30 : decode cX4_advance 30 = .ok (.if_icmp .ge 29, 3) := by decide +kernel
theorem dX4_advance_33 : decode cX4_advance 33 = .ok (.aload_n 0, 1) := by decide +kernel
theorem dX4_advance_34 : decode cX4_advance 34 = .ok (.dup, 1) := by decide +kernel
theorem dX4_advance_35 : decode cX4_advance 35 = .ok (.getfield 38, 3) := by decide +kernel
theorem dX4_advance_38 : decode cX4_advance 38 = .ok (.iconst 1, 1) := by decide +kernel
theorem dX4_advance_39 : decode cX4_advance 39 = .ok (.iadd, 1) := by decide +kernel
theorem dX4_advance_40 : decode cX4_advance 40 = .ok (.putfield 38, 3) := by decide +kernel
theorem dX4_advance_43 : decode cX4_advance 43 = .ok (.aload_n 0, 1) := by decide +kernel
theorem dX4_advance_44 : decode cX4_advance 44 = .ok (.aload_n 0, 1) := by decide +kernel
theorem dX4_advance_45 : decode cX4_advance 45 = .ok (.getfield 21, 3) := by decide +kernel
theorem dX4_advance_48 : decode cX4_advance 48 = .ok (.getfield 41, 3) := by decide +kernel
theorem dX4_advance_51 : decode cX4_advance 51 = .ok (.aload_n 0, 1) := by decide +kernel
theorem dX4_advance_52 : decode cX4_advance 52 = .ok (.getfield 38, 3) := by decide +kernel
theorem dX4_advance_55 : decode cX4_advance 55 = .ok (.iaload, 1) := by decide +kernel
theorem dX4_advance_56 : decode cX4_advance 56 = .ok (.putfield 45, 3) := by decide +kernel
theorem dX4_advance_59 : decode cX4_advance 59 = .ok (.return_, 1) := by decide +kernel
theorem dX4_expect_0 : decode cX4_expect 0 = .ok (.aload_n 0, 1) := by decide +kernel
theorem dX4_expect_1 : decode cX4_expect 1 = .ok (.getfield 45, 3) := by decide +kernel
theorem dX4_expect_4 : decode cX4_expect 4 = .ok (.iload_n 1, 1) := by decide +kernel
theorem dX4_expect_5 : decode cX4_expect 5 = .ok (.if_icmp .ne 10, 3) := by decide +kernel
theorem dX4_expect_8 : decode cX4_expect 8 = .ok (.aload_n 0, 1) := by decide +kernel
theorem dX4_expect_9 : decode cX4_expect 9 = .ok (.invokevirtual 51, 3) := by decide +kernel
theorem dX4_expect_12 : decode cX4_expect 12 = .ok (.goto 8, 3) := by decide +kernel
theorem dX4_expect_15 : decode cX4_expect 15 = .ok (.aload_n 0, 1) := by decide +kernel
theorem dX4_expect_16 : decode cX4_expect 16 = .ok (.iconst 1, 1) := by decide +kernel
theorem dX4_expect_17 : decode cX4_expect 17 = .ok (.invokevirtual 54, 3) := by decide +kernel
theorem dX4_expect_20 : decode cX4_expect 20 = .ok (.return_, 1) := by decide +kernel
theorem dX4_readClause_0 : decode cX4_readClause 0 = .ok (.aload_n 0, 1) := by decide +kernel
theorem dX4_readClause_1 : decode cX4_readClause 1 = .ok (.getfield 45, 3) := by decide +kernel
theorem dX4_readClause_4 : decode cX4_readClause 4 = .ok (.istore_n 1, 1) := by decide +kernel
theorem dX4_readClause_5 : decode cX4_readClause 5 = .ok (.iload_n 1, 1) := by decide +kernel
theorem dX4_readClause_6 : decode cX4_readClause 6 = .ok (.bipush 18, 2) := by decide +kernel
theorem dX4_readClause_8 : decode cX4_readClause 8 = .ok (.if_icmp .lt 9, 3) := by decide +kernel
theorem dX4_readClause_11 : decode cX4_readClause 11 = .ok (.iload_n 1, 1) := by decide +kernel
theorem dX4_readClause_12 : decode cX4_readClause 12 = .ok (.bipush 23, 2) := by decide +kernel
theorem dX4_readClause_14 : decode cX4_readClause 14 = .ok (.if_icmp .le 11, 3) := by decide +kernel
theorem dX4_readClause_17 : decode cX4_readClause 17 = .ok (.aload_n 0, 1) := by decide +kernel
theorem dX4_readClause_18 : decode cX4_readClause 18 = .ok (.iconst 1, 1) := by decide +kernel
theorem dX4_readClause_19 : decode cX4_readClause 19 = .ok (.invokevirtual 54, 3) := by decide +kernel
theorem dX4_readClause_22 : decode cX4_readClause 22 = .ok (.goto 40, 3) := by decide +kernel
theorem dX4_readClause_25 : decode cX4_readClause 25 = .ok (.aload_n 0, 1) := by decide +kernel
theorem dX4_readClause_26 : decode cX4_readClause 26 = .ok (.getfield 25, 3) := by decide +kernel
theorem dX4_readClause_29 : decode cX4_readClause 29 = .ok (.iload_n 1, 1) := by decide +kernel
theorem dX4_readClause_30 : decode cX4_readClause 30 = .ok (.invokevirtual 58, 3) := by decide +kernel
theorem dX4_readClause_33 : decode cX4_readClause 33 = .ok (.ifCond .eq 11, 3) := by decide +kernel
theorem dX4_readClause_36 : decode cX4_readClause 36 = .ok (.aload_n 0, 1) := by decide +kernel
theorem dX4_readClause_37 : decode cX4_readClause 37 = .ok (.iconst 4, 1) := by decide +kernel
theorem dX4_readClause_38 : decode cX4_readClause 38 = .ok (.invokevirtual 54, 3) := by decide +kernel
theorem dX4_readClause_41 : decode cX4_readClause 41 = .ok (.goto 21, 3) := by decide +kernel
theorem dX4_readClause_44 : decode cX4_readClause 44 = .ok (.aload_n 0, 1) := by decide +kernel
theorem dX4_readClause_45 : decode cX4_readClause 45 = .ok (.getfield 25, 3) := by decide +kernel
theorem dX4_readClause_48 : decode cX4_readClause 48 = .ok (.getfield 62, 3) := by decide +kernel
theorem dX4_readClause_51 : decode cX4_readClause 51 = .ok (.bipush 20, 2) := by decide +kernel
theorem dX4_readClause_53 : decode cX4_readClause 53 = .ok (.if_icmp .lt 9, 3) := by decide +kernel
theorem dX4_readClause_56 : decode cX4_readClause 56 = .ok (.aload_n 0, 1) := by decide +kernel
theorem dX4_readClause_57 : decode cX4_readClause 57 = .ok (.bipush 6, 2) := by decide +kernel
theorem dX4_readClause_59 : decode cX4_readClause 59 = .ok (.invokevirtual 54, 3) := by decide +kernel
theorem dX4_readClause_62 : decode cX4_readClause 62 = .ok (.aload_n 0, 1) := by decide +kernel
theorem dX4_readClause_63 : decode cX4_readClause 63 = .ok (.getfield 9, 3) := by decide +kernel
theorem dX4_readClause_66 : decode cX4_readClause 66 = .ok (.ifCond .ne 14, 3) := by decide +kernel
theorem dX4_readClause_69 : decode cX4_readClause 69 = .ok (.aload_n 0, 1) := by decide +kernel
theorem dX4_readClause_70 : decode cX4_readClause 70 = .ok (.getfield 25, 3) := by decide +kernel
theorem dX4_readClause_73 : decode cX4_readClause 73 = .ok (.iload_n 1, 1) := by decide +kernel
theorem dX4_readClause_74 : decode cX4_readClause 74 = .ok (.invokevirtual 65, 3) := by decide +kernel
theorem dX4_readClause_77 : decode cX4_readClause 77 = .ok (.goto 4, 3) := by decide +kernel
theorem dX4_readClause_80 : decode cX4_readClause 80 = .ok (.iconst (-1), 1) := by decide +kernel
theorem dX4_readClause_81 : decode cX4_readClause 81 = .ok (.istore_n 2, 1) := by decide +kernel
theorem dX4_readClause_82 : decode cX4_readClause 82 = .ok (.iload_n 2, 1) := by decide +kernel
theorem dX4_readClause_83 : decode cX4_readClause 83 = .ok (.iconst (-1), 1) := by decide +kernel
theorem dX4_readClause_84 : decode cX4_readClause 84 = .ok (.if_icmp .ne 4, 3) := by decide +kernel
theorem dX4_readClause_87 : decode cX4_readClause 87 = .ok (.return_, 1) := by decide +kernel
theorem dX4_readClause_88 : decode cX4_readClause 88 = .ok (.aload_n 0, 1) := by decide +kernel
theorem dX4_readClause_89 : decode cX4_readClause 89 = .ok (.invokevirtual 51, 3) := by decide +kernel
theorem dX4_readClause_92 : decode cX4_readClause 92 = .ok (.aload_n 0, 1) := by decide +kernel
theorem dX4_readClause_93 : decode cX4_readClause 93 = .ok (.iload_n 1, 1) := by decide +kernel
theorem dX4_readClause_94 : decode cX4_readClause 94 = .ok (.invokestatic 69, 3) := by decide +kernel
theorem dX4_readClause_97 : decode cX4_readClause 97 = .ok (.putfield 72, 3) := by decide +kernel
theorem dX4_readClause_100 : decode cX4_readClause 100 = .ok (.aload_n 0, 1) := by decide +kernel
theorem dX4_readClause_101 : decode cX4_readClause 101 = .ok (.getfield 25, 3) := by decide +kernel
theorem dX4_readClause_104 : decode cX4_readClause 104 = .ok (.getfield 75, 3) := by decide +kernel
theorem dX4_readClause_107 : decode cX4_readClause 107 = .ok (.iload_n 2, 1) := by decide +kernel
theorem dX4_readClause_108 : decode cX4_readClause 108 = .ok (.aload_n 0, 1) := by decide +kernel
theorem dX4_readClause_109 : decode cX4_readClause 109 = .ok (.getfield 25, 3) := by decide +kernel
theorem dX4_readClause_112 : decode cX4_readClause 112 = .ok (.getfield 78, 3) := by decide +kernel
theorem dX4_readClause_115 : decode cX4_readClause 115 = .ok (.iastore, 1) := by decide +kernel
theorem dX4_readClause_116 : decode cX4_readClause 116 = .ok (.iload_n 1, 1) := by decide +kernel
theorem dX4_readClause_117 : decode cX4_readClause 117 = .ok (.bipush 22, 2) := by decide +kernel
theorem dX4_readClause_119 : decode cX4_readClause 119 = .ok (.if_icmp .eq 9, 3) := by decide +kernel
theorem dX4_readClause_122 : decode cX4_readClause 122 = .ok (.iload_n 1, 1) := by decide +kernel
theorem dX4_readClause_123 : decode cX4_readClause 123 = .ok (.bipush 23, 2) := by decide +kernel
theorem dX4_readClause_125 : decode cX4_readClause 125 = .ok (.if_icmp .ne 12, 3) := by decide +kernel
theorem dX4_readClause_128 : decode cX4_readClause 128 = .ok (.aload_n 0, 1) := by decide +kernel
theorem dX4_readClause_129 : decode cX4_readClause 129 = .ok (.iload_n 2, 1) := by decide +kernel
theorem dX4_readClause_130 : decode cX4_readClause 130 = .ok (.iload_n 1, 1) := by decide +kernel
theorem dX4_readClause_131 : decode cX4_readClause 131 = .ok (.invokevirtual 81, 3) := by decide +kernel
theorem dX4_readClause_134 : decode cX4_readClause 134 = .ok (.goto 21, 3) := by decide +kernel
theorem dX4_readClause_137 : decode cX4_readClause 137 = .ok (.iload_n 1, 1) := by decide +kernel
theorem dX4_readClause_138 : decode cX4_readClause 138 = .ok (.bipush 21, 2) := by decide +kernel
theorem dX4_readClause_140 : decode cX4_readClause 140 = .ok (.if_icmp .ne 10, 3) := by decide +kernel
theorem dX4_readClause_143 : decode cX4_readClause 143 = .ok (.aload_n 0, 1) := by decide +kernel
theorem dX4_readClause_144 : decode cX4_readClause 144 = .ok (.invokevirtual 85, 3) := by decide +kernel
theorem dX4_readClause_147 : decode cX4_readClause 147 = .ok (.goto 8, 3) := by decide +kernel
theorem dX4_readClause_150 : decode cX4_readClause 150 = .ok (.aload_n 0, 1) := by decide +kernel
theorem dX4_readClause_151 : decode cX4_readClause 151 = .ok (.iconst 0, 1) := by decide +kernel
theorem dX4_readClause_152 : decode cX4_readClause 152 = .ok (.invokevirtual 88, 3) := by decide +kernel
theorem dX4_readClause_155 : decode cX4_readClause 155 = .ok (.iload_n 1, 1) := by decide +kernel
theorem dX4_readClause_156 : decode cX4_readClause 156 = .ok (.bipush 22, 2) := by decide +kernel
theorem dX4_readClause_158 : decode cX4_readClause 158 = .ok (.if_icmp .eq 25, 3) := by decide +kernel
theorem dX4_readClause_161 : decode cX4_readClause 161 = .ok (.iload_n 1, 1) := by decide +kernel
theorem dX4_readClause_162 : decode cX4_readClause 162 = .ok (.bipush 23, 2) := by decide +kernel
theorem dX4_readClause_164 : decode cX4_readClause 164 = .ok (.if_icmp .eq 19, 3) := by decide +kernel
theorem dX4_readClause_167 : decode cX4_readClause 167 = .ok (.aload_n 0, 1) := by decide +kernel
theorem dX4_readClause_168 : decode cX4_readClause 168 = .ok (.getfield 25, 3) := by decide +kernel
theorem dX4_readClause_171 : decode cX4_readClause 171 = .ok (.getfield 91, 3) := by decide +kernel
theorem dX4_readClause_174 : decode cX4_readClause 174 = .ok (.iload_n 2, 1) := by decide +kernel
theorem dX4_readClause_175 : decode cX4_readClause 175 = .ok (.aload_n 0, 1) := by decide +kernel
theorem dX4_readClause_176 : decode cX4_readClause 176 = .ok (.getfield 25, 3) := by decide +kernel
theorem dX4_readClause_179 : decode cX4_readClause 179 = .ok (.getfield 78, 3) := by decide +kernel
theorem dX4_readClause_182 : decode cX4_readClause 182 = .ok (.iastore, 1) := by decide +kernel
theorem dX4_readClause_183 : decode cX4_readClause 183 = .ok (.aload_n 0, 1) := by decide +kernel
theorem dX4_readClause_184 : decode cX4_readClause 184 = .ok (.bipush 35, 2) := by decide +kernel
theorem dX4_readClause_186 : decode cX4_readClause 186 = .ok (.invokevirtual 94, 3) := by decide +kernel
theorem dX4_readClause_189 : decode cX4_readClause 189 = .ok (.return_, 1) := by decide +kernel
theorem dX4_readPlace_0 : decode cX4_readPlace 0 = .ok (.aload_n 0, 1) := by decide +kernel
theorem dX4_readPlace_1 : decode cX4_readPlace 1 = .ok (.getfield 25, 3) := by decide +kernel
theorem dX4_readPlace_4 : decode cX4_readPlace 4 = .ok (.getfield 75, 3) := by decide +kernel
theorem dX4_readPlace_7 : decode cX4_readPlace 7 = .ok (.iload_n 1, 1) := by decide +kernel
theorem dX4_readPlace_8 : decode cX4_readPlace 8 = .ok (.iload_n 2, 1) := by decide +kernel
theorem dX4_readPlace_9 : decode cX4_readPlace 9 = .ok (.bipush 22, 2) := by decide +kernel
theorem dX4_readPlace_11 : decode cX4_readPlace 11 = .ok (.if_icmp .ne 13, 3) := by decide +kernel
theorem dX4_readPlace_14 : decode cX4_readPlace 14 = .ok (.aload_n 0, 1) := by decide +kernel
theorem dX4_readPlace_15 : decode cX4_readPlace 15 = .ok (.iconst 1, 1) := by decide +kernel
theorem dX4_readPlace_16 : decode cX4_readPlace 16 = .ok (.bipush 99, 2) := by decide +kernel
theorem dX4_readPlace_18 : decode cX4_readPlace 18 = .ok (.invokevirtual 97, 3) := by decide +kernel
theorem dX4_readPlace_21 : decode cX4_readPlace 21 = .ok (.goto 9, 3) := by decide +kernel
theorem dX4_readPlace_24 : decode cX4_readPlace 24 = .ok (.aload_n 0, 1) := by decide +kernel
theorem dX4_readPlace_25 : decode cX4_readPlace 25 = .ok (.iconst 0, 1) := by decide +kernel
theorem dX4_readPlace_26 : decode cX4_readPlace 26 = .ok (.iconst 5, 1) := by decide +kernel
theorem dX4_readPlace_27 : decode cX4_readPlace 27 = .ok (.invokevirtual 97, 3) := by decide +kernel
theorem dX4_readPlace_30 : decode cX4_readPlace 30 = .ok (.iastore, 1) := by decide +kernel
theorem dX4_readPlace_31 : decode cX4_readPlace 31 = .ok (.aload_n 0, 1) := by decide +kernel
theorem dX4_readPlace_32 : decode cX4_readPlace 32 = .ok (.bipush 17, 2) := by decide +kernel
theorem dX4_readPlace_34 : decode cX4_readPlace 34 = .ok (.invokevirtual 94, 3) := by decide +kernel
theorem dX4_readPlace_37 : decode cX4_readPlace 37 = .ok (.aload_n 0, 1) := by decide +kernel
theorem dX4_readPlace_38 : decode cX4_readPlace 38 = .ok (.getfield 25, 3) := by decide +kernel
theorem dX4_readPlace_41 : decode cX4_readPlace 41 = .ok (.getfield 91, 3) := by decide +kernel
theorem dX4_readPlace_44 : decode cX4_readPlace 44 = .ok (.iload_n 1, 1) := by decide +kernel
theorem dX4_readPlace_45 : decode cX4_readPlace 45 = .ok (.aload_n 0, 1) := by decide +kernel
theorem dX4_readPlace_46 : decode cX4_readPlace 46 = .ok (.iconst 0, 1) := by decide +kernel
theorem dX4_readPlace_47 : decode cX4_readPlace 47 = .ok (.bipush 7, 2) := by decide +kernel
theorem dX4_readPlace_49 : decode cX4_readPlace 49 = .ok (.invokevirtual 97, 3) := by decide +kernel
theorem dX4_readPlace_52 : decode cX4_readPlace 52 = .ok (.iastore, 1) := by decide +kernel
theorem dX4_readPlace_53 : decode cX4_readPlace 53 = .ok (.aload_n 0, 1) := by decide +kernel
theorem dX4_readPlace_54 : decode cX4_readPlace 54 = .ok (.bipush 34, 2) := by decide +kernel
theorem dX4_readPlace_56 : decode cX4_readPlace 56 = .ok (.invokevirtual 94, 3) := by decide +kernel
theorem dX4_readPlace_59 : decode cX4_readPlace 59 = .ok (.aload_n 0, 1) := by decide +kernel
theorem dX4_readPlace_60 : decode cX4_readPlace 60 = .ok (.getfield 25, 3) := by decide +kernel
theorem dX4_readPlace_63 : decode cX4_readPlace 63 = .ok (.getfield 101, 3) := by decide +kernel
theorem dX4_readPlace_66 : decode cX4_readPlace 66 = .ok (.iload_n 1, 1) := by decide +kernel
theorem dX4_readPlace_67 : decode cX4_readPlace 67 = .ok (.aload_n 0, 1) := by decide +kernel
theorem dX4_readPlace_68 : decode cX4_readPlace 68 = .ok (.iconst 0, 1) := by decide +kernel
theorem dX4_readPlace_69 : decode cX4_readPlace 69 = .ok (.iconst 5, 1) := by decide +kernel
theorem dX4_readPlace_70 : decode cX4_readPlace 70 = .ok (.invokevirtual 97, 3) := by decide +kernel
theorem dX4_readPlace_73 : decode cX4_readPlace 73 = .ok (.iastore, 1) := by decide +kernel
theorem dX4_readPlace_74 : decode cX4_readPlace 74 = .ok (.return_, 1) := by decide +kernel
theorem dX4_readNumber_0 : decode cX4_readNumber 0 = .ok (.aload_n 0, 1) := by decide +kernel
theorem dX4_readNumber_1 : decode cX4_readNumber 1 = .ok (.getfield 21, 3) := by decide +kernel
theorem dX4_readNumber_4 : decode cX4_readNumber 4 = .ok (.getfield 104, 3) := by decide +kernel
theorem dX4_readNumber_7 : decode cX4_readNumber 7 = .ok (.aload_n 0, 1) := by decide +kernel
theorem dX4_readNumber_8 : decode cX4_readNumber 8 = .ok (.getfield 38, 3) := by decide +kernel
theorem dX4_readNumber_11 : decode cX4_readNumber 11 = .ok (.iaload, 1) := by decide +kernel
theorem dX4_readNumber_12 : decode cX4_readNumber 12 = .ok (.istore_n 3, 1) := by decide +kernel
theorem dX4_readNumber_13 : decode cX4_readNumber 13 = .ok (.aload_n 0, 1) := by decide +kernel
theorem dX4_readNumber_14 : decode cX4_readNumber 14 = .ok (.getfield 45, 3) := by decide +kernel
theorem dX4_readNumber_17 : decode cX4_readNumber 17 = .ok (.bipush 38, 2) := by decide +kernel
theorem dX4_readNumber_19 : decode cX4_readNumber 19 = .ok (.if_icmp .eq 11, 3) := by decide +kernel
theorem dX4_readNumber_22 : decode cX4_readNumber 22 = .ok (.aload_n 0, 1) := by decide +kernel
theorem dX4_readNumber_23 : decode cX4_readNumber 23 = .ok (.iconst 1, 1) := by decide +kernel
theorem dX4_readNumber_24 : decode cX4_readNumber 24 = .ok (.invokevirtual 54, 3) := by decide +kernel
theorem dX4_readNumber_27 : decode cX4_readNumber 27 = .ok (.goto 18, 3) := by decide +kernel
theorem dX4_readNumber_30 : decode cX4_readNumber 30 = .ok (.iload_n 3, 1) := by decide +kernel
theorem dX4_readNumber_31 : decode cX4_readNumber 31 = .ok (.iload_n 1, 1) := by decide +kernel
theorem dX4_readNumber_32 : decode cX4_readNumber 32 = .ok (.if_icmp .lt 8, 3) := by decide +kernel
theorem dX4_readNumber_35 : decode cX4_readNumber 35 = .ok (.iload_n 3, 1) := by decide +kernel
theorem dX4_readNumber_36 : decode cX4_readNumber 36 = .ok (.iload_n 2, 1) := by decide +kernel
theorem dX4_readNumber_37 : decode cX4_readNumber 37 = .ok (.if_icmp .le 8, 3) := by decide +kernel
theorem dX4_readNumber_40 : decode cX4_readNumber 40 = .ok (.aload_n 0, 1) := by decide +kernel
theorem dX4_readNumber_41 : decode cX4_readNumber 41 = .ok (.iconst 2, 1) := by decide +kernel
theorem dX4_readNumber_42 : decode cX4_readNumber 42 = .ok (.invokevirtual 54, 3) := by decide +kernel
theorem dX4_readNumber_45 : decode cX4_readNumber 45 = .ok (.aload_n 0, 1) := by decide +kernel
theorem dX4_readNumber_46 : decode cX4_readNumber 46 = .ok (.invokevirtual 51, 3) := by decide +kernel
theorem dX4_readNumber_49 : decode cX4_readNumber 49 = .ok (.iload_n 3, 1) := by decide +kernel
theorem dX4_readNumber_50 : decode cX4_readNumber 50 = .ok (.ireturn, 1) := by decide +kernel
theorem dX4_namesOf_0 : decode cX4_namesOf 0 = .ok (.iload_n 0, 1) := by decide +kernel
theorem dX4_namesOf_1 : decode cX4_namesOf 1 = .ok (.bipush 20, 2) := by decide +kernel
theorem dX4_namesOf_3 : decode cX4_namesOf 3 = .ok (.if_icmp .ne 7, 3) := by decide +kernel
theorem dX4_namesOf_6 : decode cX4_namesOf 6 = .ok (.sipush 3608, 3) := by decide +kernel
theorem dX4_namesOf_9 : decode cX4_namesOf 9 = .ok (.ireturn, 1) := by decide +kernel
theorem dX4_namesOf_10 : decode cX4_namesOf 10 = .ok (.bipush 63, 2) := by decide +kernel
theorem dX4_namesOf_12 : decode cX4_namesOf 12 = .ok (.istore_n 1, 1) := by decide +kernel
theorem dX4_namesOf_13 : decode cX4_namesOf 13 = .ok (.iload_n 0, 1) := by decide +kernel
theorem dX4_namesOf_14 : decode cX4_namesOf 14 = .ok (.bipush 19, 2) := by decide +kernel
theorem dX4_namesOf_16 : decode cX4_namesOf 16 = .ok (.if_icmp .ne 12, 3) := by decide +kernel
theorem dX4_namesOf_19 : decode cX4_namesOf 19 = .ok (.iload_n 1, 1) := by decide +kernel
theorem dX4_namesOf_20 : decode cX4_namesOf 20 = .ok (.bipush 64, 2) := by decide +kernel
theorem dX4_namesOf_22 : decode cX4_namesOf 22 = .ok (.ior, 1) := by decide +kernel
theorem dX4_namesOf_23 : decode cX4_namesOf 23 = .ok (.sipush 128, 3) := by decide +kernel
theorem dX4_namesOf_26 : decode cX4_namesOf 26 = .ok (.ior, 1) := by decide +kernel
theorem dX4_namesOf_27 : decode cX4_namesOf 27 = .ok (.ireturn, 1) := by decide +kernel
theorem dX4_namesOf_28 : decode cX4_namesOf 28 = .ok (.iload_n 0, 1) := by decide +kernel
theorem dX4_namesOf_29 : decode cX4_namesOf 29 = .ok (.bipush 21, 2) := by decide +kernel
theorem dX4_namesOf_31 : decode cX4_namesOf 31 = .ok (.if_icmp .ne 11, 3) := by decide +kernel
theorem dX4_namesOf_34 : decode cX4_namesOf 34 = .ok (.iload_n 1, 1) := by decide +kernel
theorem dX4_namesOf_35 : decode cX4_namesOf 35 = .ok (.sipush 256, 3) := by decide +kernel
theorem dX4_namesOf_38 : decode cX4_namesOf 38 = .ok (.ior, 1) := by decide +kernel
theorem dX4_namesOf_39 : decode cX4_namesOf 39 = .ok (.goto 4, 3) := by decide +kernel
theorem dX4_namesOf_42 : decode cX4_namesOf 42 = .ok (.iload_n 1, 1) := by decide +kernel
theorem dX4_namesOf_43 : decode cX4_namesOf 43 = .ok (.ireturn, 1) := by decide +kernel
theorem dX4_readEither_0 : decode cX4_readEither 0 = .ok (.iconst 0, 1) := by decide +kernel
theorem dX4_readEither_1 : decode cX4_readEither 1 = .ok (.istore_n 1, 1) := by decide +kernel
theorem dX4_readEither_2 : decode cX4_readEither 2 = .ok (.aload_n 0, 1) := by decide +kernel
theorem dX4_readEither_3 : decode cX4_readEither 3 = .ok (.invokevirtual 107, 3) := by decide +kernel
theorem dX4_readEither_6 : decode cX4_readEither 6 = .ok (.iconst 0, 1) := by decide +kernel
theorem dX4_readEither_7 : decode cX4_readEither 7 = .ok (.istore_n 2, 1) := by decide +kernel
theorem dX4_readEither_8 : decode cX4_readEither 8 = .ok (.iload_n 2, 1) := by decide +kernel
theorem dX4_readEither_9 : decode cX4_readEither 9 = .ok (.sipush 300, 3) := by decide +kernel
theorem dX4_readEither_12 : decode cX4_readEither 12 = .ok (.if_icmp .ge 96, 3) := by decide +kernel
theorem dX4_readEither_15 : decode cX4_readEither 15 = .ok (.aload_n 0, 1) := by decide +kernel
theorem dX4_readEither_16 : decode cX4_readEither 16 = .ok (.getfield 45, 3) := by decide +kernel
theorem dX4_readEither_19 : decode cX4_readEither 19 = .ok (.bipush 15, 2) := by decide +kernel
theorem dX4_readEither_21 : decode cX4_readEither 21 = .ok (.if_icmp .eq 12, 3) := by decide +kernel
theorem dX4_readEither_24 : decode cX4_readEither 24 = .ok (.aload_n 0, 1) := by decide +kernel
theorem dX4_readEither_25 : decode cX4_readEither 25 = .ok (.getfield 45, 3) := by decide +kernel
theorem dX4_readEither_28 : decode cX4_readEither 28 = .ok (.bipush 16, 2) := by decide +kernel
theorem dX4_readEither_30 : decode cX4_readEither 30 = .ok (.if_icmp .ne 78, 3) := by decide +kernel
theorem dX4_readEither_33 : decode cX4_readEither 33 = .ok (.aload_n 0, 1) := by decide +kernel
theorem dX4_readEither_34 : decode cX4_readEither 34 = .ok (.getfield 45, 3) := by decide +kernel
theorem dX4_readEither_37 : decode cX4_readEither 37 = .ok (.bipush 15, 2) := by decide +kernel
theorem dX4_readEither_39 : decode cX4_readEither 39 = .ok (.if_icmp .ne 7, 3) := by decide +kernel
theorem dX4_readEither_42 : decode cX4_readEither 42 = .ok (.iconst 1, 1) := by decide +kernel
theorem dX4_readEither_43 : decode cX4_readEither 43 = .ok (.goto 4, 3) := by decide +kernel
theorem dX4_readEither_46 : decode cX4_readEither 46 = .ok (.iconst 0, 1) := by decide +kernel
theorem dX4_readEither_47 : decode cX4_readEither 47 = .ok (.istore_n 3, 1) := by decide +kernel
theorem dX4_readEither_48 : decode cX4_readEither 48 = .ok (.iload_n 3, 1) := by decide +kernel
theorem dX4_readEither_49 : decode cX4_readEither 49 = .ok (.ifCond .ne 17, 3) := by decide +kernel
theorem dX4_readEither_52 : decode cX4_readEither 52 = .ok (.iload_n 1, 1) := by decide +kernel
theorem dX4_readEither_53 : decode cX4_readEither 53 = .ok (.ifCond .eq 13, 3) := by decide +kernel
theorem dX4_readEither_56 : decode cX4_readEither 56 = .ok (.aload_n 0, 1) := by decide +kernel
theorem dX4_readEither_57 : decode cX4_readEither 57 = .ok (.getfield 25, 3) := by decide +kernel
theorem dX4_readEither_60 : decode cX4_readEither 60 = .ok (.bipush 16, 2) := by decide +kernel
theorem dX4_readEither_62 : decode cX4_readEither 62 = .ok (.iconst 0, 1) := by decide +kernel
theorem dX4_readEither_63 : decode cX4_readEither 63 = .ok (.invokevirtual 110, 3) := by decide +kernel
theorem dX4_readEither_66 : decode cX4_readEither 66 = .ok (.iload_n 1, 1) := by decide +kernel
theorem dX4_readEither_67 : decode cX4_readEither 67 = .ok (.ifCond .ne 7, 3) := by decide +kernel
theorem dX4_readEither_70 : decode cX4_readEither 70 = .ok (.iload_n 3, 1) := by decide +kernel
theorem dX4_readEither_71 : decode cX4_readEither 71 = .ok (.ifCond .ne 7, 3) := by decide +kernel
theorem dX4_readEither_74 : decode cX4_readEither 74 = .ok (.iconst 1, 1) := by decide +kernel
theorem dX4_readEither_75 : decode cX4_readEither 75 = .ok (.goto 4, 3) := by decide +kernel
theorem dX4_readEither_78 : decode cX4_readEither 78 = .ok (.iconst 0, 1) := by decide +kernel
theorem dX4_readEither_79 : decode cX4_readEither 79 = .ok (.istore_n 1, 1) := by decide +kernel
theorem dX4_readEither_80 : decode cX4_readEither 80 = .ok (.aload_n 0, 1) := by decide +kernel
theorem dX4_readEither_81 : decode cX4_readEither 81 = .ok (.invokevirtual 51, 3) := by decide +kernel
theorem dX4_readEither_84 : decode cX4_readEither 84 = .ok (.aload_n 0, 1) := by decide +kernel
theorem dX4_readEither_85 : decode cX4_readEither 85 = .ok (.invokevirtual 107, 3) := by decide +kernel
theorem dX4_readEither_88 : decode cX4_readEither 88 = .ok (.iload_n 3, 1) := by decide +kernel
theorem dX4_readEither_89 : decode cX4_readEither 89 = .ok (.ifCond .eq 13, 3) := by decide +kernel
theorem dX4_readEither_92 : decode cX4_readEither 92 = .ok (.aload_n 0, 1) := by decide +kernel
theorem dX4_readEither_93 : decode cX4_readEither 93 = .ok (.getfield 25, 3) := by decide +kernel
theorem dX4_readEither_96 : decode cX4_readEither 96 = .ok (.bipush 15, 2) := by decide +kernel
theorem dX4_readEither_98 : decode cX4_readEither 98 = .ok (.iconst 0, 1) := by decide +kernel
theorem dX4_readEither_99 : decode cX4_readEither 99 = .ok (.invokevirtual 110, 3) := by decide +kernel
theorem dX4_readEither_102 : decode cX4_readEither 102 = .ok (.iinc 2 1, 3) := by decide +kernel
theorem dX4_readEither_105 : decode cX4_readEither 105 = .ok (.goto (-97), 3) := by decide +kernel
theorem dX4_readEither_108 : decode cX4_readEither 108 = .ok (.iload_n 1, 1) := by decide +kernel
theorem dX4_readEither_109 : decode cX4_readEither 109 = .ok (.ifCond .eq 13, 3) := by decide +kernel
theorem dX4_readEither_112 : decode cX4_readEither 112 = .ok (.aload_n 0, 1) := by decide +kernel
theorem dX4_readEither_113 : decode cX4_readEither 113 = .ok (.getfield 25, 3) := by decide +kernel
theorem dX4_readEither_116 : decode cX4_readEither 116 = .ok (.bipush 16, 2) := by decide +kernel
theorem dX4_readEither_118 : decode cX4_readEither 118 = .ok (.iconst 0, 1) := by decide +kernel
theorem dX4_readEither_119 : decode cX4_readEither 119 = .ok (.invokevirtual 110, 3) := by decide +kernel
theorem dX4_readEither_122 : decode cX4_readEither 122 = .ok (.return_, 1) := by decide +kernel
theorem dX4_readAsk_0 : decode cX4_readAsk 0 = .ok (.iconst 0, 1) := by decide +kernel
theorem dX4_readAsk_1 : decode cX4_readAsk 1 = .ok (.istore_n 1, 1) := by decide +kernel
theorem dX4_readAsk_2 : decode cX4_readAsk 2 = .ok (.iload_n 1, 1) := by decide +kernel
theorem dX4_readAsk_3 : decode cX4_readAsk 3 = .ok (.bipush 8, 2) := by decide +kernel
theorem dX4_readAsk_5 : decode cX4_readAsk 5 = .ok (.if_icmp .ge 22, 3) := by decide +kernel
theorem dX4_readAsk_8 : decode cX4_readAsk 8 = .ok (.aload_n 0, 1) := by decide +kernel
theorem dX4_readAsk_9 : decode cX4_readAsk 9 = .ok (.getfield 45, 3) := by decide +kernel
theorem dX4_readAsk_12 : decode cX4_readAsk 12 = .ok (.bipush 14, 2) := by decide +kernel
theorem dX4_readAsk_14 : decode cX4_readAsk 14 = .ok (.if_icmp .ne 13, 3) := by decide +kernel
theorem dX4_readAsk_17 : decode cX4_readAsk 17 = .ok (.iinc 1 1, 3) := by decide +kernel
theorem dX4_readAsk_20 : decode cX4_readAsk 20 = .ok (.aload_n 0, 1) := by decide +kernel
theorem dX4_readAsk_21 : decode cX4_readAsk 21 = .ok (.invokevirtual 51, 3) := by decide +kernel
theorem dX4_readAsk_24 : decode cX4_readAsk 24 = .ok (.goto (-22), 3) := by decide +kernel
theorem dX4_readAsk_27 : decode cX4_readAsk 27 = .ok (.aload_n 0, 1) := by decide +kernel
theorem dX4_readAsk_28 : decode cX4_readAsk 28 = .ok (.getfield 45, 3) := by decide +kernel
theorem dX4_readAsk_31 : decode cX4_readAsk 31 = .ok (.bipush 14, 2) := by decide +kernel
theorem dX4_readAsk_33 : decode cX4_readAsk 33 = .ok (.if_icmp .ne 8, 3) := by decide +kernel
theorem dX4_readAsk_36 : decode cX4_readAsk 36 = .ok (.aload_n 0, 1) := by decide +kernel
theorem dX4_readAsk_37 : decode cX4_readAsk 37 = .ok (.iconst 3, 1) := by decide +kernel
theorem dX4_readAsk_38 : decode cX4_readAsk 38 = .ok (.invokevirtual 54, 3) := by decide +kernel
theorem dX4_readAsk_41 : decode cX4_readAsk 41 = .ok (.aload_n 0, 1) := by decide +kernel
theorem dX4_readAsk_42 : decode cX4_readAsk 42 = .ok (.iload_n 1, 1) := by decide +kernel
theorem dX4_readAsk_43 : decode cX4_readAsk 43 = .ok (.invokevirtual 88, 3) := by decide +kernel
theorem dX4_readAsk_46 : decode cX4_readAsk 46 = .ok (.aload_n 0, 1) := by decide +kernel
theorem dX4_readAsk_47 : decode cX4_readAsk 47 = .ok (.getfield 45, 3) := by decide +kernel
theorem dX4_readAsk_50 : decode cX4_readAsk 50 = .ok (.istore_n 2, 1) := by decide +kernel
theorem dX4_readAsk_51 : decode cX4_readAsk 51 = .ok (.iload_n 2, 1) := by decide +kernel
theorem dX4_readAsk_52 : decode cX4_readAsk 52 = .ok (.bipush 24, 2) := by decide +kernel
theorem dX4_readAsk_54 : decode cX4_readAsk 54 = .ok (.if_icmp .lt 9, 3) := by decide +kernel
theorem dX4_readAsk_57 : decode cX4_readAsk 57 = .ok (.iload_n 2, 1) := by decide +kernel
theorem dX4_readAsk_58 : decode cX4_readAsk 58 = .ok (.bipush 27, 2) := by decide +kernel
theorem dX4_readAsk_60 : decode cX4_readAsk 60 = .ok (.if_icmp .le 15, 3) := by decide +kernel
theorem dX4_readAsk_63 : decode cX4_readAsk 63 = .ok (.iload_n 2, 1) := by decide +kernel
theorem dX4_readAsk_64 : decode cX4_readAsk 64 = .ok (.bipush 36, 2) := by decide +kernel
theorem dX4_readAsk_66 : decode cX4_readAsk 66 = .ok (.if_icmp .eq 9, 3) := by decide +kernel
theorem dX4_readAsk_69 : decode cX4_readAsk 69 = .ok (.iload_n 2, 1) := by decide +kernel
theorem dX4_readAsk_70 : decode cX4_readAsk 70 = .ok (.bipush 37, 2) := by decide +kernel
theorem dX4_readAsk_72 : decode cX4_readAsk 72 = .ok (.if_icmp .ne 10, 3) := by decide +kernel
theorem dX4_readAsk_75 : decode cX4_readAsk 75 = .ok (.aload_n 0, 1) := by decide +kernel
theorem dX4_readAsk_76 : decode cX4_readAsk 76 = .ok (.invokevirtual 51, 3) := by decide +kernel
theorem dX4_readAsk_79 : decode cX4_readAsk 79 = .ok (.goto 8, 3) := by decide +kernel
theorem dX4_readAsk_82 : decode cX4_readAsk 82 = .ok (.aload_n 0, 1) := by decide +kernel
theorem dX4_readAsk_83 : decode cX4_readAsk 83 = .ok (.iconst 1, 1) := by decide +kernel
theorem dX4_readAsk_84 : decode cX4_readAsk 84 = .ok (.invokevirtual 54, 3) := by decide +kernel
theorem dX4_readAsk_87 : decode cX4_readAsk 87 = .ok (.aload_n 0, 1) := by decide +kernel
theorem dX4_readAsk_88 : decode cX4_readAsk 88 = .ok (.iload_n 1, 1) := by decide +kernel
theorem dX4_readAsk_89 : decode cX4_readAsk 89 = .ok (.invokevirtual 88, 3) := by decide +kernel
theorem dX4_readAsk_92 : decode cX4_readAsk 92 = .ok (.aload_n 0, 1) := by decide +kernel
theorem dX4_readAsk_93 : decode cX4_readAsk 93 = .ok (.getfield 25, 3) := by decide +kernel
theorem dX4_readAsk_96 : decode cX4_readAsk 96 = .ok (.iload_n 2, 1) := by decide +kernel
theorem dX4_readAsk_97 : decode cX4_readAsk 97 = .ok (.iconst 0, 1) := by decide +kernel
theorem dX4_readAsk_98 : decode cX4_readAsk 98 = .ok (.invokevirtual 110, 3) := by decide +kernel
theorem dX4_readAsk_101 : decode cX4_readAsk 101 = .ok (.iconst 0, 1) := by decide +kernel
theorem dX4_readAsk_102 : decode cX4_readAsk 102 = .ok (.istore_n 3, 1) := by decide +kernel
theorem dX4_readAsk_103 : decode cX4_readAsk 103 = .ok (.iload_n 3, 1) := by decide +kernel
theorem dX4_readAsk_104 : decode cX4_readAsk 104 = .ok (.iload_n 1, 1) := by decide +kernel
theorem dX4_readAsk_105 : decode cX4_readAsk 105 = .ok (.if_icmp .ge 19, 3) := by decide +kernel
theorem dX4_readAsk_108 : decode cX4_readAsk 108 = .ok (.aload_n 0, 1) := by decide +kernel
theorem dX4_readAsk_109 : decode cX4_readAsk 109 = .ok (.getfield 25, 3) := by decide +kernel
theorem dX4_readAsk_112 : decode cX4_readAsk 112 = .ok (.bipush 14, 2) := by decide +kernel
theorem dX4_readAsk_114 : decode cX4_readAsk 114 = .ok (.iconst 0, 1) := by decide +kernel
theorem dX4_readAsk_115 : decode cX4_readAsk 115 = .ok (.invokevirtual 110, 3) := by decide +kernel
theorem dX4_readAsk_118 : decode cX4_readAsk 118 = .ok (.iinc 3 1, 3) := by decide +kernel
theorem dX4_readAsk_121 : decode cX4_readAsk 121 = .ok (.goto (-18), 3) := by decide +kernel
theorem dX4_readAsk_124 : decode cX4_readAsk 124 = .ok (.return_, 1) := by decide +kernel
theorem dX4_readSum_0 : decode cX4_readSum 0 = .ok (.iconst (-1), 1) := by decide +kernel
theorem dX4_readSum_1 : decode cX4_readSum 1 = .ok (.istore_n 2, 1) := by decide +kernel
theorem dX4_readSum_2 : decode cX4_readSum 2 = .ok (.aload_n 0, 1) := by decide +kernel
theorem dX4_readSum_3 : decode cX4_readSum 3 = .ok (.iload_n 1, 1) := by decide +kernel
theorem dX4_readSum_4 : decode cX4_readSum 4 = .ok (.invokevirtual 113, 3) := by decide +kernel
theorem dX4_readSum_7 : decode cX4_readSum 7 = .ok (.iconst 0, 1) := by decide +kernel
theorem dX4_readSum_8 : decode cX4_readSum 8 = .ok (.istore_n 3, 1) := by decide +kernel
theorem dX4_readSum_9 : decode cX4_readSum 9 = .ok (.iload_n 3, 1) := by decide +kernel
theorem dX4_readSum_10 : decode cX4_readSum 10 = .ok (.sipush 300, 3) := by decide +kernel
theorem dX4_readSum_13 : decode cX4_readSum 13 = .ok (.if_icmp .ge 109, 3) := by decide +kernel
theorem dX4_readSum_16 : decode cX4_readSum 16 = .ok (.aload_n 0, 1) := by decide +kernel
theorem dX4_readSum_17 : decode cX4_readSum 17 = .ok (.getfield 45, 3) := by decide +kernel
theorem dX4_readSum_20 : decode cX4_readSum 20 = .ok (.bipush 28, 2) := by decide +kernel
theorem dX4_readSum_22 : decode cX4_readSum 22 = .ok (.if_icmp .lt 100, 3) := by decide +kernel
theorem dX4_readSum_25 : decode cX4_readSum 25 = .ok (.aload_n 0, 1) := by decide +kernel
theorem dX4_readSum_26 : decode cX4_readSum 26 = .ok (.getfield 45, 3) := by decide +kernel
theorem dX4_readSum_29 : decode cX4_readSum 29 = .ok (.bipush 31, 2) := by decide +kernel
theorem dX4_readSum_31 : decode cX4_readSum 31 = .ok (.if_icmp .gt 91, 3) := by decide +kernel
theorem dX4_readSum_34 : decode cX4_readSum 34 = .ok (.aload_n 0, 1) := by decide +kernel
theorem dX4_readSum_35 : decode cX4_readSum 35 = .ok (.getfield 45, 3) := by decide +kernel
theorem dX4_readSum_38 : decode cX4_readSum 38 = .ok (.istore 4, 2) := by decide +kernel
theorem dX4_readSum_40 : decode cX4_readSum 40 = .ok (.iload 4, 2) := by decide +kernel
theorem dX4_readSum_42 : decode cX4_readSum 42 = .ok (.bipush 30, 2) := by decide +kernel
theorem dX4_readSum_44 : decode cX4_readSum 44 = .ok (.if_icmp .eq 10, 3) := by decide +kernel
theorem dX4_readSum_47 : decode cX4_readSum 47 = .ok (.iload 4, 2) := by decide +kernel
theorem dX4_readSum_49 : decode cX4_readSum 49 = .ok (.bipush 31, 2) := by decide +kernel
theorem dX4_readSum_51 : decode cX4_readSum 51 = .ok (.if_icmp .ne 7, 3) := by decide +kernel
theorem dX4_readSum_54 : decode cX4_readSum 54 = .ok (.iconst 1, 1) := by decide +kernel
theorem dX4_readSum_55 : decode cX4_readSum 55 = .ok (.goto 4, 3) := by decide +kernel
theorem dX4_readSum_58 : decode cX4_readSum 58 = .ok (.iconst 0, 1) := by decide +kernel
theorem dX4_readSum_59 : decode cX4_readSum 59 = .ok (.istore 5, 2) := by decide +kernel
theorem dX4_readSum_61 : decode cX4_readSum 61 = .ok (.iload 5, 2) := by decide +kernel
theorem dX4_readSum_63 : decode cX4_readSum 63 = .ok (.ifCond .ne 17, 3) := by decide +kernel
theorem dX4_readSum_66 : decode cX4_readSum 66 = .ok (.iload_n 2, 1) := by decide +kernel
theorem dX4_readSum_67 : decode cX4_readSum 67 = .ok (.iconst (-1), 1) := by decide +kernel
theorem dX4_readSum_68 : decode cX4_readSum 68 = .ok (.if_icmp .eq 12, 3) := by decide +kernel
theorem dX4_readSum_71 : decode cX4_readSum 71 = .ok (.aload_n 0, 1) := by decide +kernel
theorem dX4_readSum_72 : decode cX4_readSum 72 = .ok (.getfield 25, 3) := by decide +kernel
theorem dX4_readSum_75 : decode cX4_readSum 75 = .ok (.iload_n 2, 1) := by decide +kernel
theorem dX4_readSum_76 : decode cX4_readSum 76 = .ok (.iconst 0, 1) := by decide +kernel
theorem dX4_readSum_77 : decode cX4_readSum 77 = .ok (.invokevirtual 110, 3) := by decide +kernel
theorem dX4_readSum_80 : decode cX4_readSum 80 = .ok (.iload 5, 2) := by decide +kernel
theorem dX4_readSum_82 : decode cX4_readSum 82 = .ok (.ifCond .eq 7, 3) := by decide +kernel
theorem dX4_readSum_85 : decode cX4_readSum 85 = .ok (.iload_n 2, 1) := by decide +kernel
theorem dX4_readSum_86 : decode cX4_readSum 86 = .ok (.goto 5, 3) := by decide +kernel
theorem dX4_readSum_89 : decode cX4_readSum 89 = .ok (.iload 4, 2) := by decide +kernel
theorem dX4_readSum_91 : decode cX4_readSum 91 = .ok (.istore_n 2, 1) := by decide +kernel
theorem dX4_readSum_92 : decode cX4_readSum 92 = .ok (.aload_n 0, 1) := by decide +kernel
theorem dX4_readSum_93 : decode cX4_readSum 93 = .ok (.invokevirtual 51, 3) := by decide +kernel
theorem dX4_readSum_96 : decode cX4_readSum 96 = .ok (.aload_n 0, 1) := by decide +kernel
theorem dX4_readSum_97 : decode cX4_readSum 97 = .ok (.iload_n 1, 1) := by decide +kernel
theorem dX4_readSum_98 : decode cX4_readSum 98 = .ok (.invokevirtual 113, 3) := by decide +kernel
theorem dX4_readSum_101 : decode cX4_readSum 101 = .ok (.iload 5, 2) := by decide +kernel
theorem dX4_readSum_103 : decode cX4_readSum 103 = .ok (.ifCond .eq 13, 3) := by decide +kernel
theorem dX4_readSum_106 : decode cX4_readSum 106 = .ok (.aload_n 0, 1) := by decide +kernel
theorem dX4_readSum_107 : decode cX4_readSum 107 = .ok (.getfield 25, 3) := by decide +kernel
theorem dX4_readSum_110 : decode cX4_readSum 110 = .ok (.iload 4, 2) := by decide +kernel
theorem dX4_readSum_112 : decode cX4_readSum 112 = .ok (.iconst 0, 1) := by decide +kernel
theorem dX4_readSum_113 : decode cX4_readSum 113 = .ok (.invokevirtual 110, 3) := by decide +kernel
theorem dX4_readSum_116 : decode cX4_readSum 116 = .ok (.iinc 3 1, 3) := by decide +kernel
theorem dX4_readSum_119 : decode cX4_readSum 119 = .ok (.goto (-110), 3) := by decide +kernel
theorem dX4_readSum_122 : decode cX4_readSum 122 = .ok (.iload_n 2, 1) := by decide +kernel
theorem dX4_readSum_123 : decode cX4_readSum 123 = .ok (.iconst (-1), 1) := by decide +kernel
theorem dX4_readSum_124 : decode cX4_readSum 124 = .ok (.if_icmp .eq 12, 3) := by decide +kernel
theorem dX4_readSum_127 : decode cX4_readSum 127 = .ok (.aload_n 0, 1) := by decide +kernel
theorem dX4_readSum_128 : decode cX4_readSum 128 = .ok (.getfield 25, 3) := by decide +kernel
theorem dX4_readSum_131 : decode cX4_readSum 131 = .ok (.iload_n 2, 1) := by decide +kernel
theorem dX4_readSum_132 : decode cX4_readSum 132 = .ok (.iconst 0, 1) := by decide +kernel
theorem dX4_readSum_133 : decode cX4_readSum 133 = .ok (.invokevirtual 110, 3) := by decide +kernel
theorem dX4_readSum_136 : decode cX4_readSum 136 = .ok (.return_, 1) := by decide +kernel
theorem dX4_readOne_0 : decode cX4_readOne 0 = .ok (.iload_n 1, 1) := by decide +kernel
theorem dX4_readOne_1 : decode cX4_readOne 1 = .ok (.istore_n 2, 1) := by decide +kernel
theorem dX4_readOne_2 : decode cX4_readOne 2 = .ok (.iload_n 2, 1) := by decide +kernel
theorem dX4_readOne_3 : decode cX4_readOne 3 = .ok (.bipush 8, 2) := by decide +kernel
theorem dX4_readOne_5 : decode cX4_readOne 5 = .ok (.if_icmp .ge 22, 3) := by decide +kernel
theorem dX4_readOne_8 : decode cX4_readOne 8 = .ok (.aload_n 0, 1) := by decide +kernel
theorem dX4_readOne_9 : decode cX4_readOne 9 = .ok (.getfield 45, 3) := by decide +kernel
theorem dX4_readOne_12 : decode cX4_readOne 12 = .ok (.bipush 29, 2) := by decide +kernel
theorem dX4_readOne_14 : decode cX4_readOne 14 = .ok (.if_icmp .ne 13, 3) := by decide +kernel
theorem dX4_readOne_17 : decode cX4_readOne 17 = .ok (.iinc 2 1, 3) := by decide +kernel
theorem dX4_readOne_20 : decode cX4_readOne 20 = .ok (.aload_n 0, 1) := by decide +kernel
theorem dX4_readOne_21 : decode cX4_readOne 21 = .ok (.invokevirtual 51, 3) := by decide +kernel
theorem dX4_readOne_24 : decode cX4_readOne 24 = .ok (.goto (-22), 3) := by decide +kernel
theorem dX4_readOne_27 : decode cX4_readOne 27 = .ok (.aload_n 0, 1) := by decide +kernel
theorem dX4_readOne_28 : decode cX4_readOne 28 = .ok (.getfield 45, 3) := by decide +kernel
theorem dX4_readOne_31 : decode cX4_readOne 31 = .ok (.istore_n 3, 1) := by decide +kernel
theorem dX4_readOne_32 : decode cX4_readOne 32 = .ok (.iload_n 3, 1) := by decide +kernel
theorem dX4_readOne_33 : decode cX4_readOne 33 = .ok (.bipush 38, 2) := by decide +kernel
theorem dX4_readOne_35 : decode cX4_readOne 35 = .ok (.if_icmp .ne 23, 3) := by decide +kernel
theorem dX4_readOne_38 : decode cX4_readOne 38 = .ok (.aload_n 0, 1) := by decide +kernel
theorem dX4_readOne_39 : decode cX4_readOne 39 = .ok (.getfield 25, 3) := by decide +kernel
theorem dX4_readOne_42 : decode cX4_readOne 42 = .ok (.bipush 38, 2) := by decide +kernel
theorem dX4_readOne_44 : decode cX4_readOne 44 = .ok (.aload_n 0, 1) := by decide +kernel
theorem dX4_readOne_45 : decode cX4_readOne 45 = .ok (.iconst 0, 1) := by decide +kernel
theorem dX4_readOne_46 : decode cX4_readOne 46 = .ok (.sipush 9999, 3) := by decide +kernel
theorem dX4_readOne_49 : decode cX4_readOne 49 = .ok (.invokevirtual 97, 3) := by decide +kernel
theorem dX4_readOne_52 : decode cX4_readOne 52 = .ok (.invokevirtual 110, 3) := by decide +kernel
theorem dX4_readOne_55 : decode cX4_readOne 55 = .ok (.goto 111, 3) := by decide +kernel
theorem dX4_readOne_58 : decode cX4_readOne 58 = .ok (.iload_n 3, 1) := by decide +kernel
theorem dX4_readOne_59 : decode cX4_readOne 59 = .ok (.bipush 12, 2) := by decide +kernel
theorem dX4_readOne_61 : decode cX4_readOne 61 = .ok (.if_icmp .ge 10, 3) := by decide +kernel
theorem dX4_readOne_64 : decode cX4_readOne 64 = .ok (.aload_n 0, 1) := by decide +kernel
theorem dX4_readOne_65 : decode cX4_readOne 65 = .ok (.invokevirtual 116, 3) := by decide +kernel
theorem dX4_readOne_68 : decode cX4_readOne 68 = .ok (.goto 98, 3) := by decide +kernel
theorem dX4_readOne_71 : decode cX4_readOne 71 = .ok (.iload_n 3, 1) := by decide +kernel
theorem dX4_readOne_72 : decode cX4_readOne 72 = .ok (.bipush 32, 2) := by decide +kernel
theorem dX4_readOne_74 : decode cX4_readOne 74 = .ok (.if_icmp .eq 15, 3) := by decide +kernel
theorem dX4_readOne_77 : decode cX4_readOne 77 = .ok (.iload_n 3, 1) := by decide +kernel
theorem dX4_readOne_78 : decode cX4_readOne 78 = .ok (.bipush 12, 2) := by decide +kernel
theorem dX4_readOne_80 : decode cX4_readOne 80 = .ok (.if_icmp .eq 9, 3) := by decide +kernel
theorem dX4_readOne_83 : decode cX4_readOne 83 = .ok (.iload_n 3, 1) := by decide +kernel
theorem dX4_readOne_84 : decode cX4_readOne 84 = .ok (.bipush 13, 2) := by decide +kernel
theorem dX4_readOne_86 : decode cX4_readOne 86 = .ok (.if_icmp .ne 65, 3) := by decide +kernel
theorem dX4_readOne_89 : decode cX4_readOne 89 = .ok (.iload_n 3, 1) := by decide +kernel
theorem dX4_readOne_90 : decode cX4_readOne 90 = .ok (.bipush 32, 2) := by decide +kernel
theorem dX4_readOne_92 : decode cX4_readOne 92 = .ok (.if_icmp .eq 7, 3) := by decide +kernel
theorem dX4_readOne_95 : decode cX4_readOne 95 = .ok (.aload_n 0, 1) := by decide +kernel
theorem dX4_readOne_96 : decode cX4_readOne 96 = .ok (.invokevirtual 51, 3) := by decide +kernel
theorem dX4_readOne_99 : decode cX4_readOne 99 = .ok (.aload_n 0, 1) := by decide +kernel
theorem dX4_readOne_100 : decode cX4_readOne 100 = .ok (.iload_n 2, 1) := by decide +kernel
theorem dX4_readOne_101 : decode cX4_readOne 101 = .ok (.invokevirtual 119, 3) := by decide +kernel
theorem dX4_readOne_104 : decode cX4_readOne 104 = .ok (.ifCond .eq 62, 3) := by decide +kernel
theorem dX4_readOne_107 : decode cX4_readOne 107 = .ok (.aload_n 0, 1) := by decide +kernel
theorem dX4_readOne_108 : decode cX4_readOne 108 = .ok (.iload_n 2, 1) := by decide +kernel
theorem dX4_readOne_109 : decode cX4_readOne 109 = .ok (.iconst 1, 1) := by decide +kernel
theorem dX4_readOne_110 : decode cX4_readOne 110 = .ok (.iadd, 1) := by decide +kernel
theorem dX4_readOne_111 : decode cX4_readOne 111 = .ok (.invokevirtual 88, 3) := by decide +kernel
theorem dX4_readOne_114 : decode cX4_readOne 114 = .ok (.iload_n 3, 1) := by decide +kernel
theorem dX4_readOne_115 : decode cX4_readOne 115 = .ok (.bipush 32, 2) := by decide +kernel
theorem dX4_readOne_117 : decode cX4_readOne 117 = .ok (.if_icmp .eq 25, 3) := by decide +kernel
theorem dX4_readOne_120 : decode cX4_readOne 120 = .ok (.aload_n 0, 1) := by decide +kernel
theorem dX4_readOne_121 : decode cX4_readOne 121 = .ok (.bipush 34, 2) := by decide +kernel
theorem dX4_readOne_123 : decode cX4_readOne 123 = .ok (.invokevirtual 94, 3) := by decide +kernel
theorem dX4_readOne_126 : decode cX4_readOne 126 = .ok (.aload_n 0, 1) := by decide +kernel
theorem dX4_readOne_127 : decode cX4_readOne 127 = .ok (.iload_n 2, 1) := by decide +kernel
theorem dX4_readOne_128 : decode cX4_readOne 128 = .ok (.iconst 1, 1) := by decide +kernel
theorem dX4_readOne_129 : decode cX4_readOne 129 = .ok (.iadd, 1) := by decide +kernel
theorem dX4_readOne_130 : decode cX4_readOne 130 = .ok (.invokevirtual 88, 3) := by decide +kernel
theorem dX4_readOne_133 : decode cX4_readOne 133 = .ok (.aload_n 0, 1) := by decide +kernel
theorem dX4_readOne_134 : decode cX4_readOne 134 = .ok (.getfield 25, 3) := by decide +kernel
theorem dX4_readOne_137 : decode cX4_readOne 137 = .ok (.iload_n 3, 1) := by decide +kernel
theorem dX4_readOne_138 : decode cX4_readOne 138 = .ok (.iconst 0, 1) := by decide +kernel
theorem dX4_readOne_139 : decode cX4_readOne 139 = .ok (.invokevirtual 110, 3) := by decide +kernel
theorem dX4_readOne_142 : decode cX4_readOne 142 = .ok (.aload_n 0, 1) := by decide +kernel
theorem dX4_readOne_143 : decode cX4_readOne 143 = .ok (.bipush 33, 2) := by decide +kernel
theorem dX4_readOne_145 : decode cX4_readOne 145 = .ok (.invokevirtual 94, 3) := by decide +kernel
theorem dX4_readOne_148 : decode cX4_readOne 148 = .ok (.goto 18, 3) := by decide +kernel
theorem dX4_readOne_151 : decode cX4_readOne 151 = .ok (.aload_n 0, 1) := by decide +kernel
theorem dX4_readOne_152 : decode cX4_readOne 152 = .ok (.iload_n 3, 1) := by decide +kernel
theorem dX4_readOne_153 : decode cX4_readOne 153 = .ok (.bipush 29, 2) := by decide +kernel
theorem dX4_readOne_155 : decode cX4_readOne 155 = .ok (.if_icmp .ne 7, 3) := by decide +kernel
theorem dX4_readOne_158 : decode cX4_readOne 158 = .ok (.iconst 3, 1) := by decide +kernel
theorem dX4_readOne_159 : decode cX4_readOne 159 = .ok (.goto 4, 3) := by decide +kernel
theorem dX4_readOne_162 : decode cX4_readOne 162 = .ok (.iconst 1, 1) := by decide +kernel
theorem dX4_readOne_163 : decode cX4_readOne 163 = .ok (.invokevirtual 54, 3) := by decide +kernel
theorem dX4_readOne_166 : decode cX4_readOne 166 = .ok (.iload_n 1, 1) := by decide +kernel
theorem dX4_readOne_167 : decode cX4_readOne 167 = .ok (.istore 4, 2) := by decide +kernel
theorem dX4_readOne_169 : decode cX4_readOne 169 = .ok (.iload 4, 2) := by decide +kernel
theorem dX4_readOne_171 : decode cX4_readOne 171 = .ok (.iload_n 2, 1) := by decide +kernel
theorem dX4_readOne_172 : decode cX4_readOne 172 = .ok (.if_icmp .ge 19, 3) := by decide +kernel
theorem dX4_readOne_175 : decode cX4_readOne 175 = .ok (.aload_n 0, 1) := by decide +kernel
theorem dX4_readOne_176 : decode cX4_readOne 176 = .ok (.getfield 25, 3) := by decide +kernel
theorem dX4_readOne_179 : decode cX4_readOne 179 = .ok (.bipush 42, 2) := by decide +kernel
theorem dX4_readOne_181 : decode cX4_readOne 181 = .ok (.iconst 0, 1) := by decide +kernel
theorem dX4_readOne_182 : decode cX4_readOne 182 = .ok (.invokevirtual 110, 3) := by decide +kernel
theorem dX4_readOne_185 : decode cX4_readOne 185 = .ok (.iinc 4 1, 3) := by decide +kernel
theorem dX4_readOne_188 : decode cX4_readOne 188 = .ok (.goto (-19), 3) := by decide +kernel
theorem dX4_readOne_191 : decode cX4_readOne 191 = .ok (.return_, 1) := by decide +kernel
theorem dX4_readName_0 : decode cX4_readName 0 = .ok (.aload_n 0, 1) := by decide +kernel
theorem dX4_readName_1 : decode cX4_readName 1 = .ok (.getfield 72, 3) := by decide +kernel
theorem dX4_readName_4 : decode cX4_readName 4 = .ok (.aload_n 0, 1) := by decide +kernel
theorem dX4_readName_5 : decode cX4_readName 5 = .ok (.getfield 45, 3) := by decide +kernel
theorem dX4_readName_8 : decode cX4_readName 8 = .ok (.iushr, 1) := by decide +kernel
theorem dX4_readName_9 : decode cX4_readName 9 = .ok (.iconst 1, 1) := by decide +kernel
theorem dX4_readName_10 : decode cX4_readName 10 = .ok (.iand, 1) := by decide +kernel
theorem dX4_readName_11 : decode cX4_readName 11 = .ok (.ifCond .ne 11, 3) := by decide +kernel
theorem dX4_readName_14 : decode cX4_readName 14 = .ok (.aload_n 0, 1) := by decide +kernel
theorem dX4_readName_15 : decode cX4_readName 15 = .ok (.iconst 5, 1) := by decide +kernel
theorem dX4_readName_16 : decode cX4_readName 16 = .ok (.invokevirtual 54, 3) := by decide +kernel
theorem dX4_readName_19 : decode cX4_readName 19 = .ok (.goto 20, 3) := by decide +kernel
theorem dX4_readName_22 : decode cX4_readName 22 = .ok (.aload_n 0, 1) := by decide +kernel
theorem dX4_readName_23 : decode cX4_readName 23 = .ok (.getfield 25, 3) := by decide +kernel
theorem dX4_readName_26 : decode cX4_readName 26 = .ok (.bipush 41, 2) := by decide +kernel
theorem dX4_readName_28 : decode cX4_readName 28 = .ok (.aload_n 0, 1) := by decide +kernel
theorem dX4_readName_29 : decode cX4_readName 29 = .ok (.getfield 45, 3) := by decide +kernel
theorem dX4_readName_32 : decode cX4_readName 32 = .ok (.invokevirtual 110, 3) := by decide +kernel
theorem dX4_readName_35 : decode cX4_readName 35 = .ok (.aload_n 0, 1) := by decide +kernel
theorem dX4_readName_36 : decode cX4_readName 36 = .ok (.invokevirtual 51, 3) := by decide +kernel
theorem dX4_readName_39 : decode cX4_readName 39 = .ok (.return_, 1) := by decide +kernel
theorem dX4_isOpened_0 : decode cX4_isOpened 0 = .ok (.aload_n 0, 1) := by decide +kernel
theorem dX4_isOpened_1 : decode cX4_isOpened 1 = .ok (.getfield 45, 3) := by decide +kernel
theorem dX4_isOpened_4 : decode cX4_isOpened 4 = .ok (.bipush 32, 2) := by decide +kernel
theorem dX4_isOpened_6 : decode cX4_isOpened 6 = .ok (.if_icmp .eq 11, 3) := by decide +kernel
theorem dX4_isOpened_9 : decode cX4_isOpened 9 = .ok (.aload_n 0, 1) := by decide +kernel
theorem dX4_isOpened_10 : decode cX4_isOpened 10 = .ok (.iconst 1, 1) := by decide +kernel
theorem dX4_isOpened_11 : decode cX4_isOpened 11 = .ok (.invokevirtual 54, 3) := by decide +kernel
theorem dX4_isOpened_14 : decode cX4_isOpened 14 = .ok (.goto 21, 3) := by decide +kernel
theorem dX4_isOpened_17 : decode cX4_isOpened 17 = .ok (.iload_n 1, 1) := by decide +kernel
theorem dX4_isOpened_18 : decode cX4_isOpened 18 = .ok (.bipush 8, 2) := by decide +kernel
theorem dX4_isOpened_20 : decode cX4_isOpened 20 = .ok (.if_icmp .lt 11, 3) := by decide +kernel
theorem dX4_isOpened_23 : decode cX4_isOpened 23 = .ok (.aload_n 0, 1) := by decide +kernel
theorem dX4_isOpened_24 : decode cX4_isOpened 24 = .ok (.iconst 3, 1) := by decide +kernel
theorem dX4_isOpened_25 : decode cX4_isOpened 25 = .ok (.invokevirtual 54, 3) := by decide +kernel
theorem dX4_isOpened_28 : decode cX4_isOpened 28 = .ok (.goto 7, 3) := by decide +kernel
theorem dX4_isOpened_31 : decode cX4_isOpened 31 = .ok (.aload_n 0, 1) := by decide +kernel
theorem dX4_isOpened_32 : decode cX4_isOpened 32 = .ok (.invokevirtual 51, 3) := by decide +kernel
theorem dX4_isOpened_35 : decode cX4_isOpened 35 = .ok (.aload_n 0, 1) := by decide +kernel
theorem dX4_isOpened_36 : decode cX4_isOpened 36 = .ok (.getfield 9, 3) := by decide +kernel
theorem dX4_isOpened_39 : decode cX4_isOpened 39 = .ok (.ifCond .ne 7, 3) := by decide +kernel
theorem dX4_isOpened_42 : decode cX4_isOpened 42 = .ok (.iconst 1, 1) := by decide +kernel
theorem dX4_isOpened_43 : decode cX4_isOpened 43 = .ok (.goto 4, 3) := by decide +kernel
theorem dX4_isOpened_46 : decode cX4_isOpened 46 = .ok (.iconst 0, 1) := by decide +kernel
theorem dX4_isOpened_47 : decode cX4_isOpened 47 = .ok (.ireturn, 1) := by decide +kernel
theorem dX5_init_0 : decode cX5_init 0 = .ok (.aload_n 0, 1) := by decide +kernel
theorem dX5_init_1 : decode cX5_init 1 = .ok (.invokespecial 3, 3) := by decide +kernel
theorem dX5_init_4 : decode cX5_init 4 = .ok (.aload_n 0, 1) := by decide +kernel
theorem dX5_init_5 : decode cX5_init 5 = .ok (.bipush 12, 2) := by decide +kernel
theorem dX5_init_7 : decode cX5_init 7 = .ok (.newarray .int, 2) := by decide +kernel
theorem dX5_init_9 : decode cX5_init 9 = .ok (.putfield 9, 3) := by decide +kernel
theorem dX5_init_12 : decode cX5_init 12 = .ok (.aload_n 0, 1) := by decide +kernel
theorem dX5_init_13 : decode cX5_init 13 = .ok (.bipush 64, 2) := by decide +kernel
theorem dX5_init_15 : decode cX5_init 15 = .ok (.newarray .int, 2) := by decide +kernel
theorem dX5_init_17 : decode cX5_init 17 = .ok (.putfield 15, 3) := by decide +kernel
theorem dX5_init_20 : decode cX5_init 20 = .ok (.return_, 1) := by decide +kernel
theorem dX5_holdNow_0 : decode cX5_holdNow 0 = .ok (.aload_n 3, 1) := by decide +kernel
theorem dX5_holdNow_1 : decode cX5_holdNow 1 = .ok (.ifnull 11, 3) := by decide +kernel
theorem dX5_holdNow_4 : decode cX5_holdNow 4 = .ok (.aload_n 3, 1) := by decide +kernel
theorem dX5_holdNow_5 : decode cX5_holdNow 5 = .ok (.getfield 18, 3) := by decide +kernel
theorem dX5_holdNow_8 : decode cX5_holdNow 8 = .ok (.iconst (-1), 1) := by decide +kernel
theorem dX5_holdNow_9 : decode cX5_holdNow 9 = .ok (.if_icmp .ne 10, 3) := by decide +kernel
theorem dX5_holdNow_12 : decode cX5_holdNow 12 = .ok (.aload_n 1, 1) := by decide +kernel
theorem dX5_holdNow_13 : decode cX5_holdNow 13 = .ok (.getfield 24, 3) := by decide +kernel
theorem dX5_holdNow_16 : decode cX5_holdNow 16 = .ok (.iload_n 2, 1) := by decide +kernel
theorem dX5_holdNow_17 : decode cX5_holdNow 17 = .ok (.iaload, 1) := by decide +kernel
theorem dX5_holdNow_18 : decode cX5_holdNow 18 = .ok (.ireturn, 1) := by decide +kernel
theorem dX5_holdNow_19 : decode cX5_holdNow 19 = .ok (.aload_n 0, 1) := by decide +kernel
theorem dX5_holdNow_20 : decode cX5_holdNow 20 = .ok (.aload_n 1, 1) := by decide +kernel
theorem dX5_holdNow_21 : decode cX5_holdNow 21 = .ok (.iload_n 2, 1) := by decide +kernel
theorem dX5_holdNow_22 : decode cX5_holdNow 22 = .ok (.invokevirtual 29, 3) := by decide +kernel
theorem dX5_holdNow_25 : decode cX5_holdNow 25 = .ok (.aload_n 0, 1) := by decide +kernel
theorem dX5_holdNow_26 : decode cX5_holdNow 26 = .ok (.aload_n 3, 1) := by decide +kernel
theorem dX5_holdNow_27 : decode cX5_holdNow 27 = .ok (.aload_n 3, 1) := by decide +kernel
theorem dX5_holdNow_28 : decode cX5_holdNow 28 = .ok (.getfield 18, 3) := by decide +kernel
theorem dX5_holdNow_31 : decode cX5_holdNow 31 = .ok (.invokevirtual 33, 3) := by decide +kernel
theorem dX5_holdNow_34 : decode cX5_holdNow 34 = .ok (.ireturn, 1) := by decide +kernel
theorem dX5_stepsBy_0 : decode cX5_stepsBy 0 = .ok (.aload 4, 2) := by decide +kernel
theorem dX5_stepsBy_2 : decode cX5_stepsBy 2 = .ok (.ifnull 16, 3) := by decide +kernel
theorem dX5_stepsBy_5 : decode cX5_stepsBy 5 = .ok (.aload 4, 2) := by decide +kernel
theorem dX5_stepsBy_7 : decode cX5_stepsBy 7 = .ok (.getfield 18, 3) := by decide +kernel
theorem dX5_stepsBy_10 : decode cX5_stepsBy 10 = .ok (.iconst (-1), 1) := by decide +kernel
theorem dX5_stepsBy_11 : decode cX5_stepsBy 11 = .ok (.if_icmp .eq 7, 3) := by decide +kernel
theorem dX5_stepsBy_14 : decode cX5_stepsBy 14 = .ok (.iconst 1, 1) := by decide +kernel
theorem dX5_stepsBy_15 : decode cX5_stepsBy 15 = .ok (.goto 4, 3) := by decide +kernel
theorem dX5_stepsBy_18 : decode cX5_stepsBy 18 = .ok (.iconst 0, 1) := by decide +kernel
theorem dX5_stepsBy_19 : decode cX5_stepsBy 19 = .ok (.istore 5, 2) := by decide +kernel
theorem dX5_stepsBy_21 : decode cX5_stepsBy 21 = .ok (.aload 4, 2) := by decide +kernel
theorem dX5_stepsBy_23 : decode cX5_stepsBy 23 = .ok (.ifnull 16, 3) := by decide +kernel
theorem dX5_stepsBy_26 : decode cX5_stepsBy 26 = .ok (.aload 4, 2) := by decide +kernel
theorem dX5_stepsBy_28 : decode cX5_stepsBy 28 = .ok (.getfield 37, 3) := by decide +kernel
theorem dX5_stepsBy_31 : decode cX5_stepsBy 31 = .ok (.iconst (-1), 1) := by decide +kernel
theorem dX5_stepsBy_32 : decode cX5_stepsBy 32 = .ok (.if_icmp .eq 7, 3) := by decide +kernel
theorem dX5_stepsBy_35 : decode cX5_stepsBy 35 = .ok (.iconst 1, 1) := by decide +kernel
theorem dX5_stepsBy_36 : decode cX5_stepsBy 36 = .ok (.goto 4, 3) := by decide +kernel
theorem dX5_stepsBy_39 : decode cX5_stepsBy 39 = .ok (.iconst 0, 1) := by decide +kernel
theorem dX5_stepsBy_40 : decode cX5_stepsBy 40 = .ok (.istore 6, 2) := by decide +kernel
theorem dX5_stepsBy_42 : decode cX5_stepsBy 42 = .ok (.iload 5, 2) := by decide +kernel
theorem dX5_stepsBy_44 : decode cX5_stepsBy 44 = .ok (.ifCond .ne 8, 3) := by decide +kernel
theorem dX5_stepsBy_47 : decode cX5_stepsBy 47 = .ok (.iload 6, 2) := by decide +kernel
theorem dX5_stepsBy_49 : decode cX5_stepsBy 49 = .ok (.ifCond .eq 9, 3) := by decide +kernel
theorem dX5_stepsBy_52 : decode cX5_stepsBy 52 = .ok (.aload_n 0, 1) := by decide +kernel
theorem dX5_stepsBy_53 : decode cX5_stepsBy 53 = .ok (.aload_n 1, 1) := by decide +kernel
theorem dX5_stepsBy_54 : decode cX5_stepsBy 54 = .ok (.iload_n 2, 1) := by decide +kernel
theorem dX5_stepsBy_55 : decode cX5_stepsBy 55 = .ok (.invokevirtual 29, 3) := by decide +kernel
theorem dX5_stepsBy_58 : decode cX5_stepsBy 58 = .ok (.iload_n 3, 1) := by decide +kernel
theorem dX5_stepsBy_59 : decode cX5_stepsBy 59 = .ok (.iload 5, 2) := by decide +kernel
theorem dX5_stepsBy_61 : decode cX5_stepsBy 61 = .ok (.ifCond .eq 17, 3) := by decide +kernel
theorem dX5_stepsBy_64 : decode cX5_stepsBy 64 = .ok (.aload_n 0, 1) := by decide +kernel
theorem dX5_stepsBy_65 : decode cX5_stepsBy 65 = .ok (.aload 4, 2) := by decide +kernel
theorem dX5_stepsBy_67 : decode cX5_stepsBy 67 = .ok (.aload 4, 2) := by decide +kernel
theorem dX5_stepsBy_69 : decode cX5_stepsBy 69 = .ok (.getfield 18, 3) := by decide +kernel
theorem dX5_stepsBy_72 : decode cX5_stepsBy 72 = .ok (.invokevirtual 33, 3) := by decide +kernel
theorem dX5_stepsBy_75 : decode cX5_stepsBy 75 = .ok (.goto 9, 3) := by decide +kernel
theorem dX5_stepsBy_78 : decode cX5_stepsBy 78 = .ok (.aload_n 1, 1) := by decide +kernel
theorem dX5_stepsBy_79 : decode cX5_stepsBy 79 = .ok (.getfield 24, 3) := by decide +kernel
theorem dX5_stepsBy_82 : decode cX5_stepsBy 82 = .ok (.iload_n 2, 1) := by decide +kernel
theorem dX5_stepsBy_83 : decode cX5_stepsBy 83 = .ok (.iaload, 1) := by decide +kernel
theorem dX5_stepsBy_84 : decode cX5_stepsBy 84 = .ok (.isub, 1) := by decide +kernel
theorem dX5_stepsBy_85 : decode cX5_stepsBy 85 = .ok (.istore 7, 2) := by decide +kernel
theorem dX5_stepsBy_87 : decode cX5_stepsBy 87 = .ok (.iload 7, 2) := by decide +kernel
theorem dX5_stepsBy_89 : decode cX5_stepsBy 89 = .ok (.ifCond .gt 5, 3) := by decide +kernel
theorem dX5_stepsBy_92 : decode cX5_stepsBy 92 = .ok (.iconst 0, 1) := by decide +kernel
theorem dX5_stepsBy_93 : decode cX5_stepsBy 93 = .ok (.ireturn, 1) := by decide +kernel
theorem dX5_stepsBy_94 : decode cX5_stepsBy 94 = .ok (.iload 6, 2) := by decide +kernel
theorem dX5_stepsBy_96 : decode cX5_stepsBy 96 = .ok (.ifCond .ne 16, 3) := by decide +kernel
theorem dX5_stepsBy_99 : decode cX5_stepsBy 99 = .ok (.bipush 9, 2) := by decide +kernel
theorem dX5_stepsBy_101 : decode cX5_stepsBy 101 = .ok (.iconst 1, 1) := by decide +kernel
theorem dX5_stepsBy_102 : decode cX5_stepsBy 102 = .ok (.iload 7, 2) := by decide +kernel
theorem dX5_stepsBy_104 : decode cX5_stepsBy 104 = .ok (.bipush 20, 2) := by decide +kernel
theorem dX5_stepsBy_106 : decode cX5_stepsBy 106 = .ok (.idiv, 1) := by decide +kernel
theorem dX5_stepsBy_107 : decode cX5_stepsBy 107 = .ok (.iadd, 1) := by decide +kernel
theorem dX5_stepsBy_108 : decode cX5_stepsBy 108 = .ok (.invokestatic 40, 3) := by decide +kernel
theorem dX5_stepsBy_111 : decode cX5_stepsBy 111 = .ok (.ireturn, 1) := by decide +kernel
theorem dX5_stepsBy_112 : decode cX5_stepsBy 112 = .ok (.aload_n 0, 1) := by decide +kernel
theorem dX5_stepsBy_113 : decode cX5_stepsBy 113 = .ok (.getfield 9, 3) := by decide +kernel
theorem dX5_stepsBy_116 : decode cX5_stepsBy 116 = .ok (.bipush 6, 2) := by decide +kernel
theorem dX5_stepsBy_118 : decode cX5_stepsBy 118 = .ok (.iload_n 3, 1) := by decide +kernel
theorem dX5_stepsBy_119 : decode cX5_stepsBy 119 = .ok (.iastore, 1) := by decide +kernel
theorem dX5_stepsBy_120 : decode cX5_stepsBy 120 = .ok (.aload_n 0, 1) := by decide +kernel
theorem dX5_stepsBy_121 : decode cX5_stepsBy 121 = .ok (.getfield 9, 3) := by decide +kernel
theorem dX5_stepsBy_124 : decode cX5_stepsBy 124 = .ok (.bipush 7, 2) := by decide +kernel
theorem dX5_stepsBy_126 : decode cX5_stepsBy 126 = .ok (.iload 7, 2) := by decide +kernel
theorem dX5_stepsBy_128 : decode cX5_stepsBy 128 = .ok (.iastore, 1) := by decide +kernel
theorem dX5_stepsBy_129 : decode cX5_stepsBy 129 = .ok (.iconst 0, 1) := by decide +kernel
theorem dX5_stepsBy_130 : decode cX5_stepsBy 130 = .ok (.bipush 9, 2) := by decide +kernel
theorem dX5_stepsBy_132 : decode cX5_stepsBy 132 = .ok (.aload_n 0, 1) := by decide +kernel
theorem dX5_stepsBy_133 : decode cX5_stepsBy 133 = .ok (.aload 4, 2) := by decide +kernel
theorem dX5_stepsBy_135 : decode cX5_stepsBy 135 = .ok (.aload 4, 2) := by decide +kernel
theorem dX5_stepsBy_137 : decode cX5_stepsBy 137 = .ok (.getfield 37, 3) := by decide +kernel
theorem dX5_stepsBy_140 : decode cX5_stepsBy 140 = .ok (.invokevirtual 33, 3) := by decide +kernel
theorem dX5_stepsBy_143 : decode cX5_stepsBy 143 = .ok (.invokestatic 40, 3) := by decide +kernel
theorem dX5_stepsBy_146 : decode cX5_stepsBy 146 = .ok (.invokestatic 46, 3) := by decide +kernel
theorem dX5_stepsBy_149 : decode cX5_stepsBy 149 = .ok (.ireturn, 1) := by decide +kernel
theorem dX5_isFound_0 : decode cX5_isFound 0 = .ok (.aload 4, 2) := by decide +kernel
theorem dX5_isFound_2 : decode cX5_isFound 2 = .ok (.ifnonnull 5, 3) := by decide +kernel
theorem dX5_isFound_5 : decode cX5_isFound 5 = .ok (.iconst 0, 1) := by decide +kernel
theorem dX5_isFound_6 : decode cX5_isFound 6 = .ok (.ireturn, 1) := by decide +kernel
theorem dX5_isFound_7 : decode cX5_isFound 7 = .ok (.aload_n 0, 1) := by decide +kernel
theorem dX5_isFound_8 : decode cX5_isFound 8 = .ok (.aload_n 1, 1) := by decide +kernel
theorem dX5_isFound_9 : decode cX5_isFound 9 = .ok (.iload_n 2, 1) := by decide +kernel
theorem dX5_isFound_10 : decode cX5_isFound 10 = .ok (.invokevirtual 29, 3) := by decide +kernel
theorem dX5_isFound_13 : decode cX5_isFound 13 = .ok (.aload_n 0, 1) := by decide +kernel
theorem dX5_isFound_14 : decode cX5_isFound 14 = .ok (.getfield 9, 3) := by decide +kernel
theorem dX5_isFound_17 : decode cX5_isFound 17 = .ok (.bipush 8, 2) := by decide +kernel
theorem dX5_isFound_19 : decode cX5_isFound 19 = .ok (.iload_n 3, 1) := by decide +kernel
theorem dX5_isFound_20 : decode cX5_isFound 20 = .ok (.iastore, 1) := by decide +kernel
theorem dX5_isFound_21 : decode cX5_isFound 21 = .ok (.iconst 0, 1) := by decide +kernel
theorem dX5_isFound_22 : decode cX5_isFound 22 = .ok (.istore 5, 2) := by decide +kernel
theorem dX5_isFound_24 : decode cX5_isFound 24 = .ok (.iload 5, 2) := by decide +kernel
theorem dX5_isFound_26 : decode cX5_isFound 26 = .ok (.aload 4, 2) := by decide +kernel
theorem dX5_isFound_28 : decode cX5_isFound 28 = .ok (.getfield 49, 3) := by decide +kernel
theorem dX5_isFound_31 : decode cX5_isFound 31 = .ok (.if_icmp .ge 42, 3) := by decide +kernel
theorem dX5_isFound_34 : decode cX5_isFound 34 = .ok (.iload 5, 2) := by decide +kernel
theorem dX5_isFound_36 : decode cX5_isFound 36 = .ok (.bipush 20, 2) := by decide +kernel
theorem dX5_isFound_38 : decode cX5_isFound 38 = .ok (.if_icmp .ge 35, 3) := by decide +kernel
theorem dX5_isFound_41 : decode cX5_isFound 41 = .ok (.aload 4, 2) := by decide +kernel
theorem dX5_isFound_43 : decode cX5_isFound 43 = .ok (.getfield 52, 3) := by decide +kernel
theorem dX5_isFound_46 : decode cX5_isFound 46 = .ok (.iload 5, 2) := by decide +kernel
theorem dX5_isFound_48 : decode cX5_isFound 48 = .ok (.iaload, 1) := by decide +kernel
theorem dX5_isFound_49 : decode cX5_isFound 49 = .ok (.bipush 21, 2) := by decide +kernel
theorem dX5_isFound_51 : decode cX5_isFound 51 = .ok (.if_icmp .ne 16, 3) := by decide +kernel
theorem dX5_isFound_54 : decode cX5_isFound 54 = .ok (.aload_n 0, 1) := by decide +kernel
theorem dX5_isFound_55 : decode cX5_isFound 55 = .ok (.aload 4, 2) := by decide +kernel
theorem dX5_isFound_57 : decode cX5_isFound 57 = .ok (.iload 5, 2) := by decide +kernel
theorem dX5_isFound_59 : decode cX5_isFound 59 = .ok (.invokevirtual 33, 3) := by decide +kernel
theorem dX5_isFound_62 : decode cX5_isFound 62 = .ok (.ifCond .eq 5, 3) := by decide +kernel
theorem dX5_isFound_65 : decode cX5_isFound 65 = .ok (.iconst 1, 1) := by decide +kernel
theorem dX5_isFound_66 : decode cX5_isFound 66 = .ok (.ireturn, 1) := by decide +kernel
theorem dX5_isFound_67 : decode cX5_isFound 67 = .ok (.iinc 5 1, 3) := by decide +kernel
theorem dX5_isFound_70 : decode cX5_isFound 70 = .ok (.goto (-46), 3) := by decide +kernel
theorem dX5_isFound_73 : decode cX5_isFound 73 = .ok (.iconst 0, 1) := by decide +kernel
theorem dX5_isFound_74 : decode cX5_isFound 74 = .ok (.ireturn, 1) := by decide +kernel
theorem dX5_harvest_0 : decode cX5_harvest 0 = .ok (.aload_n 1, 1) := by decide +kernel
theorem dX5_harvest_1 : decode cX5_harvest 1 = .ok (.getfield 55, 3) := by decide +kernel
theorem dX5_harvest_4 : decode cX5_harvest 4 = .ok (.aload_n 1, 1) := by decide +kernel
theorem dX5_harvest_5 : decode cX5_harvest 5 = .ok (.getfield 58, 3) := by decide +kernel
theorem dX5_harvest_8 : decode cX5_harvest 8 = .ok (.iload_n 2, 1) := by decide +kernel
theorem dX5_harvest_9 : decode cX5_harvest 9 = .ok (.iaload, 1) := by decide +kernel
theorem dX5_harvest_10 : decode cX5_harvest 10 = .ok (.isub, 1) := by decide +kernel
theorem dX5_harvest_11 : decode cX5_harvest 11 = .ok (.istore 6, 2) := by decide +kernel
theorem dX5_harvest_13 : decode cX5_harvest 13 = .ok (.aload 5, 2) := by decide +kernel
theorem dX5_harvest_15 : decode cX5_harvest 15 = .ok (.ifnull 12, 3) := by decide +kernel
theorem dX5_harvest_18 : decode cX5_harvest 18 = .ok (.aload 5, 2) := by decide +kernel
theorem dX5_harvest_20 : decode cX5_harvest 20 = .ok (.getfield 61, 3) := by decide +kernel
theorem dX5_harvest_23 : decode cX5_harvest 23 = .ok (.iconst (-1), 1) := by decide +kernel
theorem dX5_harvest_24 : decode cX5_harvest 24 = .ok (.if_icmp .ne 12, 3) := by decide +kernel
theorem dX5_harvest_27 : decode cX5_harvest 27 = .ok (.sipush 999, 3) := by decide +kernel
theorem dX5_harvest_30 : decode cX5_harvest 30 = .ok (.iload 6, 2) := by decide +kernel
theorem dX5_harvest_32 : decode cX5_harvest 32 = .ok (.invokestatic 40, 3) := by decide +kernel
theorem dX5_harvest_35 : decode cX5_harvest 35 = .ok (.ireturn, 1) := by decide +kernel
theorem dX5_harvest_36 : decode cX5_harvest 36 = .ok (.aload_n 0, 1) := by decide +kernel
theorem dX5_harvest_37 : decode cX5_harvest 37 = .ok (.getfield 9, 3) := by decide +kernel
theorem dX5_harvest_40 : decode cX5_harvest 40 = .ok (.bipush 9, 2) := by decide +kernel
theorem dX5_harvest_42 : decode cX5_harvest 42 = .ok (.iload 6, 2) := by decide +kernel
theorem dX5_harvest_44 : decode cX5_harvest 44 = .ok (.iastore, 1) := by decide +kernel
theorem dX5_harvest_45 : decode cX5_harvest 45 = .ok (.aload_n 0, 1) := by decide +kernel
theorem dX5_harvest_46 : decode cX5_harvest 46 = .ok (.getfield 9, 3) := by decide +kernel
theorem dX5_harvest_49 : decode cX5_harvest 49 = .ok (.iconst 3, 1) := by decide +kernel
theorem dX5_harvest_50 : decode cX5_harvest 50 = .ok (.iload_n 2, 1) := by decide +kernel
theorem dX5_harvest_51 : decode cX5_harvest 51 = .ok (.aload_n 1, 1) := by decide +kernel
theorem dX5_harvest_52 : decode cX5_harvest 52 = .ok (.getfield 64, 3) := by decide +kernel
theorem dX5_harvest_55 : decode cX5_harvest 55 = .ok (.getfield 68, 3) := by decide +kernel
theorem dX5_harvest_58 : decode cX5_harvest 58 = .ok (.irem, 1) := by decide +kernel
theorem dX5_harvest_59 : decode cX5_harvest 59 = .ok (.iastore, 1) := by decide +kernel
theorem dX5_harvest_60 : decode cX5_harvest 60 = .ok (.aload_n 0, 1) := by decide +kernel
theorem dX5_harvest_61 : decode cX5_harvest 61 = .ok (.getfield 9, 3) := by decide +kernel
theorem dX5_harvest_64 : decode cX5_harvest 64 = .ok (.iconst 4, 1) := by decide +kernel
theorem dX5_harvest_65 : decode cX5_harvest 65 = .ok (.iload_n 2, 1) := by decide +kernel
theorem dX5_harvest_66 : decode cX5_harvest 66 = .ok (.aload_n 1, 1) := by decide +kernel
theorem dX5_harvest_67 : decode cX5_harvest 67 = .ok (.getfield 64, 3) := by decide +kernel
theorem dX5_harvest_70 : decode cX5_harvest 70 = .ok (.getfield 68, 3) := by decide +kernel
theorem dX5_harvest_73 : decode cX5_harvest 73 = .ok (.idiv, 1) := by decide +kernel
theorem dX5_harvest_74 : decode cX5_harvest 74 = .ok (.iastore, 1) := by decide +kernel
theorem dX5_harvest_75 : decode cX5_harvest 75 = .ok (.aload_n 0, 1) := by decide +kernel
theorem dX5_harvest_76 : decode cX5_harvest 76 = .ok (.getfield 9, 3) := by decide +kernel
theorem dX5_harvest_79 : decode cX5_harvest 79 = .ok (.bipush 10, 2) := by decide +kernel
theorem dX5_harvest_81 : decode cX5_harvest 81 = .ok (.lload_n 3, 1) := by decide +kernel
theorem dX5_harvest_82 : decode cX5_harvest 82 = .ok (.invokestatic 73, 3) := by decide +kernel
theorem dX5_harvest_85 : decode cX5_harvest 85 = .ok (.iastore, 1) := by decide +kernel
theorem dX5_harvest_86 : decode cX5_harvest 86 = .ok (.aload_n 0, 1) := by decide +kernel
theorem dX5_harvest_87 : decode cX5_harvest 87 = .ok (.getfield 9, 3) := by decide +kernel
theorem dX5_harvest_90 : decode cX5_harvest 90 = .ok (.bipush 11, 2) := by decide +kernel
theorem dX5_harvest_92 : decode cX5_harvest 92 = .ok (.lload_n 3, 1) := by decide +kernel
theorem dX5_harvest_93 : decode cX5_harvest 93 = .ok (.aload_n 1, 1) := by decide +kernel
theorem dX5_harvest_94 : decode cX5_harvest 94 = .ok (.getfield 79, 3) := by decide +kernel
theorem dX5_harvest_97 : decode cX5_harvest 97 = .ok (.land, 1) := by decide +kernel
theorem dX5_harvest_98 : decode cX5_harvest 98 = .ok (.invokestatic 73, 3) := by decide +kernel
theorem dX5_harvest_101 : decode cX5_harvest 101 = .ok (.iastore, 1) := by decide +kernel
theorem dX5_harvest_102 : decode cX5_harvest 102 = .ok (.iconst 0, 1) := by decide +kernel
theorem dX5_harvest_103 : decode cX5_harvest 103 = .ok (.sipush 999, 3) := by decide +kernel
theorem dX5_harvest_106 : decode cX5_harvest 106 = .ok (.aload_n 0, 1) := by decide +kernel
theorem dX5_harvest_107 : decode cX5_harvest 107 = .ok (.aload 5, 2) := by decide +kernel
theorem dX5_harvest_109 : decode cX5_harvest 109 = .ok (.aload 5, 2) := by decide +kernel
theorem dX5_harvest_111 : decode cX5_harvest 111 = .ok (.getfield 61, 3) := by decide +kernel
theorem dX5_harvest_114 : decode cX5_harvest 114 = .ok (.invokevirtual 33, 3) := by decide +kernel
theorem dX5_harvest_117 : decode cX5_harvest 117 = .ok (.invokestatic 40, 3) := by decide +kernel
theorem dX5_harvest_120 : decode cX5_harvest 120 = .ok (.invokestatic 46, 3) := by decide +kernel
theorem dX5_harvest_123 : decode cX5_harvest 123 = .ok (.ireturn, 1) := by decide +kernel
theorem dX5_nameBone_0 : decode cX5_nameBone 0 = .ok (.aload_n 1, 1) := by decide +kernel
theorem dX5_nameBone_1 : decode cX5_nameBone 1 = .ok (.getfield 83, 3) := by decide +kernel
theorem dX5_nameBone_4 : decode cX5_nameBone 4 = .ok (.iload_n 2, 1) := by decide +kernel
theorem dX5_nameBone_5 : decode cX5_nameBone 5 = .ok (.iaload, 1) := by decide +kernel
theorem dX5_nameBone_6 : decode cX5_nameBone 6 = .ok (.istore_n 3, 1) := by decide +kernel
theorem dX5_nameBone_7 : decode cX5_nameBone 7 = .ok (.aload_n 0, 1) := by decide +kernel
theorem dX5_nameBone_8 : decode cX5_nameBone 8 = .ok (.getfield 9, 3) := by decide +kernel
theorem dX5_nameBone_11 : decode cX5_nameBone 11 = .ok (.iconst 0, 1) := by decide +kernel
theorem dX5_nameBone_12 : decode cX5_nameBone 12 = .ok (.aload_n 1, 1) := by decide +kernel
theorem dX5_nameBone_13 : decode cX5_nameBone 13 = .ok (.getfield 24, 3) := by decide +kernel
theorem dX5_nameBone_16 : decode cX5_nameBone 16 = .ok (.iload_n 2, 1) := by decide +kernel
theorem dX5_nameBone_17 : decode cX5_nameBone 17 = .ok (.iaload, 1) := by decide +kernel
theorem dX5_nameBone_18 : decode cX5_nameBone 18 = .ok (.iastore, 1) := by decide +kernel
theorem dX5_nameBone_19 : decode cX5_nameBone 19 = .ok (.aload_n 0, 1) := by decide +kernel
theorem dX5_nameBone_20 : decode cX5_nameBone 20 = .ok (.getfield 9, 3) := by decide +kernel
theorem dX5_nameBone_23 : decode cX5_nameBone 23 = .ok (.iconst 1, 1) := by decide +kernel
theorem dX5_nameBone_24 : decode cX5_nameBone 24 = .ok (.aload_n 1, 1) := by decide +kernel
theorem dX5_nameBone_25 : decode cX5_nameBone 25 = .ok (.getfield 86, 3) := by decide +kernel
theorem dX5_nameBone_28 : decode cX5_nameBone 28 = .ok (.iload_n 2, 1) := by decide +kernel
theorem dX5_nameBone_29 : decode cX5_nameBone 29 = .ok (.iaload, 1) := by decide +kernel
theorem dX5_nameBone_30 : decode cX5_nameBone 30 = .ok (.iastore, 1) := by decide +kernel
theorem dX5_nameBone_31 : decode cX5_nameBone 31 = .ok (.aload_n 0, 1) := by decide +kernel
theorem dX5_nameBone_32 : decode cX5_nameBone 32 = .ok (.getfield 9, 3) := by decide +kernel
theorem dX5_nameBone_35 : decode cX5_nameBone 35 = .ok (.iconst 2, 1) := by decide +kernel
theorem dX5_nameBone_36 : decode cX5_nameBone 36 = .ok (.aload_n 1, 1) := by decide +kernel
theorem dX5_nameBone_37 : decode cX5_nameBone 37 = .ok (.getfield 64, 3) := by decide +kernel
theorem dX5_nameBone_40 : decode cX5_nameBone 40 = .ok (.getfield 89, 3) := by decide +kernel
theorem dX5_nameBone_43 : decode cX5_nameBone 43 = .ok (.iload_n 3, 1) := by decide +kernel
theorem dX5_nameBone_44 : decode cX5_nameBone 44 = .ok (.laload, 1) := by decide +kernel
theorem dX5_nameBone_45 : decode cX5_nameBone 45 = .ok (.aload_n 1, 1) := by decide +kernel
theorem dX5_nameBone_46 : decode cX5_nameBone 46 = .ok (.getfield 93, 3) := by decide +kernel
theorem dX5_nameBone_49 : decode cX5_nameBone 49 = .ok (.land, 1) := by decide +kernel
theorem dX5_nameBone_50 : decode cX5_nameBone 50 = .ok (.invokestatic 73, 3) := by decide +kernel
theorem dX5_nameBone_53 : decode cX5_nameBone 53 = .ok (.iastore, 1) := by decide +kernel
theorem dX5_nameBone_54 : decode cX5_nameBone 54 = .ok (.aload_n 0, 1) := by decide +kernel
theorem dX5_nameBone_55 : decode cX5_nameBone 55 = .ok (.getfield 9, 3) := by decide +kernel
theorem dX5_nameBone_58 : decode cX5_nameBone 58 = .ok (.iconst 3, 1) := by decide +kernel
theorem dX5_nameBone_59 : decode cX5_nameBone 59 = .ok (.iload_n 3, 1) := by decide +kernel
theorem dX5_nameBone_60 : decode cX5_nameBone 60 = .ok (.aload_n 1, 1) := by decide +kernel
theorem dX5_nameBone_61 : decode cX5_nameBone 61 = .ok (.getfield 64, 3) := by decide +kernel
theorem dX5_nameBone_64 : decode cX5_nameBone 64 = .ok (.getfield 68, 3) := by decide +kernel
theorem dX5_nameBone_67 : decode cX5_nameBone 67 = .ok (.irem, 1) := by decide +kernel
theorem dX5_nameBone_68 : decode cX5_nameBone 68 = .ok (.iastore, 1) := by decide +kernel
theorem dX5_nameBone_69 : decode cX5_nameBone 69 = .ok (.aload_n 0, 1) := by decide +kernel
theorem dX5_nameBone_70 : decode cX5_nameBone 70 = .ok (.getfield 9, 3) := by decide +kernel
theorem dX5_nameBone_73 : decode cX5_nameBone 73 = .ok (.iconst 4, 1) := by decide +kernel
theorem dX5_nameBone_74 : decode cX5_nameBone 74 = .ok (.iload_n 3, 1) := by decide +kernel
theorem dX5_nameBone_75 : decode cX5_nameBone 75 = .ok (.aload_n 1, 1) := by decide +kernel
theorem dX5_nameBone_76 : decode cX5_nameBone 76 = .ok (.getfield 64, 3) := by decide +kernel
theorem dX5_nameBone_79 : decode cX5_nameBone 79 = .ok (.getfield 68, 3) := by decide +kernel
theorem dX5_nameBone_82 : decode cX5_nameBone 82 = .ok (.idiv, 1) := by decide +kernel
theorem dX5_nameBone_83 : decode cX5_nameBone 83 = .ok (.iastore, 1) := by decide +kernel
theorem dX5_nameBone_84 : decode cX5_nameBone 84 = .ok (.aload_n 0, 1) := by decide +kernel
theorem dX5_nameBone_85 : decode cX5_nameBone 85 = .ok (.getfield 9, 3) := by decide +kernel
theorem dX5_nameBone_88 : decode cX5_nameBone 88 = .ok (.iconst 5, 1) := by decide +kernel
theorem dX5_nameBone_89 : decode cX5_nameBone 89 = .ok (.aload_n 1, 1) := by decide +kernel
theorem dX5_nameBone_90 : decode cX5_nameBone 90 = .ok (.getfield 55, 3) := by decide +kernel
theorem dX5_nameBone_93 : decode cX5_nameBone 93 = .ok (.bipush 24, 2) := by decide +kernel
theorem dX5_nameBone_95 : decode cX5_nameBone 95 = .ok (.irem, 1) := by decide +kernel
theorem dX5_nameBone_96 : decode cX5_nameBone 96 = .ok (.iastore, 1) := by decide +kernel
theorem dX5_nameBone_97 : decode cX5_nameBone 97 = .ok (.return_, 1) := by decide +kernel
theorem dX5_value_0 : decode cX5_value 0 = .ok (.iconst 0, 1) := by decide +kernel
theorem dX5_value_1 : decode cX5_value 1 = .ok (.istore_n 3, 1) := by decide +kernel
theorem dX5_value_2 : decode cX5_value 2 = .ok (.aload_n 1, 1) := by decide +kernel
theorem dX5_value_3 : decode cX5_value 3 = .ok (.getfield 96, 3) := by decide +kernel
theorem dX5_value_6 : decode cX5_value 6 = .ok (.aload_n 1, 1) := by decide +kernel
theorem dX5_value_7 : decode cX5_value 7 = .ok (.getfield 99, 3) := by decide +kernel
theorem dX5_value_10 : decode cX5_value 10 = .ok (.iload_n 2, 1) := by decide +kernel
theorem dX5_value_11 : decode cX5_value 11 = .ok (.iaload, 1) := by decide +kernel
theorem dX5_value_12 : decode cX5_value 12 = .ok (.invokestatic 40, 3) := by decide +kernel
theorem dX5_value_15 : decode cX5_value 15 = .ok (.istore 4, 2) := by decide +kernel
theorem dX5_value_17 : decode cX5_value 17 = .ok (.aload_n 1, 1) := by decide +kernel
theorem dX5_value_18 : decode cX5_value 18 = .ok (.getfield 102, 3) := by decide +kernel
theorem dX5_value_21 : decode cX5_value 21 = .ok (.iload_n 2, 1) := by decide +kernel
theorem dX5_value_22 : decode cX5_value 22 = .ok (.iaload, 1) := by decide +kernel
theorem dX5_value_23 : decode cX5_value 23 = .ok (.istore 5, 2) := by decide +kernel
theorem dX5_value_25 : decode cX5_value 25 = .ok (.iload 5, 2) := by decide +kernel
theorem dX5_value_27 : decode cX5_value 27 = .ok (.iload 4, 2) := by decide +kernel
theorem dX5_value_29 : decode cX5_value 29 = .ok (.if_icmp .ge 224, 3) := by decide +kernel
theorem dX5_value_32 : decode cX5_value 32 = .ok (.aload_n 1, 1) := by decide +kernel
theorem dX5_value_33 : decode cX5_value 33 = .ok (.getfield 105, 3) := by decide +kernel
theorem dX5_value_36 : decode cX5_value 36 = .ok (.iload 5, 2) := by decide +kernel
theorem dX5_value_38 : decode cX5_value 38 = .ok (.iaload, 1) := by decide +kernel
theorem dX5_value_39 : decode cX5_value 39 = .ok (.bipush 63, 2) := by decide +kernel
theorem dX5_value_41 : decode cX5_value 41 = .ok (.iand, 1) := by decide +kernel
theorem dX5_value_42 : decode cX5_value 42 = .ok (.istore 6, 2) := by decide +kernel
theorem dX5_value_44 : decode cX5_value 44 = .ok (.aload_n 1, 1) := by decide +kernel
theorem dX5_value_45 : decode cX5_value 45 = .ok (.getfield 105, 3) := by decide +kernel
theorem dX5_value_48 : decode cX5_value 48 = .ok (.iload 5, 2) := by decide +kernel
theorem dX5_value_50 : decode cX5_value 50 = .ok (.iaload, 1) := by decide +kernel
theorem dX5_value_51 : decode cX5_value 51 = .ok (.bipush 6, 2) := by decide +kernel
theorem dX5_value_53 : decode cX5_value 53 = .ok (.iushr, 1) := by decide +kernel
theorem dX5_value_54 : decode cX5_value 54 = .ok (.istore 7, 2) := by decide +kernel
theorem dX5_value_56 : decode cX5_value 56 = .ok (.iload 6, 2) := by decide +kernel
theorem dX5_value_58 : decode cX5_value 58 = .ok (.bipush 38, 2) := by decide +kernel
theorem dX5_value_60 : decode cX5_value 60 = .ok (.if_icmp .eq 10, 3) := by decide +kernel
theorem dX5_value_63 : decode cX5_value 63 = .ok (.iload 6, 2) := by decide +kernel
theorem dX5_value_65 : decode cX5_value 65 = .ok (.bipush 41, 2) := by decide +kernel
theorem dX5_value_67 : decode cX5_value 67 = .ok (.if_icmp .ne 51, 3) := by decide +kernel
theorem dX5_value_70 : decode cX5_value 70 = .ok (.iload_n 3, 1) := by decide +kernel
theorem dX5_value_71 : decode cX5_value 71 = .ok (.bipush 64, 2) := by decide +kernel
theorem dX5_value_73 : decode cX5_value 73 = .ok (.if_icmp .ge 174, 3) := by decide +kernel
theorem dX5_value_76 : decode cX5_value 76 = .ok (.aload_n 0, 1) := by decide +kernel
theorem dX5_value_77 : decode cX5_value 77 = .ok (.getfield 15, 3) := by decide +kernel
theorem dX5_value_80 : decode cX5_value 80 = .ok (.iload_n 3, 1) := by decide +kernel
theorem dX5_value_81 : decode cX5_value 81 = .ok (.iload 6, 2) := by decide +kernel
theorem dX5_value_83 : decode cX5_value 83 = .ok (.bipush 38, 2) := by decide +kernel
theorem dX5_value_85 : decode cX5_value 85 = .ok (.if_icmp .ne 8, 3) := by decide +kernel
theorem dX5_value_88 : decode cX5_value 88 = .ok (.iload 7, 2) := by decide +kernel
theorem dX5_value_90 : decode cX5_value 90 = .ok (.goto 21, 3) := by decide +kernel
theorem dX5_value_93 : decode cX5_value 93 = .ok (.iload 7, 2) := by decide +kernel
theorem dX5_value_95 : decode cX5_value 95 = .ok (.bipush 12, 2) := by decide +kernel
theorem dX5_value_97 : decode cX5_value 97 = .ok (.if_icmp .ge 13, 3) := by decide +kernel
theorem dX5_value_100 : decode cX5_value 100 = .ok (.aload_n 0, 1) := by decide +kernel
theorem dX5_value_101 : decode cX5_value 101 = .ok (.getfield 9, 3) := by decide +kernel
theorem dX5_value_104 : decode cX5_value 104 = .ok (.iload 7, 2) := by decide +kernel
theorem dX5_value_106 : decode cX5_value 106 = .ok (.iaload, 1) := by decide +kernel
theorem dX5_value_107 : decode cX5_value 107 = .ok (.goto 4, 3) := by decide +kernel
theorem dX5_value_110 : decode cX5_value 110 = .ok (.iconst 0, 1) := by decide +kernel
theorem dX5_value_111 : decode cX5_value 111 = .ok (.iastore, 1) := by decide +kernel
theorem dX5_value_112 : decode cX5_value 112 = .ok (.iinc 3 1, 3) := by decide +kernel
theorem dX5_value_115 : decode cX5_value 115 = .ok (.goto 132, 3) := by decide +kernel
theorem dX5_value_118 : decode cX5_value 118 = .ok (.iload 6, 2) := by decide +kernel
theorem dX5_value_120 : decode cX5_value 120 = .ok (.bipush 42, 2) := by decide +kernel
theorem dX5_value_122 : decode cX5_value 122 = .ok (.if_icmp .eq 10, 3) := by decide +kernel
theorem dX5_value_125 : decode cX5_value 125 = .ok (.iload 6, 2) := by decide +kernel
theorem dX5_value_127 : decode cX5_value 127 = .ok (.bipush 14, 2) := by decide +kernel
theorem dX5_value_129 : decode cX5_value 129 = .ok (.if_icmp .ne 48, 3) := by decide +kernel
theorem dX5_value_132 : decode cX5_value 132 = .ok (.iload_n 3, 1) := by decide +kernel
theorem dX5_value_133 : decode cX5_value 133 = .ok (.iconst 1, 1) := by decide +kernel
theorem dX5_value_134 : decode cX5_value 134 = .ok (.if_icmp .lt 113, 3) := by decide +kernel
theorem dX5_value_137 : decode cX5_value 137 = .ok (.aload_n 0, 1) := by decide +kernel
theorem dX5_value_138 : decode cX5_value 138 = .ok (.getfield 15, 3) := by decide +kernel
theorem dX5_value_141 : decode cX5_value 141 = .ok (.iload_n 3, 1) := by decide +kernel
theorem dX5_value_142 : decode cX5_value 142 = .ok (.iconst 1, 1) := by decide +kernel
theorem dX5_value_143 : decode cX5_value 143 = .ok (.isub, 1) := by decide +kernel
theorem dX5_value_144 : decode cX5_value 144 = .ok (.iload 6, 2) := by decide +kernel
theorem dX5_value_146 : decode cX5_value 146 = .ok (.bipush 42, 2) := by decide +kernel
theorem dX5_value_148 : decode cX5_value 148 = .ok (.if_icmp .ne 15, 3) := by decide +kernel
theorem dX5_value_151 : decode cX5_value 151 = .ok (.aload_n 0, 1) := by decide +kernel
theorem dX5_value_152 : decode cX5_value 152 = .ok (.getfield 15, 3) := by decide +kernel
theorem dX5_value_155 : decode cX5_value 155 = .ok (.iload_n 3, 1) := by decide +kernel
theorem dX5_value_156 : decode cX5_value 156 = .ok (.iconst 1, 1) := by decide +kernel
theorem dX5_value_157 : decode cX5_value 157 = .ok (.isub, 1) := by decide +kernel
theorem dX5_value_158 : decode cX5_value 158 = .ok (.iaload, 1) := by decide +kernel
theorem dX5_value_159 : decode cX5_value 159 = .ok (.ineg, 1) := by decide +kernel
theorem dX5_value_160 : decode cX5_value 160 = .ok (.goto 13, 3) := by decide +kernel
theorem dX5_value_163 : decode cX5_value 163 = .ok (.iconst 1, 1) := by decide +kernel
theorem dX5_value_164 : decode cX5_value 164 = .ok (.aload_n 0, 1) := by decide +kernel
theorem dX5_value_165 : decode cX5_value 165 = .ok (.getfield 15, 3) := by decide +kernel
theorem dX5_value_168 : decode cX5_value 168 = .ok (.iload_n 3, 1) := by decide +kernel
theorem dX5_value_169 : decode cX5_value 169 = .ok (.iconst 1, 1) := by decide +kernel
theorem dX5_value_170 : decode cX5_value 170 = .ok (.isub, 1) := by decide +kernel
theorem dX5_value_171 : decode cX5_value 171 = .ok (.iaload, 1) := by decide +kernel
theorem dX5_value_172 : decode cX5_value 172 = .ok (.isub, 1) := by decide +kernel
theorem dX5_value_173 : decode cX5_value 173 = .ok (.iastore, 1) := by decide +kernel
theorem dX5_value_174 : decode cX5_value 174 = .ok (.goto 73, 3) := by decide +kernel
theorem dX5_value_177 : decode cX5_value 177 = .ok (.iload_n 3, 1) := by decide +kernel
theorem dX5_value_178 : decode cX5_value 178 = .ok (.iconst 2, 1) := by decide +kernel
theorem dX5_value_179 : decode cX5_value 179 = .ok (.if_icmp .lt 68, 3) := by decide +kernel
theorem dX5_value_182 : decode cX5_value 182 = .ok (.iinc 3 (-1), 3) := by decide +kernel
theorem dX5_value_185 : decode cX5_value 185 = .ok (.aload_n 0, 1) := by decide +kernel
theorem dX5_value_186 : decode cX5_value 186 = .ok (.getfield 15, 3) := by decide +kernel
theorem dX5_value_189 : decode cX5_value 189 = .ok (.iload_n 3, 1) := by decide +kernel
theorem dX5_value_190 : decode cX5_value 190 = .ok (.iconst 1, 1) := by decide +kernel
theorem dX5_value_191 : decode cX5_value 191 = .ok (.isub, 1) := by decide +kernel
theorem dX5_value_192 : decode cX5_value 192 = .ok (.iload 6, 2) := by decide +kernel
theorem dX5_value_194 : decode cX5_value 194 = .ok (.invokestatic 108, 3) := by decide +kernel
theorem dX5_value_197 : decode cX5_value 197 = .ok (.ifCond .eq 30, 3) := by decide +kernel
theorem dX5_value_200 : decode cX5_value 200 = .ok (.iload 6, 2) := by decide +kernel
theorem dX5_value_202 : decode cX5_value 202 = .ok (.aload_n 0, 1) := by decide +kernel
theorem dX5_value_203 : decode cX5_value 203 = .ok (.getfield 15, 3) := by decide +kernel
theorem dX5_value_206 : decode cX5_value 206 = .ok (.iload_n 3, 1) := by decide +kernel
theorem dX5_value_207 : decode cX5_value 207 = .ok (.iconst 1, 1) := by decide +kernel
theorem dX5_value_208 : decode cX5_value 208 = .ok (.isub, 1) := by decide +kernel
theorem dX5_value_209 : decode cX5_value 209 = .ok (.iaload, 1) := by decide +kernel
theorem dX5_value_210 : decode cX5_value 210 = .ok (.i2l, 1) := by decide +kernel
theorem dX5_value_211 : decode cX5_value 211 = .ok (.aload_n 0, 1) := by decide +kernel
theorem dX5_value_212 : decode cX5_value 212 = .ok (.getfield 15, 3) := by decide +kernel
theorem dX5_value_215 : decode cX5_value 215 = .ok (.iload_n 3, 1) := by decide +kernel
theorem dX5_value_216 : decode cX5_value 216 = .ok (.iaload, 1) := by decide +kernel
theorem dX5_value_217 : decode cX5_value 217 = .ok (.i2l, 1) := by decide +kernel
theorem dX5_value_218 : decode cX5_value 218 = .ok (.invokestatic 112, 3) := by decide +kernel
theorem dX5_value_221 : decode cX5_value 221 = .ok (.invokestatic 116, 3) := by decide +kernel
theorem dX5_value_224 : decode cX5_value 224 = .ok (.goto 22, 3) := by decide +kernel
theorem dX5_value_227 : decode cX5_value 227 = .ok (.iload 6, 2) := by decide +kernel
theorem dX5_value_229 : decode cX5_value 229 = .ok (.aload_n 0, 1) := by decide +kernel
theorem dX5_value_230 : decode cX5_value 230 = .ok (.getfield 15, 3) := by decide +kernel
theorem dX5_value_233 : decode cX5_value 233 = .ok (.iload_n 3, 1) := by decide +kernel
theorem dX5_value_234 : decode cX5_value 234 = .ok (.iconst 1, 1) := by decide +kernel
theorem dX5_value_235 : decode cX5_value 235 = .ok (.isub, 1) := by decide +kernel
theorem dX5_value_236 : decode cX5_value 236 = .ok (.iaload, 1) := by decide +kernel
theorem dX5_value_237 : decode cX5_value 237 = .ok (.aload_n 0, 1) := by decide +kernel
theorem dX5_value_238 : decode cX5_value 238 = .ok (.getfield 15, 3) := by decide +kernel
theorem dX5_value_241 : decode cX5_value 241 = .ok (.iload_n 3, 1) := by decide +kernel
theorem dX5_value_242 : decode cX5_value 242 = .ok (.iaload, 1) := by decide +kernel
theorem dX5_value_243 : decode cX5_value 243 = .ok (.invokestatic 119, 3) := by decide +kernel
theorem dX5_value_246 : decode cX5_value 246 = .ok (.iastore, 1) := by decide +kernel
theorem dX5_value_247 : decode cX5_value 247 = .ok (.iinc 5 1, 3) := by decide +kernel
theorem dX5_value_250 : decode cX5_value 250 = .ok (.goto (-225), 3) := by decide +kernel
theorem dX5_value_253 : decode cX5_value 253 = .ok (.iload_n 3, 1) := by decide +kernel
theorem dX5_value_254 : decode cX5_value 254 = .ok (.ifCond .le 12, 3) := by decide +kernel
theorem dX5_value_257 : decode cX5_value 257 = .ok (.aload_n 0, 1) := by decide +kernel
theorem dX5_value_258 : decode cX5_value 258 = .ok (.getfield 15, 3) := by decide +kernel
theorem dX5_value_261 : decode cX5_value 261 = .ok (.iconst 0, 1) := by decide +kernel
theorem dX5_value_262 : decode cX5_value 262 = .ok (.iaload, 1) := by decide +kernel
theorem dX5_value_263 : decode cX5_value 263 = .ok (.goto 4, 3) := by decide +kernel
theorem dX5_value_266 : decode cX5_value 266 = .ok (.iconst 0, 1) := by decide +kernel
theorem dX5_value_267 : decode cX5_value 267 = .ok (.ireturn, 1) := by decide +kernel
theorem dX5_isStep_0 : decode cX5_isStep 0 = .ok (.iload_n 0, 1) := by decide +kernel
theorem dX5_isStep_1 : decode cX5_isStep 1 = .ok (.bipush 28, 2) := by decide +kernel
theorem dX5_isStep_3 : decode cX5_isStep 3 = .ok (.if_icmp .lt 13, 3) := by decide +kernel
theorem dX5_isStep_6 : decode cX5_isStep 6 = .ok (.iload_n 0, 1) := by decide +kernel
theorem dX5_isStep_7 : decode cX5_isStep 7 = .ok (.bipush 31, 2) := by decide +kernel
theorem dX5_isStep_9 : decode cX5_isStep 9 = .ok (.if_icmp .gt 7, 3) := by decide +kernel
theorem dX5_isStep_12 : decode cX5_isStep 12 = .ok (.iconst 1, 1) := by decide +kernel
theorem dX5_isStep_13 : decode cX5_isStep 13 = .ok (.goto 4, 3) := by decide +kernel
theorem dX5_isStep_16 : decode cX5_isStep 16 = .ok (.iconst 0, 1) := by decide +kernel
theorem dX5_isStep_17 : decode cX5_isStep 17 = .ok (.ireturn, 1) := by decide +kernel
theorem dX5_cut_0 : decode cX5_cut 0 = .ok (.ldc2_w 123, 3) := by decide +kernel
theorem dX5_cut_3 : decode cX5_cut 3 = .ok (.ldc2_w 125, 3) := by decide +kernel
theorem dX5_cut_6 : decode cX5_cut 6 = .ok (.lload_n 0, 1) := by decide +kernel
theorem dX5_cut_7 : decode cX5_cut 7 = .ok (.invokestatic 127, 3) := by decide +kernel
theorem dX5_cut_10 : decode cX5_cut 10 = .ok (.invokestatic 130, 3) := by decide +kernel
theorem dX5_cut_13 : decode cX5_cut 13 = .ok (.l2i, 1) := by decide +kernel
theorem dX5_cut_14 : decode cX5_cut 14 = .ok (.ireturn, 1) := by decide +kernel
theorem dX5_stepped_0 : decode cX5_stepped 0 = .ok (.iload_n 0, 1) := by decide +kernel
theorem dX5_stepped_1 : decode cX5_stepped 1 = .ok (.tableswitch 39 28 30 #[27, 31, 35], 27) := by decide +kernel
theorem dX5_stepped_28 : decode cX5_stepped 28 = .ok (.lload_n 1, 1) := by decide +kernel
theorem dX5_stepped_29 : decode cX5_stepped 29 = .ok (.lload_n 3, 1) := by decide +kernel
theorem dX5_stepped_30 : decode cX5_stepped 30 = .ok (.ladd, 1) := by decide +kernel
theorem dX5_stepped_31 : decode cX5_stepped 31 = .ok (.lreturn, 1) := by decide +kernel
theorem dX5_stepped_32 : decode cX5_stepped 32 = .ok (.lload_n 1, 1) := by decide +kernel
theorem dX5_stepped_33 : decode cX5_stepped 33 = .ok (.lload_n 3, 1) := by decide +kernel
theorem dX5_stepped_34 : decode cX5_stepped 34 = .ok (.lsub, 1) := by decide +kernel
theorem dX5_stepped_35 : decode cX5_stepped 35 = .ok (.lreturn, 1) := by decide +kernel
theorem dX5_stepped_36 : decode cX5_stepped 36 = .ok (.lload_n 1, 1) := by decide +kernel
theorem dX5_stepped_37 : decode cX5_stepped 37 = .ok (.lload_n 3, 1) := by decide +kernel
theorem dX5_stepped_38 : decode cX5_stepped 38 = .ok (.lmul, 1) := by decide +kernel
theorem dX5_stepped_39 : decode cX5_stepped 39 = .ok (.lreturn, 1) := by decide +kernel
theorem dX5_stepped_40 : decode cX5_stepped 40 = .ok (.lload_n 3, 1) := by decide +kernel
theorem dX5_stepped_41 : decode cX5_stepped 41 = .ok (.lconst 0, 1) := by decide +kernel
theorem dX5_stepped_42 : decode cX5_stepped 42 = .ok (.lcmp, 1) := by decide +kernel
theorem dX5_stepped_43 : decode cX5_stepped 43 = .ok (.ifCond .ne 7, 3) := by decide +kernel
theorem dX5_stepped_46 : decode cX5_stepped 46 = .ok (.lconst 0, 1) := by decide +kernel
theorem dX5_stepped_47 : decode cX5_stepped 47 = .ok (.goto 6, 3) := by decide +kernel
theorem dX5_stepped_50 : decode cX5_stepped 50 = .ok (.lload_n 1, 1) := by decide +kernel
theorem dX5_stepped_51 : decode cX5_stepped 51 = .ok (.lload_n 3, 1) := by decide +kernel
theorem dX5_stepped_52 : decode cX5_stepped 52 = .ok (.ldiv, 1) := by decide +kernel
theorem dX5_stepped_53 : decode cX5_stepped 53 = .ok (.lreturn, 1) := by decide +kernel
theorem dX5_joined_0 : decode cX5_joined 0 = .ok (.iload_n 0, 1) := by decide +kernel
theorem dX5_joined_1 : decode cX5_joined 1 = .ok (.tableswitch 205 12 37 #[119, 125, 205, 197, 201, 205, 205, 205, 205, 205, 205, 205, 131, 153, 175, 186, 205, 205, 205, 205, 205, 205, 205, 205, 142, 164], 119) := by decide +kernel
theorem dX5_joined_120 : decode cX5_joined 120 = .ok (.iload_n 1, 1) := by decide +kernel
theorem dX5_joined_121 : decode cX5_joined 121 = .ok (.iload_n 2, 1) := by decide +kernel
theorem dX5_joined_122 : decode cX5_joined 122 = .ok (.invokestatic 40, 3) := by decide +kernel
theorem dX5_joined_125 : decode cX5_joined 125 = .ok (.ireturn, 1) := by decide +kernel
theorem dX5_joined_126 : decode cX5_joined 126 = .ok (.iload_n 1, 1) := by decide +kernel
theorem dX5_joined_127 : decode cX5_joined 127 = .ok (.iload_n 2, 1) := by decide +kernel
theorem dX5_joined_128 : decode cX5_joined 128 = .ok (.invokestatic 46, 3) := by decide +kernel
theorem dX5_joined_131 : decode cX5_joined 131 = .ok (.ireturn, 1) := by decide +kernel
theorem dX5_joined_132 : decode cX5_joined 132 = .ok (.iload_n 1, 1) := by decide +kernel
theorem dX5_joined_133 : decode cX5_joined 133 = .ok (.iload_n 2, 1) := by decide +kernel
theorem dX5_joined_134 : decode cX5_joined 134 = .ok (.if_icmp .ge 7, 3) := by decide +kernel
theorem dX5_joined_137 : decode cX5_joined 137 = .ok (.iconst 1, 1) := by decide +kernel
theorem dX5_joined_138 : decode cX5_joined 138 = .ok (.goto 4, 3) := by decide +kernel
theorem dX5_joined_141 : decode cX5_joined 141 = .ok (.iconst 0, 1) := by decide +kernel
theorem dX5_joined_142 : decode cX5_joined 142 = .ok (.ireturn, 1) := by decide +kernel
theorem dX5_joined_143 : decode cX5_joined 143 = .ok (.iload_n 1, 1) := by decide +kernel
theorem dX5_joined_144 : decode cX5_joined 144 = .ok (.iload_n 2, 1) := by decide +kernel
theorem dX5_joined_145 : decode cX5_joined 145 = .ok (.if_icmp .gt 7, 3) := by decide +kernel
theorem dX5_joined_148 : decode cX5_joined 148 = .ok (.iconst 1, 1) := by decide +kernel
theorem dX5_joined_149 : decode cX5_joined 149 = .ok (.goto 4, 3) := by decide +kernel
theorem dX5_joined_152 : decode cX5_joined 152 = .ok (.iconst 0, 1) := by decide +kernel
theorem dX5_joined_153 : decode cX5_joined 153 = .ok (.ireturn, 1) := by decide +kernel
theorem dX5_joined_154 : decode cX5_joined 154 = .ok (.iload_n 1, 1) := by decide +kernel
theorem dX5_joined_155 : decode cX5_joined 155 = .ok (.iload_n 2, 1) := by decide +kernel
theorem dX5_joined_156 : decode cX5_joined 156 = .ok (.if_icmp .le 7, 3) := by decide +kernel
theorem dX5_joined_159 : decode cX5_joined 159 = .ok (.iconst 1, 1) := by decide +kernel
theorem dX5_joined_160 : decode cX5_joined 160 = .ok (.goto 4, 3) := by decide +kernel
theorem dX5_joined_163 : decode cX5_joined 163 = .ok (.iconst 0, 1) := by decide +kernel
theorem dX5_joined_164 : decode cX5_joined 164 = .ok (.ireturn, 1) := by decide +kernel
theorem dX5_joined_165 : decode cX5_joined 165 = .ok (.iload_n 1, 1) := by decide +kernel
theorem dX5_joined_166 : decode cX5_joined 166 = .ok (.iload_n 2, 1) := by decide +kernel
theorem dX5_joined_167 : decode cX5_joined 167 = .ok (.if_icmp .lt 7, 3) := by decide +kernel
theorem dX5_joined_170 : decode cX5_joined 170 = .ok (.iconst 1, 1) := by decide +kernel
theorem dX5_joined_171 : decode cX5_joined 171 = .ok (.goto 4, 3) := by decide +kernel
theorem dX5_joined_174 : decode cX5_joined 174 = .ok (.iconst 0, 1) := by decide +kernel
theorem dX5_joined_175 : decode cX5_joined 175 = .ok (.ireturn, 1) := by decide +kernel
theorem dX5_joined_176 : decode cX5_joined 176 = .ok (.iload_n 1, 1) := by decide +kernel
theorem dX5_joined_177 : decode cX5_joined 177 = .ok (.iload_n 2, 1) := by decide +kernel
theorem dX5_joined_178 : decode cX5_joined 178 = .ok (.if_icmp .ne 7, 3) := by decide +kernel
theorem dX5_joined_181 : decode cX5_joined 181 = .ok (.iconst 1, 1) := by decide +kernel
theorem dX5_joined_182 : decode cX5_joined 182 = .ok (.goto 4, 3) := by decide +kernel
theorem dX5_joined_185 : decode cX5_joined 185 = .ok (.iconst 0, 1) := by decide +kernel
theorem dX5_joined_186 : decode cX5_joined 186 = .ok (.ireturn, 1) := by decide +kernel
theorem dX5_joined_187 : decode cX5_joined 187 = .ok (.iload_n 1, 1) := by decide +kernel
theorem dX5_joined_188 : decode cX5_joined 188 = .ok (.iload_n 2, 1) := by decide +kernel
theorem dX5_joined_189 : decode cX5_joined 189 = .ok (.if_icmp .eq 7, 3) := by decide +kernel
theorem dX5_joined_192 : decode cX5_joined 192 = .ok (.iconst 1, 1) := by decide +kernel
theorem dX5_joined_193 : decode cX5_joined 193 = .ok (.goto 4, 3) := by decide +kernel
theorem dX5_joined_196 : decode cX5_joined 196 = .ok (.iconst 0, 1) := by decide +kernel
theorem dX5_joined_197 : decode cX5_joined 197 = .ok (.ireturn, 1) := by decide +kernel
theorem dX5_joined_198 : decode cX5_joined 198 = .ok (.iload_n 1, 1) := by decide +kernel
theorem dX5_joined_199 : decode cX5_joined 199 = .ok (.iload_n 2, 1) := by decide +kernel
theorem dX5_joined_200 : decode cX5_joined 200 = .ok (.iand, 1) := by decide +kernel
theorem dX5_joined_201 : decode cX5_joined 201 = .ok (.ireturn, 1) := by decide +kernel
theorem dX5_joined_202 : decode cX5_joined 202 = .ok (.iload_n 1, 1) := by decide +kernel
theorem dX5_joined_203 : decode cX5_joined 203 = .ok (.iload_n 2, 1) := by decide +kernel
theorem dX5_joined_204 : decode cX5_joined 204 = .ok (.ior, 1) := by decide +kernel
theorem dX5_joined_205 : decode cX5_joined 205 = .ok (.ireturn, 1) := by decide +kernel
theorem dX5_joined_206 : decode cX5_joined 206 = .ok (.iconst 0, 1) := by decide +kernel
theorem dX5_joined_207 : decode cX5_joined 207 = .ok (.ireturn, 1) := by decide +kernel
theorem dX6_init_0 : decode cX6_init 0 = .ok (.aload_n 0, 1) := by decide +kernel
theorem dX6_init_1 : decode cX6_init 1 = .ok (.invokespecial 3, 3) := by decide +kernel
theorem dX6_init_4 : decode cX6_init 4 = .ok (.aload_n 0, 1) := by decide +kernel
theorem dX6_init_5 : decode cX6_init 5 = .ok (.sipush 300, 3) := by decide +kernel
theorem dX6_init_8 : decode cX6_init 8 = .ok (.newarray .int, 2) := by decide +kernel
theorem dX6_init_10 : decode cX6_init 10 = .ok (.putfield 9, 3) := by decide +kernel
theorem dX6_init_13 : decode cX6_init 13 = .ok (.return_, 1) := by decide +kernel
theorem dX6_add_0 : decode cX6_add 0 = .ok (.bipush 24, 2) := by decide +kernel
theorem dX6_add_2 : decode cX6_add 2 = .ok (.istore_n 2, 1) := by decide +kernel
theorem dX6_add_3 : decode cX6_add 3 = .ok (.iload_n 2, 1) := by decide +kernel
theorem dX6_add_4 : decode cX6_add 4 = .ok (.ifCond .lt 45, 3) := by decide +kernel
theorem dX6_add_7 : decode cX6_add 7 = .ok (.aload_n 0, 1) := by decide +kernel
theorem dX6_add_8 : decode cX6_add 8 = .ok (.getfield 15, 3) := by decide +kernel
theorem dX6_add_11 : decode cX6_add 11 = .ok (.sipush 300, 3) := by decide +kernel
theorem dX6_add_14 : decode cX6_add 14 = .ok (.if_icmp .ge 35, 3) := by decide +kernel
theorem dX6_add_17 : decode cX6_add 17 = .ok (.aload_n 0, 1) := by decide +kernel
theorem dX6_add_18 : decode cX6_add 18 = .ok (.getfield 9, 3) := by decide +kernel
theorem dX6_add_21 : decode cX6_add 21 = .ok (.aload_n 0, 1) := by decide +kernel
theorem dX6_add_22 : decode cX6_add 22 = .ok (.getfield 15, 3) := by decide +kernel
theorem dX6_add_25 : decode cX6_add 25 = .ok (.iload_n 1, 1) := by decide +kernel
theorem dX6_add_26 : decode cX6_add 26 = .ok (.iload_n 2, 1) := by decide +kernel
theorem dX6_add_27 : decode cX6_add 27 = .ok (.iushr, 1) := by decide +kernel
theorem dX6_add_28 : decode cX6_add 28 = .ok (.sipush 255, 3) := by decide +kernel
theorem dX6_add_31 : decode cX6_add 31 = .ok (.iand, 1) := by decide +kernel
theorem dX6_add_32 : decode cX6_add 32 = .ok (.iastore, 1) := by decide +kernel
theorem dX6_add_33 : decode cX6_add 33 = .ok (.aload_n 0, 1) := by decide +kernel
theorem dX6_add_34 : decode cX6_add 34 = .ok (.dup, 1) := by decide +kernel
theorem dX6_add_35 : decode cX6_add 35 = .ok (.getfield 15, 3) := by decide +kernel
theorem dX6_add_38 : decode cX6_add 38 = .ok (.iconst 1, 1) := by decide +kernel
theorem dX6_add_39 : decode cX6_add 39 = .ok (.iadd, 1) := by decide +kernel
theorem dX6_add_40 : decode cX6_add 40 = .ok (.putfield 15, 3) := by decide +kernel
theorem dX6_add_43 : decode cX6_add 43 = .ok (.iinc 2 (-8), 3) := by decide +kernel
theorem dX6_add_46 : decode cX6_add 46 = .ok (.goto (-43), 3) := by decide +kernel
theorem dX6_add_49 : decode cX6_add 49 = .ok (.return_, 1) := by decide +kernel
theorem dX7_init_0 : decode cX7_init 0 = .ok (.aload_n 0, 1) := by decide +kernel
theorem dX7_init_1 : decode cX7_init 1 = .ok (.invokespecial 3, 3) := by decide +kernel
theorem dX7_init_4 : decode cX7_init 4 = .ok (.aload_n 0, 1) := by decide +kernel
theorem dX7_init_5 : decode cX7_init 5 = .ok (.bipush 20, 2) := by decide +kernel
theorem dX7_init_7 : decode cX7_init 7 = .ok (.newarray .int, 2) := by decide +kernel
theorem dX7_init_9 : decode cX7_init 9 = .ok (.putfield 9, 3) := by decide +kernel
theorem dX7_init_12 : decode cX7_init 12 = .ok (.aload_n 0, 1) := by decide +kernel
theorem dX7_init_13 : decode cX7_init 13 = .ok (.bipush 20, 2) := by decide +kernel
theorem dX7_init_15 : decode cX7_init 15 = .ok (.newarray .int, 2) := by decide +kernel
theorem dX7_init_17 : decode cX7_init 17 = .ok (.putfield 15, 3) := by decide +kernel
theorem dX7_init_20 : decode cX7_init 20 = .ok (.aload_n 0, 1) := by decide +kernel
theorem dX7_init_21 : decode cX7_init 21 = .ok (.bipush 20, 2) := by decide +kernel
theorem dX7_init_23 : decode cX7_init 23 = .ok (.newarray .int, 2) := by decide +kernel
theorem dX7_init_25 : decode cX7_init 25 = .ok (.putfield 18, 3) := by decide +kernel
theorem dX7_init_28 : decode cX7_init 28 = .ok (.aload_n 0, 1) := by decide +kernel
theorem dX7_init_29 : decode cX7_init 29 = .ok (.bipush 20, 2) := by decide +kernel
theorem dX7_init_31 : decode cX7_init 31 = .ok (.newarray .int, 2) := by decide +kernel
theorem dX7_init_33 : decode cX7_init 33 = .ok (.putfield 21, 3) := by decide +kernel
theorem dX7_init_36 : decode cX7_init 36 = .ok (.aload_n 0, 1) := by decide +kernel
theorem dX7_init_37 : decode cX7_init 37 = .ok (.sipush 300, 3) := by decide +kernel
theorem dX7_init_40 : decode cX7_init 40 = .ok (.newarray .int, 2) := by decide +kernel
theorem dX7_init_42 : decode cX7_init 42 = .ok (.putfield 24, 3) := by decide +kernel
theorem dX7_init_45 : decode cX7_init 45 = .ok (.return_, 1) := by decide +kernel
theorem dX7_empty_0 : decode cX7_empty 0 = .ok (.aload_n 0, 1) := by decide +kernel
theorem dX7_empty_1 : decode cX7_empty 1 = .ok (.iconst 0, 1) := by decide +kernel
theorem dX7_empty_2 : decode cX7_empty 2 = .ok (.putfield 27, 3) := by decide +kernel
theorem dX7_empty_5 : decode cX7_empty 5 = .ok (.aload_n 0, 1) := by decide +kernel
theorem dX7_empty_6 : decode cX7_empty 6 = .ok (.iconst 0, 1) := by decide +kernel
theorem dX7_empty_7 : decode cX7_empty 7 = .ok (.putfield 31, 3) := by decide +kernel
theorem dX7_empty_10 : decode cX7_empty 10 = .ok (.aload_n 0, 1) := by decide +kernel
theorem dX7_empty_11 : decode cX7_empty 11 = .ok (.iconst (-1), 1) := by decide +kernel
theorem dX7_empty_12 : decode cX7_empty 12 = .ok (.putfield 34, 3) := by decide +kernel
theorem dX7_empty_15 : decode cX7_empty 15 = .ok (.aload_n 0, 1) := by decide +kernel
theorem dX7_empty_16 : decode cX7_empty 16 = .ok (.iconst (-1), 1) := by decide +kernel
theorem dX7_empty_17 : decode cX7_empty 17 = .ok (.putfield 37, 3) := by decide +kernel
theorem dX7_empty_20 : decode cX7_empty 20 = .ok (.aload_n 0, 1) := by decide +kernel
theorem dX7_empty_21 : decode cX7_empty 21 = .ok (.iconst (-1), 1) := by decide +kernel
theorem dX7_empty_22 : decode cX7_empty 22 = .ok (.putfield 40, 3) := by decide +kernel
theorem dX7_empty_25 : decode cX7_empty 25 = .ok (.return_, 1) := by decide +kernel
theorem dX7_put_0 : decode cX7_put 0 = .ok (.aload_n 0, 1) := by decide +kernel
theorem dX7_put_1 : decode cX7_put 1 = .ok (.getfield 31, 3) := by decide +kernel
theorem dX7_put_4 : decode cX7_put 4 = .ok (.sipush 300, 3) := by decide +kernel
theorem dX7_put_7 : decode cX7_put 7 = .ok (.if_icmp .ge 28, 3) := by decide +kernel
theorem dX7_put_10 : decode cX7_put 10 = .ok (.aload_n 0, 1) := by decide +kernel
theorem dX7_put_11 : decode cX7_put 11 = .ok (.getfield 24, 3) := by decide +kernel
theorem dX7_put_14 : decode cX7_put 14 = .ok (.aload_n 0, 1) := by decide +kernel
theorem dX7_put_15 : decode cX7_put 15 = .ok (.getfield 31, 3) := by decide +kernel
theorem dX7_put_18 : decode cX7_put 18 = .ok (.iload_n 2, 1) := by decide +kernel
theorem dX7_put_19 : decode cX7_put 19 = .ok (.bipush 6, 2) := by decide +kernel
theorem dX7_put_21 : decode cX7_put 21 = .ok (.ishl, 1) := by decide +kernel
theorem dX7_put_22 : decode cX7_put 22 = .ok (.iload_n 1, 1) := by decide +kernel
theorem dX7_put_23 : decode cX7_put 23 = .ok (.ior, 1) := by decide +kernel
theorem dX7_put_24 : decode cX7_put 24 = .ok (.iastore, 1) := by decide +kernel
theorem dX7_put_25 : decode cX7_put 25 = .ok (.aload_n 0, 1) := by decide +kernel
theorem dX7_put_26 : decode cX7_put 26 = .ok (.dup, 1) := by decide +kernel
theorem dX7_put_27 : decode cX7_put 27 = .ok (.getfield 31, 3) := by decide +kernel
theorem dX7_put_30 : decode cX7_put 30 = .ok (.iconst 1, 1) := by decide +kernel
theorem dX7_put_31 : decode cX7_put 31 = .ok (.iadd, 1) := by decide +kernel
theorem dX7_put_32 : decode cX7_put 32 = .ok (.putfield 31, 3) := by decide +kernel
theorem dX7_put_35 : decode cX7_put 35 = .ok (.return_, 1) := by decide +kernel
theorem dX7_has_0 : decode cX7_has 0 = .ok (.iload_n 1, 1) := by decide +kernel
theorem dX7_has_1 : decode cX7_has 1 = .ok (.bipush 18, 2) := by decide +kernel
theorem dX7_has_3 : decode cX7_has 3 = .ok (.if_icmp .ne 11, 3) := by decide +kernel
theorem dX7_has_6 : decode cX7_has 6 = .ok (.aload_n 0, 1) := by decide +kernel
theorem dX7_has_7 : decode cX7_has 7 = .ok (.getfield 34, 3) := by decide +kernel
theorem dX7_has_10 : decode cX7_has 10 = .ok (.iconst (-1), 1) := by decide +kernel
theorem dX7_has_11 : decode cX7_has 11 = .ok (.if_icmp .ne 31, 3) := by decide +kernel
theorem dX7_has_14 : decode cX7_has 14 = .ok (.iload_n 1, 1) := by decide +kernel
theorem dX7_has_15 : decode cX7_has 15 = .ok (.bipush 19, 2) := by decide +kernel
theorem dX7_has_17 : decode cX7_has 17 = .ok (.if_icmp .ne 11, 3) := by decide +kernel
theorem dX7_has_20 : decode cX7_has 20 = .ok (.aload_n 0, 1) := by decide +kernel
theorem dX7_has_21 : decode cX7_has 21 = .ok (.getfield 37, 3) := by decide +kernel
theorem dX7_has_24 : decode cX7_has 24 = .ok (.iconst (-1), 1) := by decide +kernel
theorem dX7_has_25 : decode cX7_has 25 = .ok (.if_icmp .ne 17, 3) := by decide +kernel
theorem dX7_has_28 : decode cX7_has 28 = .ok (.iload_n 1, 1) := by decide +kernel
theorem dX7_has_29 : decode cX7_has 29 = .ok (.bipush 20, 2) := by decide +kernel
theorem dX7_has_31 : decode cX7_has 31 = .ok (.if_icmp .ne 15, 3) := by decide +kernel
theorem dX7_has_34 : decode cX7_has 34 = .ok (.aload_n 0, 1) := by decide +kernel
theorem dX7_has_35 : decode cX7_has 35 = .ok (.getfield 40, 3) := by decide +kernel
theorem dX7_has_38 : decode cX7_has 38 = .ok (.iconst (-1), 1) := by decide +kernel
theorem dX7_has_39 : decode cX7_has 39 = .ok (.if_icmp .eq 7, 3) := by decide +kernel
theorem dX7_has_42 : decode cX7_has 42 = .ok (.iconst 1, 1) := by decide +kernel
theorem dX7_has_43 : decode cX7_has 43 = .ok (.goto 4, 3) := by decide +kernel
theorem dX7_has_46 : decode cX7_has 46 = .ok (.iconst 0, 1) := by decide +kernel
theorem dX7_has_47 : decode cX7_has 47 = .ok (.ireturn, 1) := by decide +kernel
theorem dX7_addClause_0 : decode cX7_addClause 0 = .ok (.aload_n 0, 1) := by decide +kernel
theorem dX7_addClause_1 : decode cX7_addClause 1 = .ok (.getfield 27, 3) := by decide +kernel
theorem dX7_addClause_4 : decode cX7_addClause 4 = .ok (.bipush 20, 2) := by decide +kernel
theorem dX7_addClause_6 : decode cX7_addClause 6 = .ok (.if_icmp .lt 5, 3) := by decide +kernel
theorem dX7_addClause_9 : decode cX7_addClause 9 = .ok (.iconst (-1), 1) := by decide +kernel
theorem dX7_addClause_10 : decode cX7_addClause 10 = .ok (.ireturn, 1) := by decide +kernel
theorem dX7_addClause_11 : decode cX7_addClause 11 = .ok (.aload_n 0, 1) := by decide +kernel
theorem dX7_addClause_12 : decode cX7_addClause 12 = .ok (.getfield 27, 3) := by decide +kernel
theorem dX7_addClause_15 : decode cX7_addClause 15 = .ok (.istore_n 2, 1) := by decide +kernel
theorem dX7_addClause_16 : decode cX7_addClause 16 = .ok (.aload_n 0, 1) := by decide +kernel
theorem dX7_addClause_17 : decode cX7_addClause 17 = .ok (.dup, 1) := by decide +kernel
theorem dX7_addClause_18 : decode cX7_addClause 18 = .ok (.getfield 27, 3) := by decide +kernel
theorem dX7_addClause_21 : decode cX7_addClause 21 = .ok (.iconst 1, 1) := by decide +kernel
theorem dX7_addClause_22 : decode cX7_addClause 22 = .ok (.iadd, 1) := by decide +kernel
theorem dX7_addClause_23 : decode cX7_addClause 23 = .ok (.putfield 27, 3) := by decide +kernel
theorem dX7_addClause_26 : decode cX7_addClause 26 = .ok (.aload_n 0, 1) := by decide +kernel
theorem dX7_addClause_27 : decode cX7_addClause 27 = .ok (.getfield 9, 3) := by decide +kernel
theorem dX7_addClause_30 : decode cX7_addClause 30 = .ok (.iload_n 2, 1) := by decide +kernel
theorem dX7_addClause_31 : decode cX7_addClause 31 = .ok (.iload_n 1, 1) := by decide +kernel
theorem dX7_addClause_32 : decode cX7_addClause 32 = .ok (.iastore, 1) := by decide +kernel
theorem dX7_addClause_33 : decode cX7_addClause 33 = .ok (.iload_n 1, 1) := by decide +kernel
theorem dX7_addClause_34 : decode cX7_addClause 34 = .ok (.bipush 18, 2) := by decide +kernel
theorem dX7_addClause_36 : decode cX7_addClause 36 = .ok (.if_icmp .ne 11, 3) := by decide +kernel
theorem dX7_addClause_39 : decode cX7_addClause 39 = .ok (.aload_n 0, 1) := by decide +kernel
theorem dX7_addClause_40 : decode cX7_addClause 40 = .ok (.iload_n 2, 1) := by decide +kernel
theorem dX7_addClause_41 : decode cX7_addClause 41 = .ok (.putfield 34, 3) := by decide +kernel
theorem dX7_addClause_44 : decode cX7_addClause 44 = .ok (.goto 28, 3) := by decide +kernel
theorem dX7_addClause_47 : decode cX7_addClause 47 = .ok (.iload_n 1, 1) := by decide +kernel
theorem dX7_addClause_48 : decode cX7_addClause 48 = .ok (.bipush 19, 2) := by decide +kernel
theorem dX7_addClause_50 : decode cX7_addClause 50 = .ok (.if_icmp .ne 11, 3) := by decide +kernel
theorem dX7_addClause_53 : decode cX7_addClause 53 = .ok (.aload_n 0, 1) := by decide +kernel
theorem dX7_addClause_54 : decode cX7_addClause 54 = .ok (.iload_n 2, 1) := by decide +kernel
theorem dX7_addClause_55 : decode cX7_addClause 55 = .ok (.putfield 37, 3) := by decide +kernel
theorem dX7_addClause_58 : decode cX7_addClause 58 = .ok (.goto 14, 3) := by decide +kernel
theorem dX7_addClause_61 : decode cX7_addClause 61 = .ok (.iload_n 1, 1) := by decide +kernel
theorem dX7_addClause_62 : decode cX7_addClause 62 = .ok (.bipush 20, 2) := by decide +kernel
theorem dX7_addClause_64 : decode cX7_addClause 64 = .ok (.if_icmp .ne 8, 3) := by decide +kernel
theorem dX7_addClause_67 : decode cX7_addClause 67 = .ok (.aload_n 0, 1) := by decide +kernel
theorem dX7_addClause_68 : decode cX7_addClause 68 = .ok (.iload_n 2, 1) := by decide +kernel
theorem dX7_addClause_69 : decode cX7_addClause 69 = .ok (.putfield 40, 3) := by decide +kernel
theorem dX7_addClause_72 : decode cX7_addClause 72 = .ok (.iload_n 2, 1) := by decide +kernel
theorem dX7_addClause_73 : decode cX7_addClause 73 = .ok (.ireturn, 1) := by decide +kernel
theorem dX8_init_0 : decode cX8_init 0 = .ok (.aload_n 0, 1) := by decide +kernel
theorem dX8_init_1 : decode cX8_init 1 = .ok (.invokespecial 3, 3) := by decide +kernel
theorem dX8_init_4 : decode cX8_init 4 = .ok (.aload_n 0, 1) := by decide +kernel
theorem dX8_init_5 : decode cX8_init 5 = .ok (.bipush 6, 2) := by decide +kernel
theorem dX8_init_7 : decode cX8_init 7 = .ok (.newarray .int, 2) := by decide +kernel
theorem dX8_init_9 : decode cX8_init 9 = .ok (.putfield 9, 3) := by decide +kernel
theorem dX8_init_12 : decode cX8_init 12 = .ok (.aload_n 0, 1) := by decide +kernel
theorem dX8_init_13 : decode cX8_init 13 = .ok (.bipush 6, 2) := by decide +kernel
theorem dX8_init_15 : decode cX8_init 15 = .ok (.newarray .int, 2) := by decide +kernel
theorem dX8_init_17 : decode cX8_init 17 = .ok (.putfield 15, 3) := by decide +kernel
theorem dX8_init_20 : decode cX8_init 20 = .ok (.aload_n 0, 1) := by decide +kernel
theorem dX8_init_21 : decode cX8_init 21 = .ok (.bipush 6, 2) := by decide +kernel
theorem dX8_init_23 : decode cX8_init 23 = .ok (.newarray .int, 2) := by decide +kernel
theorem dX8_init_25 : decode cX8_init 25 = .ok (.putfield 18, 3) := by decide +kernel
theorem dX8_init_28 : decode cX8_init 28 = .ok (.aload_n 0, 1) := by decide +kernel
theorem dX8_init_29 : decode cX8_init 29 = .ok (.bipush 6, 2) := by decide +kernel
theorem dX8_init_31 : decode cX8_init 31 = .ok (.newarray .int, 2) := by decide +kernel
theorem dX8_init_33 : decode cX8_init 33 = .ok (.putfield 21, 3) := by decide +kernel
theorem dX8_init_36 : decode cX8_init 36 = .ok (.aload_n 0, 1) := by decide +kernel
theorem dX8_init_37 : decode cX8_init 37 = .ok (.bipush 40, 2) := by decide +kernel
theorem dX8_init_39 : decode cX8_init 39 = .ok (.newarray .int, 2) := by decide +kernel
theorem dX8_init_41 : decode cX8_init 41 = .ok (.putfield 24, 3) := by decide +kernel
theorem dX8_init_44 : decode cX8_init 44 = .ok (.aload_n 0, 1) := by decide +kernel
theorem dX8_init_45 : decode cX8_init 45 = .ok (.bipush 24, 2) := by decide +kernel
theorem dX8_init_47 : decode cX8_init 47 = .ok (.newarray .int, 2) := by decide +kernel
theorem dX8_init_49 : decode cX8_init 49 = .ok (.putfield 27, 3) := by decide +kernel
theorem dX8_init_52 : decode cX8_init 52 = .ok (.aload_n 0, 1) := by decide +kernel
theorem dX8_init_53 : decode cX8_init 53 = .ok (.iconst (-1), 1) := by decide +kernel
theorem dX8_init_54 : decode cX8_init 54 = .ok (.putfield 30, 3) := by decide +kernel
theorem dX8_init_57 : decode cX8_init 57 = .ok (.aload_n 0, 1) := by decide +kernel
theorem dX8_init_58 : decode cX8_init 58 = .ok (.getfield 27, 3) := by decide +kernel
theorem dX8_init_61 : decode cX8_init 61 = .ok (.iconst (-1), 1) := by decide +kernel
theorem dX8_init_62 : decode cX8_init 62 = .ok (.invokestatic 34, 3) := by decide +kernel
theorem dX8_init_65 : decode cX8_init 65 = .ok (.return_, 1) := by decide +kernel
theorem dX8_copyFrom_0 : decode cX8_copyFrom 0 = .ok (.aload_n 1, 1) := by decide +kernel
theorem dX8_copyFrom_1 : decode cX8_copyFrom 1 = .ok (.getfield 9, 3) := by decide +kernel
theorem dX8_copyFrom_4 : decode cX8_copyFrom 4 = .ok (.iconst 0, 1) := by decide +kernel
theorem dX8_copyFrom_5 : decode cX8_copyFrom 5 = .ok (.aload_n 0, 1) := by decide +kernel
theorem dX8_copyFrom_6 : decode cX8_copyFrom 6 = .ok (.getfield 9, 3) := by decide +kernel
theorem dX8_copyFrom_9 : decode cX8_copyFrom 9 = .ok (.iconst 0, 1) := by decide +kernel
theorem dX8_copyFrom_10 : decode cX8_copyFrom 10 = .ok (.bipush 6, 2) := by decide +kernel
theorem dX8_copyFrom_12 : decode cX8_copyFrom 12 = .ok (.invokestatic 40, 3) := by decide +kernel
theorem dX8_copyFrom_15 : decode cX8_copyFrom 15 = .ok (.aload_n 1, 1) := by decide +kernel
theorem dX8_copyFrom_16 : decode cX8_copyFrom 16 = .ok (.getfield 15, 3) := by decide +kernel
theorem dX8_copyFrom_19 : decode cX8_copyFrom 19 = .ok (.iconst 0, 1) := by decide +kernel
theorem dX8_copyFrom_20 : decode cX8_copyFrom 20 = .ok (.aload_n 0, 1) := by decide +kernel
theorem dX8_copyFrom_21 : decode cX8_copyFrom 21 = .ok (.getfield 15, 3) := by decide +kernel
theorem dX8_copyFrom_24 : decode cX8_copyFrom 24 = .ok (.iconst 0, 1) := by decide +kernel
theorem dX8_copyFrom_25 : decode cX8_copyFrom 25 = .ok (.bipush 6, 2) := by decide +kernel
theorem dX8_copyFrom_27 : decode cX8_copyFrom 27 = .ok (.invokestatic 40, 3) := by decide +kernel
theorem dX8_copyFrom_30 : decode cX8_copyFrom 30 = .ok (.aload_n 1, 1) := by decide +kernel
theorem dX8_copyFrom_31 : decode cX8_copyFrom 31 = .ok (.getfield 18, 3) := by decide +kernel
theorem dX8_copyFrom_34 : decode cX8_copyFrom 34 = .ok (.iconst 0, 1) := by decide +kernel
theorem dX8_copyFrom_35 : decode cX8_copyFrom 35 = .ok (.aload_n 0, 1) := by decide +kernel
theorem dX8_copyFrom_36 : decode cX8_copyFrom 36 = .ok (.getfield 18, 3) := by decide +kernel
theorem dX8_copyFrom_39 : decode cX8_copyFrom 39 = .ok (.iconst 0, 1) := by decide +kernel
theorem dX8_copyFrom_40 : decode cX8_copyFrom 40 = .ok (.bipush 6, 2) := by decide +kernel
theorem dX8_copyFrom_42 : decode cX8_copyFrom 42 = .ok (.invokestatic 40, 3) := by decide +kernel
theorem dX8_copyFrom_45 : decode cX8_copyFrom 45 = .ok (.aload_n 1, 1) := by decide +kernel
theorem dX8_copyFrom_46 : decode cX8_copyFrom 46 = .ok (.getfield 21, 3) := by decide +kernel
theorem dX8_copyFrom_49 : decode cX8_copyFrom 49 = .ok (.iconst 0, 1) := by decide +kernel
theorem dX8_copyFrom_50 : decode cX8_copyFrom 50 = .ok (.aload_n 0, 1) := by decide +kernel
theorem dX8_copyFrom_51 : decode cX8_copyFrom 51 = .ok (.getfield 21, 3) := by decide +kernel
theorem dX8_copyFrom_54 : decode cX8_copyFrom 54 = .ok (.iconst 0, 1) := by decide +kernel
theorem dX8_copyFrom_55 : decode cX8_copyFrom 55 = .ok (.bipush 6, 2) := by decide +kernel
theorem dX8_copyFrom_57 : decode cX8_copyFrom 57 = .ok (.invokestatic 40, 3) := by decide +kernel
theorem dX8_copyFrom_60 : decode cX8_copyFrom 60 = .ok (.aload_n 1, 1) := by decide +kernel
theorem dX8_copyFrom_61 : decode cX8_copyFrom 61 = .ok (.getfield 24, 3) := by decide +kernel
theorem dX8_copyFrom_64 : decode cX8_copyFrom 64 = .ok (.iconst 0, 1) := by decide +kernel
theorem dX8_copyFrom_65 : decode cX8_copyFrom 65 = .ok (.aload_n 0, 1) := by decide +kernel
theorem dX8_copyFrom_66 : decode cX8_copyFrom 66 = .ok (.getfield 24, 3) := by decide +kernel
theorem dX8_copyFrom_69 : decode cX8_copyFrom 69 = .ok (.iconst 0, 1) := by decide +kernel
theorem dX8_copyFrom_70 : decode cX8_copyFrom 70 = .ok (.bipush 40, 2) := by decide +kernel
theorem dX8_copyFrom_72 : decode cX8_copyFrom 72 = .ok (.invokestatic 40, 3) := by decide +kernel
theorem dX8_copyFrom_75 : decode cX8_copyFrom 75 = .ok (.aload_n 1, 1) := by decide +kernel
theorem dX8_copyFrom_76 : decode cX8_copyFrom 76 = .ok (.getfield 27, 3) := by decide +kernel
theorem dX8_copyFrom_79 : decode cX8_copyFrom 79 = .ok (.iconst 0, 1) := by decide +kernel
theorem dX8_copyFrom_80 : decode cX8_copyFrom 80 = .ok (.aload_n 0, 1) := by decide +kernel
theorem dX8_copyFrom_81 : decode cX8_copyFrom 81 = .ok (.getfield 27, 3) := by decide +kernel
theorem dX8_copyFrom_84 : decode cX8_copyFrom 84 = .ok (.iconst 0, 1) := by decide +kernel
theorem dX8_copyFrom_85 : decode cX8_copyFrom 85 = .ok (.bipush 24, 2) := by decide +kernel
theorem dX8_copyFrom_87 : decode cX8_copyFrom 87 = .ok (.invokestatic 40, 3) := by decide +kernel
theorem dX8_copyFrom_90 : decode cX8_copyFrom 90 = .ok (.aload_n 0, 1) := by decide +kernel
theorem dX8_copyFrom_91 : decode cX8_copyFrom 91 = .ok (.aload_n 1, 1) := by decide +kernel
theorem dX8_copyFrom_92 : decode cX8_copyFrom 92 = .ok (.getfield 46, 3) := by decide +kernel
theorem dX8_copyFrom_95 : decode cX8_copyFrom 95 = .ok (.putfield 46, 3) := by decide +kernel
theorem dX8_copyFrom_98 : decode cX8_copyFrom 98 = .ok (.aload_n 0, 1) := by decide +kernel
theorem dX8_copyFrom_99 : decode cX8_copyFrom 99 = .ok (.aload_n 1, 1) := by decide +kernel
theorem dX8_copyFrom_100 : decode cX8_copyFrom 100 = .ok (.getfield 49, 3) := by decide +kernel
theorem dX8_copyFrom_103 : decode cX8_copyFrom 103 = .ok (.putfield 49, 3) := by decide +kernel
theorem dX8_copyFrom_106 : decode cX8_copyFrom 106 = .ok (.aload_n 0, 1) := by decide +kernel
theorem dX8_copyFrom_107 : decode cX8_copyFrom 107 = .ok (.aload_n 1, 1) := by decide +kernel
theorem dX8_copyFrom_108 : decode cX8_copyFrom 108 = .ok (.getfield 30, 3) := by decide +kernel
theorem dX8_copyFrom_111 : decode cX8_copyFrom 111 = .ok (.putfield 30, 3) := by decide +kernel
theorem dX8_copyFrom_114 : decode cX8_copyFrom 114 = .ok (.return_, 1) := by decide +kernel
theorem dX8_isWind_0 : decode cX8_isWind 0 = .ok (.iload_n 1, 1) := by decide +kernel
theorem dX8_isWind_1 : decode cX8_isWind 1 = .ok (.ifCond .lt 15, 3) := by decide +kernel
theorem dX8_isWind_4 : decode cX8_isWind 4 = .ok (.iload_n 1, 1) := by decide +kernel
theorem dX8_isWind_5 : decode cX8_isWind 5 = .ok (.aload_n 0, 1) := by decide +kernel
theorem dX8_isWind_6 : decode cX8_isWind 6 = .ok (.getfield 46, 3) := by decide +kernel
theorem dX8_isWind_9 : decode cX8_isWind 9 = .ok (.if_icmp .ge 7, 3) := by decide +kernel
theorem dX8_isWind_12 : decode cX8_isWind 12 = .ok (.iconst 1, 1) := by decide +kernel
theorem dX8_isWind_13 : decode cX8_isWind 13 = .ok (.goto 4, 3) := by decide +kernel
theorem dX8_isWind_16 : decode cX8_isWind 16 = .ok (.iconst 0, 1) := by decide +kernel
theorem dX8_isWind_17 : decode cX8_isWind 17 = .ok (.ireturn, 1) := by decide +kernel
theorem dX8_isText_0 : decode cX8_isText 0 = .ok (.iload_n 1, 1) := by decide +kernel
theorem dX8_isText_1 : decode cX8_isText 1 = .ok (.ifCond .lt 15, 3) := by decide +kernel
theorem dX8_isText_4 : decode cX8_isText 4 = .ok (.iload_n 1, 1) := by decide +kernel
theorem dX8_isText_5 : decode cX8_isText 5 = .ok (.aload_n 0, 1) := by decide +kernel
theorem dX8_isText_6 : decode cX8_isText 6 = .ok (.getfield 49, 3) := by decide +kernel
theorem dX8_isText_9 : decode cX8_isText 9 = .ok (.if_icmp .ge 7, 3) := by decide +kernel
theorem dX8_isText_12 : decode cX8_isText 12 = .ok (.iconst 1, 1) := by decide +kernel
theorem dX8_isText_13 : decode cX8_isText 13 = .ok (.goto 4, 3) := by decide +kernel
theorem dX8_isText_16 : decode cX8_isText 16 = .ok (.iconst 0, 1) := by decide +kernel
theorem dX8_isText_17 : decode cX8_isText 17 = .ok (.ireturn, 1) := by decide +kernel
theorem dX8_addWind_0 : decode cX8_addWind 0 = .ok (.iload_n 1, 1) := by decide +kernel
theorem dX8_addWind_1 : decode cX8_addWind 1 = .ok (.iconst (-1), 1) := by decide +kernel
theorem dX8_addWind_2 : decode cX8_addWind 2 = .ok (.if_icmp .lt 27, 3) := by decide +kernel
theorem dX8_addWind_5 : decode cX8_addWind 5 = .ok (.iload_n 1, 1) := by decide +kernel
theorem dX8_addWind_6 : decode cX8_addWind 6 = .ok (.iconst 1, 1) := by decide +kernel
theorem dX8_addWind_7 : decode cX8_addWind 7 = .ok (.if_icmp .gt 22, 3) := by decide +kernel
theorem dX8_addWind_10 : decode cX8_addWind 10 = .ok (.iload_n 2, 1) := by decide +kernel
theorem dX8_addWind_11 : decode cX8_addWind 11 = .ok (.iconst (-1), 1) := by decide +kernel
theorem dX8_addWind_12 : decode cX8_addWind 12 = .ok (.if_icmp .lt 17, 3) := by decide +kernel
theorem dX8_addWind_15 : decode cX8_addWind 15 = .ok (.iload_n 2, 1) := by decide +kernel
theorem dX8_addWind_16 : decode cX8_addWind 16 = .ok (.iconst 1, 1) := by decide +kernel
theorem dX8_addWind_17 : decode cX8_addWind 17 = .ok (.if_icmp .gt 12, 3) := by decide +kernel
theorem dX8_addWind_20 : decode cX8_addWind 20 = .ok (.aload_n 0, 1) := by decide +kernel
theorem dX8_addWind_21 : decode cX8_addWind 21 = .ok (.getfield 46, 3) := by decide +kernel
theorem dX8_addWind_24 : decode cX8_addWind 24 = .ok (.bipush 6, 2) := by decide +kernel
theorem dX8_addWind_26 : decode cX8_addWind 26 = .ok (.if_icmp .lt 5, 3) := by decide +kernel
theorem dX8_addWind_29 : decode cX8_addWind 29 = .ok (.iconst (-1), 1) := by decide +kernel
theorem dX8_addWind_30 : decode cX8_addWind 30 = .ok (.ireturn, 1) := by decide +kernel
theorem dX8_addWind_31 : decode cX8_addWind 31 = .ok (.iload_n 3, 1) := by decide +kernel
theorem dX8_addWind_32 : decode cX8_addWind 32 = .ok (.ifCond .lt 21, 3) := by decide +kernel
theorem dX8_addWind_35 : decode cX8_addWind 35 = .ok (.iload_n 3, 1) := by decide +kernel
theorem dX8_addWind_36 : decode cX8_addWind 36 = .ok (.bipush 99, 2) := by decide +kernel
theorem dX8_addWind_38 : decode cX8_addWind 38 = .ok (.if_icmp .gt 15, 3) := by decide +kernel
theorem dX8_addWind_41 : decode cX8_addWind 41 = .ok (.iload 4, 2) := by decide +kernel
theorem dX8_addWind_43 : decode cX8_addWind 43 = .ok (.ifCond .lt 10, 3) := by decide +kernel
theorem dX8_addWind_46 : decode cX8_addWind 46 = .ok (.iload 4, 2) := by decide +kernel
theorem dX8_addWind_48 : decode cX8_addWind 48 = .ok (.bipush 9, 2) := by decide +kernel
theorem dX8_addWind_50 : decode cX8_addWind 50 = .ok (.if_icmp .le 5, 3) := by decide +kernel
theorem dX8_addWind_53 : decode cX8_addWind 53 = .ok (.iconst (-1), 1) := by decide +kernel
theorem dX8_addWind_54 : decode cX8_addWind 54 = .ok (.ireturn, 1) := by decide +kernel
theorem dX8_addWind_55 : decode cX8_addWind 55 = .ok (.aload_n 0, 1) := by decide +kernel
theorem dX8_addWind_56 : decode cX8_addWind 56 = .ok (.getfield 46, 3) := by decide +kernel
theorem dX8_addWind_59 : decode cX8_addWind 59 = .ok (.istore 5, 2) := by decide +kernel
theorem dX8_addWind_61 : decode cX8_addWind 61 = .ok (.aload_n 0, 1) := by decide +kernel
theorem dX8_addWind_62 : decode cX8_addWind 62 = .ok (.dup, 1) := by decide +kernel
theorem dX8_addWind_63 : decode cX8_addWind 63 = .ok (.getfield 46, 3) := by decide +kernel
theorem dX8_addWind_66 : decode cX8_addWind 66 = .ok (.iconst 1, 1) := by decide +kernel
theorem dX8_addWind_67 : decode cX8_addWind 67 = .ok (.iadd, 1) := by decide +kernel
theorem dX8_addWind_68 : decode cX8_addWind 68 = .ok (.putfield 46, 3) := by decide +kernel
theorem dX8_addWind_71 : decode cX8_addWind 71 = .ok (.aload_n 0, 1) := by decide +kernel
theorem dX8_addWind_72 : decode cX8_addWind 72 = .ok (.getfield 9, 3) := by decide +kernel
theorem dX8_addWind_75 : decode cX8_addWind 75 = .ok (.iload 5, 2) := by decide +kernel
theorem dX8_addWind_77 : decode cX8_addWind 77 = .ok (.iload_n 1, 1) := by decide +kernel
theorem dX8_addWind_78 : decode cX8_addWind 78 = .ok (.iastore, 1) := by decide +kernel
theorem dX8_addWind_79 : decode cX8_addWind 79 = .ok (.aload_n 0, 1) := by decide +kernel
theorem dX8_addWind_80 : decode cX8_addWind 80 = .ok (.getfield 15, 3) := by decide +kernel
theorem dX8_addWind_83 : decode cX8_addWind 83 = .ok (.iload 5, 2) := by decide +kernel
theorem dX8_addWind_85 : decode cX8_addWind 85 = .ok (.iload_n 2, 1) := by decide +kernel
theorem dX8_addWind_86 : decode cX8_addWind 86 = .ok (.iastore, 1) := by decide +kernel
theorem dX8_addWind_87 : decode cX8_addWind 87 = .ok (.aload_n 0, 1) := by decide +kernel
theorem dX8_addWind_88 : decode cX8_addWind 88 = .ok (.getfield 18, 3) := by decide +kernel
theorem dX8_addWind_91 : decode cX8_addWind 91 = .ok (.iload 5, 2) := by decide +kernel
theorem dX8_addWind_93 : decode cX8_addWind 93 = .ok (.iload_n 3, 1) := by decide +kernel
theorem dX8_addWind_94 : decode cX8_addWind 94 = .ok (.iastore, 1) := by decide +kernel
theorem dX8_addWind_95 : decode cX8_addWind 95 = .ok (.aload_n 0, 1) := by decide +kernel
theorem dX8_addWind_96 : decode cX8_addWind 96 = .ok (.getfield 21, 3) := by decide +kernel
theorem dX8_addWind_99 : decode cX8_addWind 99 = .ok (.iload 5, 2) := by decide +kernel
theorem dX8_addWind_101 : decode cX8_addWind 101 = .ok (.iload 4, 2) := by decide +kernel
theorem dX8_addWind_103 : decode cX8_addWind 103 = .ok (.iastore, 1) := by decide +kernel
theorem dX8_addWind_104 : decode cX8_addWind 104 = .ok (.iload 5, 2) := by decide +kernel
theorem dX8_addWind_106 : decode cX8_addWind 106 = .ok (.ireturn, 1) := by decide +kernel
theorem dX8_allChances_0 : decode cX8_allChances 0 = .ok (.iconst 0, 1) := by decide +kernel
theorem dX8_allChances_1 : decode cX8_allChances 1 = .ok (.istore_n 1, 1) := by decide +kernel
theorem dX8_allChances_2 : decode cX8_allChances 2 = .ok (.iconst 0, 1) := by decide +kernel
theorem dX8_allChances_3 : decode cX8_allChances 3 = .ok (.istore_n 2, 1) := by decide +kernel
theorem dX8_allChances_4 : decode cX8_allChances 4 = .ok (.iload_n 2, 1) := by decide +kernel
theorem dX8_allChances_5 : decode cX8_allChances 5 = .ok (.aload_n 0, 1) := by decide +kernel
theorem dX8_allChances_6 : decode cX8_allChances 6 = .ok (.getfield 46, 3) := by decide +kernel
theorem dX8_allChances_9 : decode cX8_allChances 9 = .ok (.if_icmp .ge 18, 3) := by decide +kernel
theorem dX8_allChances_12 : decode cX8_allChances 12 = .ok (.iload_n 1, 1) := by decide +kernel
theorem dX8_allChances_13 : decode cX8_allChances 13 = .ok (.aload_n 0, 1) := by decide +kernel
theorem dX8_allChances_14 : decode cX8_allChances 14 = .ok (.getfield 21, 3) := by decide +kernel
theorem dX8_allChances_17 : decode cX8_allChances 17 = .ok (.iload_n 2, 1) := by decide +kernel
theorem dX8_allChances_18 : decode cX8_allChances 18 = .ok (.iaload, 1) := by decide +kernel
theorem dX8_allChances_19 : decode cX8_allChances 19 = .ok (.iadd, 1) := by decide +kernel
theorem dX8_allChances_20 : decode cX8_allChances 20 = .ok (.istore_n 1, 1) := by decide +kernel
theorem dX8_allChances_21 : decode cX8_allChances 21 = .ok (.iinc 2 1, 3) := by decide +kernel
theorem dX8_allChances_24 : decode cX8_allChances 24 = .ok (.goto (-20), 3) := by decide +kernel
theorem dX8_allChances_27 : decode cX8_allChances 27 = .ok (.iload_n 1, 1) := by decide +kernel
theorem dX8_allChances_28 : decode cX8_allChances 28 = .ok (.ireturn, 1) := by decide +kernel
theorem dX8_allWeight_0 : decode cX8_allWeight 0 = .ok (.lconst 1, 1) := by decide +kernel
theorem dX8_allWeight_1 : decode cX8_allWeight 1 = .ok (.lstore_n 2, 1) := by decide +kernel
theorem dX8_allWeight_2 : decode cX8_allWeight 2 = .ok (.iconst 0, 1) := by decide +kernel
theorem dX8_allWeight_3 : decode cX8_allWeight 3 = .ok (.istore 4, 2) := by decide +kernel
theorem dX8_allWeight_5 : decode cX8_allWeight 5 = .ok (.iload 4, 2) := by decide +kernel
theorem dX8_allWeight_7 : decode cX8_allWeight 7 = .ok (.iload_n 1, 1) := by decide +kernel
theorem dX8_allWeight_8 : decode cX8_allWeight 8 = .ok (.if_icmp .ge 17, 3) := by decide +kernel
theorem dX8_allWeight_11 : decode cX8_allWeight 11 = .ok (.lload_n 2, 1) := by decide +kernel
theorem dX8_allWeight_12 : decode cX8_allWeight 12 = .ok (.aload_n 0, 1) := by decide +kernel
theorem dX8_allWeight_13 : decode cX8_allWeight 13 = .ok (.invokevirtual 52, 3) := by decide +kernel
theorem dX8_allWeight_16 : decode cX8_allWeight 16 = .ok (.i2l, 1) := by decide +kernel
theorem dX8_allWeight_17 : decode cX8_allWeight 17 = .ok (.lmul, 1) := by decide +kernel
theorem dX8_allWeight_18 : decode cX8_allWeight 18 = .ok (.lstore_n 2, 1) := by decide +kernel
theorem dX8_allWeight_19 : decode cX8_allWeight 19 = .ok (.iinc 4 1, 3) := by decide +kernel
theorem dX8_allWeight_22 : decode cX8_allWeight 22 = .ok (.goto (-17), 3) := by decide +kernel
theorem dX8_allWeight_25 : decode cX8_allWeight 25 = .ok (.lload_n 2, 1) := by decide +kernel
theorem dX8_allWeight_26 : decode cX8_allWeight 26 = .ok (.lreturn, 1) := by decide +kernel
theorem dX8_windAt_0 : decode cX8_windAt 0 = .ok (.iconst 0, 1) := by decide +kernel
theorem dX8_windAt_1 : decode cX8_windAt 1 = .ok (.istore_n 2, 1) := by decide +kernel
theorem dX8_windAt_2 : decode cX8_windAt 2 = .ok (.iconst 0, 1) := by decide +kernel
theorem dX8_windAt_3 : decode cX8_windAt 3 = .ok (.istore_n 3, 1) := by decide +kernel
theorem dX8_windAt_4 : decode cX8_windAt 4 = .ok (.iload_n 3, 1) := by decide +kernel
theorem dX8_windAt_5 : decode cX8_windAt 5 = .ok (.aload_n 0, 1) := by decide +kernel
theorem dX8_windAt_6 : decode cX8_windAt 6 = .ok (.getfield 46, 3) := by decide +kernel
theorem dX8_windAt_9 : decode cX8_windAt 9 = .ok (.if_icmp .ge 25, 3) := by decide +kernel
theorem dX8_windAt_12 : decode cX8_windAt 12 = .ok (.iload_n 2, 1) := by decide +kernel
theorem dX8_windAt_13 : decode cX8_windAt 13 = .ok (.aload_n 0, 1) := by decide +kernel
theorem dX8_windAt_14 : decode cX8_windAt 14 = .ok (.getfield 21, 3) := by decide +kernel
theorem dX8_windAt_17 : decode cX8_windAt 17 = .ok (.iload_n 3, 1) := by decide +kernel
theorem dX8_windAt_18 : decode cX8_windAt 18 = .ok (.iaload, 1) := by decide +kernel
theorem dX8_windAt_19 : decode cX8_windAt 19 = .ok (.iadd, 1) := by decide +kernel
theorem dX8_windAt_20 : decode cX8_windAt 20 = .ok (.istore_n 2, 1) := by decide +kernel
theorem dX8_windAt_21 : decode cX8_windAt 21 = .ok (.iload_n 1, 1) := by decide +kernel
theorem dX8_windAt_22 : decode cX8_windAt 22 = .ok (.iload_n 2, 1) := by decide +kernel
theorem dX8_windAt_23 : decode cX8_windAt 23 = .ok (.if_icmp .ge 5, 3) := by decide +kernel
theorem dX8_windAt_26 : decode cX8_windAt 26 = .ok (.iload_n 3, 1) := by decide +kernel
theorem dX8_windAt_27 : decode cX8_windAt 27 = .ok (.ireturn, 1) := by decide +kernel
theorem dX8_windAt_28 : decode cX8_windAt 28 = .ok (.iinc 3 1, 3) := by decide +kernel
theorem dX8_windAt_31 : decode cX8_windAt 31 = .ok (.goto (-27), 3) := by decide +kernel
theorem dX8_windAt_34 : decode cX8_windAt 34 = .ok (.iconst 0, 1) := by decide +kernel
theorem dX8_windAt_35 : decode cX8_windAt 35 = .ok (.ireturn, 1) := by decide +kernel
theorem dX9_init_0 : decode cX9_init 0 = .ok (.aload_n 0, 1) := by decide +kernel
theorem dX9_init_1 : decode cX9_init 1 = .ok (.invokespecial 3, 3) := by decide +kernel
theorem dX9_init_4 : decode cX9_init 4 = .ok (.aload_n 0, 1) := by decide +kernel
theorem dX9_init_5 : decode cX9_init 5 = .ok (.bipush 24, 2) := by decide +kernel
theorem dX9_init_7 : decode cX9_init 7 = .ok (.newarray .int, 2) := by decide +kernel
theorem dX9_init_9 : decode cX9_init 9 = .ok (.putfield 9, 3) := by decide +kernel
theorem dX9_init_12 : decode cX9_init 12 = .ok (.aload_n 0, 1) := by decide +kernel
theorem dX9_init_13 : decode cX9_init 13 = .ok (.bipush 26, 2) := by decide +kernel
theorem dX9_init_15 : decode cX9_init 15 = .ok (.newarray .int, 2) := by decide +kernel
theorem dX9_init_17 : decode cX9_init 17 = .ok (.putfield 15, 3) := by decide +kernel
theorem dX9_init_20 : decode cX9_init 20 = .ok (.aload_n 0, 1) := by decide +kernel
theorem dX9_init_21 : decode cX9_init 21 = .ok (.bipush 24, 2) := by decide +kernel
theorem dX9_init_23 : decode cX9_init 23 = .ok (.newarray .int, 2) := by decide +kernel
theorem dX9_init_25 : decode cX9_init 25 = .ok (.putfield 18, 3) := by decide +kernel
theorem dX9_init_28 : decode cX9_init 28 = .ok (.aload_n 0, 1) := by decide +kernel
theorem dX9_init_29 : decode cX9_init 29 = .ok (.aload_n 1, 1) := by decide +kernel
theorem dX9_init_30 : decode cX9_init 30 = .ok (.putfield 21, 3) := by decide +kernel
theorem dX9_init_33 : decode cX9_init 33 = .ok (.aload_n 0, 1) := by decide +kernel
theorem dX9_init_34 : decode cX9_init 34 = .ok (.aload_n 2, 1) := by decide +kernel
theorem dX9_init_35 : decode cX9_init 35 = .ok (.putfield 25, 3) := by decide +kernel
theorem dX9_init_38 : decode cX9_init 38 = .ok (.aload_n 0, 1) := by decide +kernel
theorem dX9_init_39 : decode cX9_init 39 = .ok (.aload_n 3, 1) := by decide +kernel
theorem dX9_init_40 : decode cX9_init 40 = .ok (.putfield 29, 3) := by decide +kernel
theorem dX9_init_43 : decode cX9_init 43 = .ok (.return_, 1) := by decide +kernel
theorem dX9_law_0 : decode cX9_law 0 = .ok (.aload_n 0, 1) := by decide +kernel
theorem dX9_law_1 : decode cX9_law 1 = .ok (.getfield 21, 3) := by decide +kernel
theorem dX9_law_4 : decode cX9_law 4 = .ok (.aload_n 0, 1) := by decide +kernel
theorem dX9_law_5 : decode cX9_law 5 = .ok (.getfield 21, 3) := by decide +kernel
theorem dX9_law_8 : decode cX9_law 8 = .ok (.getfield 33, 3) := by decide +kernel
theorem dX9_law_11 : decode cX9_law 11 = .ok (.invokevirtual 39, 3) := by decide +kernel
theorem dX9_law_14 : decode cX9_law 14 = .ok (.ifCond .eq 33, 3) := by decide +kernel
theorem dX9_law_17 : decode cX9_law 17 = .ok (.aload_n 0, 1) := by decide +kernel
theorem dX9_law_18 : decode cX9_law 18 = .ok (.getfield 21, 3) := by decide +kernel
theorem dX9_law_21 : decode cX9_law 21 = .ok (.getfield 33, 3) := by decide +kernel
theorem dX9_law_24 : decode cX9_law 24 = .ok (.aload_n 0, 1) := by decide +kernel
theorem dX9_law_25 : decode cX9_law 25 = .ok (.getfield 25, 3) := by decide +kernel
theorem dX9_law_28 : decode cX9_law 28 = .ok (.arraylength, 1) := by decide +kernel
theorem dX9_law_29 : decode cX9_law 29 = .ok (.if_icmp .ge 18, 3) := by decide +kernel
theorem dX9_law_32 : decode cX9_law 32 = .ok (.aload_n 0, 1) := by decide +kernel
theorem dX9_law_33 : decode cX9_law 33 = .ok (.getfield 25, 3) := by decide +kernel
theorem dX9_law_36 : decode cX9_law 36 = .ok (.aload_n 0, 1) := by decide +kernel
theorem dX9_law_37 : decode cX9_law 37 = .ok (.getfield 21, 3) := by decide +kernel
theorem dX9_law_40 : decode cX9_law 40 = .ok (.getfield 33, 3) := by decide +kernel
theorem dX9_law_43 : decode cX9_law 43 = .ok (.aaload, 1) := by decide +kernel
theorem dX9_law_44 : decode cX9_law 44 = .ok (.goto 4, 3) := by decide +kernel
theorem dX9_law_47 : decode cX9_law 47 = .ok (.aconst_null, 1) := by decide +kernel
theorem dX9_law_48 : decode cX9_law 48 = .ok (.areturn, 1) := by decide +kernel
theorem dX9_blow_0 : decode cX9_blow 0 = .ok (.aload_n 0, 1) := by decide +kernel
theorem dX9_blow_1 : decode cX9_blow 1 = .ok (.getfield 21, 3) := by decide +kernel
theorem dX9_blow_4 : decode cX9_blow 4 = .ok (.getfield 43, 3) := by decide +kernel
theorem dX9_blow_7 : decode cX9_blow 7 = .ok (.iload_n 2, 1) := by decide +kernel
theorem dX9_blow_8 : decode cX9_blow 8 = .ok (.iaload, 1) := by decide +kernel
theorem dX9_blow_9 : decode cX9_blow 9 = .ok (.istore_n 3, 1) := by decide +kernel
theorem dX9_blow_10 : decode cX9_blow 10 = .ok (.aload_n 0, 1) := by decide +kernel
theorem dX9_blow_11 : decode cX9_blow 11 = .ok (.getfield 21, 3) := by decide +kernel
theorem dX9_blow_14 : decode cX9_blow 14 = .ok (.getfield 46, 3) := by decide +kernel
theorem dX9_blow_17 : decode cX9_blow 17 = .ok (.iload_n 2, 1) := by decide +kernel
theorem dX9_blow_18 : decode cX9_blow 18 = .ok (.iaload, 1) := by decide +kernel
theorem dX9_blow_19 : decode cX9_blow 19 = .ok (.istore 4, 2) := by decide +kernel
theorem dX9_blow_21 : decode cX9_blow 21 = .ok (.iload_n 3, 1) := by decide +kernel
theorem dX9_blow_22 : decode cX9_blow 22 = .ok (.ifCond .ne 12, 3) := by decide +kernel
theorem dX9_blow_25 : decode cX9_blow 25 = .ok (.iload 4, 2) := by decide +kernel
theorem dX9_blow_27 : decode cX9_blow 27 = .ok (.ifCond .ne 7, 3) := by decide +kernel
theorem dX9_blow_30 : decode cX9_blow 30 = .ok (.iconst 1, 1) := by decide +kernel
theorem dX9_blow_31 : decode cX9_blow 31 = .ok (.goto 4, 3) := by decide +kernel
theorem dX9_blow_34 : decode cX9_blow 34 = .ok (.iconst 0, 1) := by decide +kernel
theorem dX9_blow_35 : decode cX9_blow 35 = .ok (.istore 5, 2) := by decide +kernel
theorem dX9_blow_37 : decode cX9_blow 37 = .ok (.aload_n 0, 1) := by decide +kernel
theorem dX9_blow_38 : decode cX9_blow 38 = .ok (.invokevirtual 49, 3) := by decide +kernel
theorem dX9_blow_41 : decode cX9_blow 41 = .ok (.astore 6, 2) := by decide +kernel
theorem dX9_blow_43 : decode cX9_blow 43 = .ok (.iconst 0, 1) := by decide +kernel
theorem dX9_blow_44 : decode cX9_blow 44 = .ok (.istore 7, 2) := by decide +kernel
theorem dX9_blow_46 : decode cX9_blow 46 = .ok (.aload_n 0, 1) := by decide +kernel
theorem dX9_blow_47 : decode cX9_blow 47 = .ok (.aload_n 1, 1) := by decide +kernel
theorem dX9_blow_48 : decode cX9_blow 48 = .ok (.iload_n 3, 1) := by decide +kernel
theorem dX9_blow_49 : decode cX9_blow 49 = .ok (.iload 4, 2) := by decide +kernel
theorem dX9_blow_51 : decode cX9_blow 51 = .ok (.invokevirtual 53, 3) := by decide +kernel
theorem dX9_blow_54 : decode cX9_blow 54 = .ok (.iconst 0, 1) := by decide +kernel
theorem dX9_blow_55 : decode cX9_blow 55 = .ok (.istore 8, 2) := by decide +kernel
theorem dX9_blow_57 : decode cX9_blow 57 = .ok (.iload 8, 2) := by decide +kernel
theorem dX9_blow_59 : decode cX9_blow 59 = .ok (.aload_n 1, 1) := by decide +kernel
theorem dX9_blow_60 : decode cX9_blow 60 = .ok (.getfield 57, 3) := by decide +kernel
theorem dX9_blow_63 : decode cX9_blow 63 = .ok (.if_icmp .ge 145, 3) := by decide +kernel
theorem dX9_blow_66 : decode cX9_blow 66 = .ok (.aload_n 0, 1) := by decide +kernel
theorem dX9_blow_67 : decode cX9_blow 67 = .ok (.getfield 18, 3) := by decide +kernel
theorem dX9_blow_70 : decode cX9_blow 70 = .ok (.iload 8, 2) := by decide +kernel
theorem dX9_blow_72 : decode cX9_blow 72 = .ok (.iaload, 1) := by decide +kernel
theorem dX9_blow_73 : decode cX9_blow 73 = .ok (.istore 9, 2) := by decide +kernel
theorem dX9_blow_75 : decode cX9_blow 75 = .ok (.aload_n 1, 1) := by decide +kernel
theorem dX9_blow_76 : decode cX9_blow 76 = .ok (.getfield 62, 3) := by decide +kernel
theorem dX9_blow_79 : decode cX9_blow 79 = .ok (.iload 9, 2) := by decide +kernel
theorem dX9_blow_81 : decode cX9_blow 81 = .ok (.iaload, 1) := by decide +kernel
theorem dX9_blow_82 : decode cX9_blow 82 = .ok (.istore 10, 2) := by decide +kernel
theorem dX9_blow_84 : decode cX9_blow 84 = .ok (.iload 5, 2) := by decide +kernel
theorem dX9_blow_86 : decode cX9_blow 86 = .ok (.ifCond .ne 22, 3) := by decide +kernel
theorem dX9_blow_89 : decode cX9_blow 89 = .ok (.aload_n 1, 1) := by decide +kernel
theorem dX9_blow_90 : decode cX9_blow 90 = .ok (.aload_n 1, 1) := by decide +kernel
theorem dX9_blow_91 : decode cX9_blow 91 = .ok (.getfield 65, 3) := by decide +kernel
theorem dX9_blow_94 : decode cX9_blow 94 = .ok (.iload 10, 2) := by decide +kernel
theorem dX9_blow_96 : decode cX9_blow 96 = .ok (.iload_n 3, 1) := by decide +kernel
theorem dX9_blow_97 : decode cX9_blow 97 = .ok (.iload 4, 2) := by decide +kernel
theorem dX9_blow_99 : decode cX9_blow 99 = .ok (.invokevirtual 69, 3) := by decide +kernel
theorem dX9_blow_102 : decode cX9_blow 102 = .ok (.invokevirtual 75, 3) := by decide +kernel
theorem dX9_blow_105 : decode cX9_blow 105 = .ok (.ifCond .ne 7, 3) := by decide +kernel
theorem dX9_blow_108 : decode cX9_blow 108 = .ok (.iconst 1, 1) := by decide +kernel
theorem dX9_blow_109 : decode cX9_blow 109 = .ok (.goto 4, 3) := by decide +kernel
theorem dX9_blow_112 : decode cX9_blow 112 = .ok (.iconst 0, 1) := by decide +kernel
theorem dX9_blow_113 : decode cX9_blow 113 = .ok (.istore 11, 2) := by decide +kernel
theorem dX9_blow_115 : decode cX9_blow 115 = .ok (.iload 11, 2) := by decide +kernel
theorem dX9_blow_117 : decode cX9_blow 117 = .ok (.ifCond .eq 7, 3) := by decide +kernel
theorem dX9_blow_120 : decode cX9_blow 120 = .ok (.iconst 0, 1) := by decide +kernel
theorem dX9_blow_121 : decode cX9_blow 121 = .ok (.goto 24, 3) := by decide +kernel
theorem dX9_blow_124 : decode cX9_blow 124 = .ok (.aload_n 0, 1) := by decide +kernel
theorem dX9_blow_125 : decode cX9_blow 125 = .ok (.getfield 29, 3) := by decide +kernel
theorem dX9_blow_128 : decode cX9_blow 128 = .ok (.aload_n 1, 1) := by decide +kernel
theorem dX9_blow_129 : decode cX9_blow 129 = .ok (.iload 9, 2) := by decide +kernel
theorem dX9_blow_131 : decode cX9_blow 131 = .ok (.aload_n 0, 1) := by decide +kernel
theorem dX9_blow_132 : decode cX9_blow 132 = .ok (.getfield 21, 3) := by decide +kernel
theorem dX9_blow_135 : decode cX9_blow 135 = .ok (.getfield 78, 3) := by decide +kernel
theorem dX9_blow_138 : decode cX9_blow 138 = .ok (.iload_n 2, 1) := by decide +kernel
theorem dX9_blow_139 : decode cX9_blow 139 = .ok (.iaload, 1) := by decide +kernel
theorem dX9_blow_140 : decode cX9_blow 140 = .ok (.aload 6, 2) := by decide +kernel
theorem dX9_blow_142 : decode cX9_blow 142 = .ok (.invokevirtual 81, 3) := by decide +kernel
theorem dX9_blow_145 : decode cX9_blow 145 = .ok (.istore 12, 2) := by decide +kernel
theorem dX9_blow_147 : decode cX9_blow 147 = .ok (.aload_n 1, 1) := by decide +kernel
theorem dX9_blow_148 : decode cX9_blow 148 = .ok (.iload 10, 2) := by decide +kernel
theorem dX9_blow_150 : decode cX9_blow 150 = .ok (.iload 12, 2) := by decide +kernel
theorem dX9_blow_152 : decode cX9_blow 152 = .ok (.iload_n 3, 1) := by decide +kernel
theorem dX9_blow_153 : decode cX9_blow 153 = .ok (.iload 4, 2) := by decide +kernel
theorem dX9_blow_155 : decode cX9_blow 155 = .ok (.invokestatic 87, 3) := by decide +kernel
theorem dX9_blow_158 : decode cX9_blow 158 = .ok (.istore 13, 2) := by decide +kernel
theorem dX9_blow_160 : decode cX9_blow 160 = .ok (.iload 13, 2) := by decide +kernel
theorem dX9_blow_162 : decode cX9_blow 162 = .ok (.iload 10, 2) := by decide +kernel
theorem dX9_blow_164 : decode cX9_blow 164 = .ok (.if_icmp .eq 17, 3) := by decide +kernel
theorem dX9_blow_167 : decode cX9_blow 167 = .ok (.aload_n 1, 1) := by decide +kernel
theorem dX9_blow_168 : decode cX9_blow 168 = .ok (.iload 9, 2) := by decide +kernel
theorem dX9_blow_170 : decode cX9_blow 170 = .ok (.iload 13, 2) := by decide +kernel
theorem dX9_blow_172 : decode cX9_blow 172 = .ok (.invokevirtual 91, 3) := by decide +kernel
theorem dX9_blow_175 : decode cX9_blow 175 = .ok (.iinc 7 1, 3) := by decide +kernel
theorem dX9_blow_178 : decode cX9_blow 178 = .ok (.goto 24, 3) := by decide +kernel
theorem dX9_blow_181 : decode cX9_blow 181 = .ok (.aload_n 1, 1) := by decide +kernel
theorem dX9_blow_182 : decode cX9_blow 182 = .ok (.getfield 95, 3) := by decide +kernel
theorem dX9_blow_185 : decode cX9_blow 185 = .ok (.iload 9, 2) := by decide +kernel
theorem dX9_blow_187 : decode cX9_blow 187 = .ok (.bipush 99, 2) := by decide +kernel
theorem dX9_blow_189 : decode cX9_blow 189 = .ok (.aload_n 1, 1) := by decide +kernel
theorem dX9_blow_190 : decode cX9_blow 190 = .ok (.getfield 95, 3) := by decide +kernel
theorem dX9_blow_193 : decode cX9_blow 193 = .ok (.iload 9, 2) := by decide +kernel
theorem dX9_blow_195 : decode cX9_blow 195 = .ok (.iaload, 1) := by decide +kernel
theorem dX9_blow_196 : decode cX9_blow 196 = .ok (.iconst 1, 1) := by decide +kernel
theorem dX9_blow_197 : decode cX9_blow 197 = .ok (.iadd, 1) := by decide +kernel
theorem dX9_blow_198 : decode cX9_blow 198 = .ok (.invokestatic 98, 3) := by decide +kernel
theorem dX9_blow_201 : decode cX9_blow 201 = .ok (.iastore, 1) := by decide +kernel
theorem dX9_blow_202 : decode cX9_blow 202 = .ok (.iinc 8 1, 3) := by decide +kernel
theorem dX9_blow_205 : decode cX9_blow 205 = .ok (.goto (-148), 3) := by decide +kernel
theorem dX9_blow_208 : decode cX9_blow 208 = .ok (.aload_n 1, 1) := by decide +kernel
theorem dX9_blow_209 : decode cX9_blow 209 = .ok (.dup, 1) := by decide +kernel
theorem dX9_blow_210 : decode cX9_blow 210 = .ok (.getfield 104, 3) := by decide +kernel
theorem dX9_blow_213 : decode cX9_blow 213 = .ok (.iconst 1, 1) := by decide +kernel
theorem dX9_blow_214 : decode cX9_blow 214 = .ok (.iadd, 1) := by decide +kernel
theorem dX9_blow_215 : decode cX9_blow 215 = .ok (.putfield 104, 3) := by decide +kernel
theorem dX9_blow_218 : decode cX9_blow 218 = .ok (.iload 7, 2) := by decide +kernel
theorem dX9_blow_220 : decode cX9_blow 220 = .ok (.ireturn, 1) := by decide +kernel
theorem dX9_reached_0 : decode cX9_reached 0 = .ok (.iload_n 1, 1) := by decide +kernel
theorem dX9_reached_1 : decode cX9_reached 1 = .ok (.istore 5, 2) := by decide +kernel
theorem dX9_reached_3 : decode cX9_reached 3 = .ok (.iconst 0, 1) := by decide +kernel
theorem dX9_reached_4 : decode cX9_reached 4 = .ok (.istore 6, 2) := by decide +kernel
theorem dX9_reached_6 : decode cX9_reached 6 = .ok (.iload 6, 2) := by decide +kernel
theorem dX9_reached_8 : decode cX9_reached 8 = .ok (.iload_n 2, 1) := by decide +kernel
theorem dX9_reached_9 : decode cX9_reached 9 = .ok (.if_icmp .ge 39, 3) := by decide +kernel
theorem dX9_reached_12 : decode cX9_reached 12 = .ok (.aload_n 0, 1) := by decide +kernel
theorem dX9_reached_13 : decode cX9_reached 13 = .ok (.getfield 65, 3) := by decide +kernel
theorem dX9_reached_16 : decode cX9_reached 16 = .ok (.iload 5, 2) := by decide +kernel
theorem dX9_reached_18 : decode cX9_reached 18 = .ok (.iload_n 3, 1) := by decide +kernel
theorem dX9_reached_19 : decode cX9_reached 19 = .ok (.iload 4, 2) := by decide +kernel
theorem dX9_reached_21 : decode cX9_reached 21 = .ok (.invokevirtual 69, 3) := by decide +kernel
theorem dX9_reached_24 : decode cX9_reached 24 = .ok (.istore 7, 2) := by decide +kernel
theorem dX9_reached_26 : decode cX9_reached 26 = .ok (.aload_n 0, 1) := by decide +kernel
theorem dX9_reached_27 : decode cX9_reached 27 = .ok (.iload 7, 2) := by decide +kernel
theorem dX9_reached_29 : decode cX9_reached 29 = .ok (.invokevirtual 75, 3) := by decide +kernel
theorem dX9_reached_32 : decode cX9_reached 32 = .ok (.ifCond .ne 6, 3) := by decide +kernel
theorem dX9_reached_35 : decode cX9_reached 35 = .ok (.iload 5, 2) := by decide +kernel
theorem dX9_reached_37 : decode cX9_reached 37 = .ok (.ireturn, 1) := by decide +kernel
theorem dX9_reached_38 : decode cX9_reached 38 = .ok (.iload 7, 2) := by decide +kernel
theorem dX9_reached_40 : decode cX9_reached 40 = .ok (.istore 5, 2) := by decide +kernel
theorem dX9_reached_42 : decode cX9_reached 42 = .ok (.iinc 6 1, 3) := by decide +kernel
theorem dX9_reached_45 : decode cX9_reached 45 = .ok (.goto (-39), 3) := by decide +kernel
theorem dX9_reached_48 : decode cX9_reached 48 = .ok (.iload 5, 2) := by decide +kernel
theorem dX9_reached_50 : decode cX9_reached 50 = .ok (.ireturn, 1) := by decide +kernel
theorem dX9_putInOrder_0 : decode cX9_putInOrder 0 = .ok (.aload_n 1, 1) := by decide +kernel
theorem dX9_putInOrder_1 : decode cX9_putInOrder 1 = .ok (.getfield 65, 3) := by decide +kernel
theorem dX9_putInOrder_4 : decode cX9_putInOrder 4 = .ok (.getfield 107, 3) := by decide +kernel
theorem dX9_putInOrder_7 : decode cX9_putInOrder 7 = .ok (.istore 4, 2) := by decide +kernel
theorem dX9_putInOrder_9 : decode cX9_putInOrder 9 = .ok (.aload_n 0, 1) := by decide +kernel
theorem dX9_putInOrder_10 : decode cX9_putInOrder 10 = .ok (.getfield 15, 3) := by decide +kernel
theorem dX9_putInOrder_13 : decode cX9_putInOrder 13 = .ok (.iconst 0, 1) := by decide +kernel
theorem dX9_putInOrder_14 : decode cX9_putInOrder 14 = .ok (.invokestatic 110, 3) := by decide +kernel
theorem dX9_putInOrder_17 : decode cX9_putInOrder 17 = .ok (.iconst 0, 1) := by decide +kernel
theorem dX9_putInOrder_18 : decode cX9_putInOrder 18 = .ok (.istore 5, 2) := by decide +kernel
theorem dX9_putInOrder_20 : decode cX9_putInOrder 20 = .ok (.iload 5, 2) := by decide +kernel
theorem dX9_putInOrder_22 : decode cX9_putInOrder 22 = .ok (.aload_n 1, 1) := by decide +kernel
theorem dX9_putInOrder_23 : decode cX9_putInOrder 23 = .ok (.getfield 57, 3) := by decide +kernel
theorem dX9_putInOrder_26 : decode cX9_putInOrder 26 = .ok (.if_icmp .ge 60, 3) := by decide +kernel
theorem dX9_putInOrder_29 : decode cX9_putInOrder 29 = .ok (.aload_n 1, 1) := by decide +kernel
theorem dX9_putInOrder_30 : decode cX9_putInOrder 30 = .ok (.getfield 62, 3) := by decide +kernel
theorem dX9_putInOrder_33 : decode cX9_putInOrder 33 = .ok (.iload 5, 2) := by decide +kernel
theorem dX9_putInOrder_35 : decode cX9_putInOrder 35 = .ok (.iaload, 1) := by decide +kernel
theorem dX9_putInOrder_36 : decode cX9_putInOrder 36 = .ok (.istore 6, 2) := by decide +kernel
theorem dX9_putInOrder_38 : decode cX9_putInOrder 38 = .ok (.bipush 12, 2) := by decide +kernel
theorem dX9_putInOrder_40 : decode cX9_putInOrder 40 = .ok (.iload 6, 2) := by decide +kernel
theorem dX9_putInOrder_42 : decode cX9_putInOrder 42 = .ok (.iload 4, 2) := by decide +kernel
theorem dX9_putInOrder_44 : decode cX9_putInOrder 44 = .ok (.irem, 1) := by decide +kernel
theorem dX9_putInOrder_45 : decode cX9_putInOrder 45 = .ok (.iload_n 2, 1) := by decide +kernel
theorem dX9_putInOrder_46 : decode cX9_putInOrder 46 = .ok (.imul, 1) := by decide +kernel
theorem dX9_putInOrder_47 : decode cX9_putInOrder 47 = .ok (.isub, 1) := by decide +kernel
theorem dX9_putInOrder_48 : decode cX9_putInOrder 48 = .ok (.iload 6, 2) := by decide +kernel
theorem dX9_putInOrder_50 : decode cX9_putInOrder 50 = .ok (.iload 4, 2) := by decide +kernel
theorem dX9_putInOrder_52 : decode cX9_putInOrder 52 = .ok (.idiv, 1) := by decide +kernel
theorem dX9_putInOrder_53 : decode cX9_putInOrder 53 = .ok (.iload_n 3, 1) := by decide +kernel
theorem dX9_putInOrder_54 : decode cX9_putInOrder 54 = .ok (.imul, 1) := by decide +kernel
theorem dX9_putInOrder_55 : decode cX9_putInOrder 55 = .ok (.isub, 1) := by decide +kernel
theorem dX9_putInOrder_56 : decode cX9_putInOrder 56 = .ok (.istore 7, 2) := by decide +kernel
theorem dX9_putInOrder_58 : decode cX9_putInOrder 58 = .ok (.aload_n 0, 1) := by decide +kernel
theorem dX9_putInOrder_59 : decode cX9_putInOrder 59 = .ok (.getfield 9, 3) := by decide +kernel
theorem dX9_putInOrder_62 : decode cX9_putInOrder 62 = .ok (.iload 5, 2) := by decide +kernel
theorem dX9_putInOrder_64 : decode cX9_putInOrder 64 = .ok (.iload 7, 2) := by decide +kernel
theorem dX9_putInOrder_66 : decode cX9_putInOrder 66 = .ok (.iastore, 1) := by decide +kernel
theorem dX9_putInOrder_67 : decode cX9_putInOrder 67 = .ok (.aload_n 0, 1) := by decide +kernel
theorem dX9_putInOrder_68 : decode cX9_putInOrder 68 = .ok (.getfield 15, 3) := by decide +kernel
theorem dX9_putInOrder_71 : decode cX9_putInOrder 71 = .ok (.iload 7, 2) := by decide +kernel
theorem dX9_putInOrder_73 : decode cX9_putInOrder 73 = .ok (.iconst 1, 1) := by decide +kernel
theorem dX9_putInOrder_74 : decode cX9_putInOrder 74 = .ok (.iadd, 1) := by decide +kernel
theorem dX9_putInOrder_75 : decode cX9_putInOrder 75 = .ok (.dup2, 1) := by decide +kernel
theorem dX9_putInOrder_76 : decode cX9_putInOrder 76 = .ok (.iaload, 1) := by decide +kernel
theorem dX9_putInOrder_77 : decode cX9_putInOrder 77 = .ok (.iconst 1, 1) := by decide +kernel
theorem dX9_putInOrder_78 : decode cX9_putInOrder 78 = .ok (.iadd, 1) := by decide +kernel
theorem dX9_putInOrder_79 : decode cX9_putInOrder 79 = .ok (.iastore, 1) := by decide +kernel
theorem dX9_putInOrder_80 : decode cX9_putInOrder 80 = .ok (.iinc 5 1, 3) := by decide +kernel
theorem dX9_putInOrder_83 : decode cX9_putInOrder 83 = .ok (.goto (-63), 3) := by decide +kernel
theorem dX9_putInOrder_86 : decode cX9_putInOrder 86 = .ok (.iconst 1, 1) := by decide +kernel
theorem dX9_putInOrder_87 : decode cX9_putInOrder 87 = .ok (.istore 5, 2) := by decide +kernel
theorem dX9_putInOrder_89 : decode cX9_putInOrder 89 = .ok (.iload 5, 2) := by decide +kernel
theorem dX9_putInOrder_91 : decode cX9_putInOrder 91 = .ok (.aload_n 0, 1) := by decide +kernel
theorem dX9_putInOrder_92 : decode cX9_putInOrder 92 = .ok (.getfield 15, 3) := by decide +kernel
theorem dX9_putInOrder_95 : decode cX9_putInOrder 95 = .ok (.arraylength, 1) := by decide +kernel
theorem dX9_putInOrder_96 : decode cX9_putInOrder 96 = .ok (.if_icmp .ge 28, 3) := by decide +kernel
theorem dX9_putInOrder_99 : decode cX9_putInOrder 99 = .ok (.aload_n 0, 1) := by decide +kernel
theorem dX9_putInOrder_100 : decode cX9_putInOrder 100 = .ok (.getfield 15, 3) := by decide +kernel
theorem dX9_putInOrder_103 : decode cX9_putInOrder 103 = .ok (.iload 5, 2) := by decide +kernel
theorem dX9_putInOrder_105 : decode cX9_putInOrder 105 = .ok (.dup2, 1) := by decide +kernel
theorem dX9_putInOrder_106 : decode cX9_putInOrder 106 = .ok (.iaload, 1) := by decide +kernel
theorem dX9_putInOrder_107 : decode cX9_putInOrder 107 = .ok (.aload_n 0, 1) := by decide +kernel
theorem dX9_putInOrder_108 : decode cX9_putInOrder 108 = .ok (.getfield 15, 3) := by decide +kernel
theorem dX9_putInOrder_111 : decode cX9_putInOrder 111 = .ok (.iload 5, 2) := by decide +kernel
theorem dX9_putInOrder_113 : decode cX9_putInOrder 113 = .ok (.iconst 1, 1) := by decide +kernel
theorem dX9_putInOrder_114 : decode cX9_putInOrder 114 = .ok (.isub, 1) := by decide +kernel
theorem dX9_putInOrder_115 : decode cX9_putInOrder 115 = .ok (.iaload, 1) := by decide +kernel
theorem dX9_putInOrder_116 : decode cX9_putInOrder 116 = .ok (.iadd, 1) := by decide +kernel
theorem dX9_putInOrder_117 : decode cX9_putInOrder 117 = .ok (.iastore, 1) := by decide +kernel
theorem dX9_putInOrder_118 : decode cX9_putInOrder 118 = .ok (.iinc 5 1, 3) := by decide +kernel
theorem dX9_putInOrder_121 : decode cX9_putInOrder 121 = .ok (.goto (-32), 3) := by decide +kernel
theorem dX9_putInOrder_124 : decode cX9_putInOrder 124 = .ok (.iconst 0, 1) := by decide +kernel
theorem dX9_putInOrder_125 : decode cX9_putInOrder 125 = .ok (.istore 5, 2) := by decide +kernel
theorem dX9_putInOrder_127 : decode cX9_putInOrder 127 = .ok (.iload 5, 2) := by decide +kernel
theorem dX9_putInOrder_129 : decode cX9_putInOrder 129 = .ok (.aload_n 1, 1) := by decide +kernel
theorem dX9_putInOrder_130 : decode cX9_putInOrder 130 = .ok (.getfield 57, 3) := by decide +kernel
theorem dX9_putInOrder_133 : decode cX9_putInOrder 133 = .ok (.if_icmp .ge 44, 3) := by decide +kernel
theorem dX9_putInOrder_136 : decode cX9_putInOrder 136 = .ok (.aload_n 0, 1) := by decide +kernel
theorem dX9_putInOrder_137 : decode cX9_putInOrder 137 = .ok (.getfield 18, 3) := by decide +kernel
theorem dX9_putInOrder_140 : decode cX9_putInOrder 140 = .ok (.aload_n 0, 1) := by decide +kernel
theorem dX9_putInOrder_141 : decode cX9_putInOrder 141 = .ok (.getfield 15, 3) := by decide +kernel
theorem dX9_putInOrder_144 : decode cX9_putInOrder 144 = .ok (.aload_n 0, 1) := by decide +kernel
theorem dX9_putInOrder_145 : decode cX9_putInOrder 145 = .ok (.getfield 9, 3) := by decide +kernel
theorem dX9_putInOrder_148 : decode cX9_putInOrder 148 = .ok (.iload 5, 2) := by decide +kernel
theorem dX9_putInOrder_150 : decode cX9_putInOrder 150 = .ok (.iaload, 1) := by decide +kernel
theorem dX9_putInOrder_151 : decode cX9_putInOrder 151 = .ok (.iaload, 1) := by decide +kernel
theorem dX9_putInOrder_152 : decode cX9_putInOrder 152 = .ok (.iload 5, 2) := by decide +kernel
theorem dX9_putInOrder_154 : decode cX9_putInOrder 154 = .ok (.iastore, 1) := by decide +kernel
theorem dX9_putInOrder_155 : decode cX9_putInOrder 155 = .ok (.aload_n 0, 1) := by decide +kernel
theorem dX9_putInOrder_156 : decode cX9_putInOrder 156 = .ok (.getfield 15, 3) := by decide +kernel
theorem dX9_putInOrder_159 : decode cX9_putInOrder 159 = .ok (.aload_n 0, 1) := by decide +kernel
theorem dX9_putInOrder_160 : decode cX9_putInOrder 160 = .ok (.getfield 9, 3) := by decide +kernel
theorem dX9_putInOrder_163 : decode cX9_putInOrder 163 = .ok (.iload 5, 2) := by decide +kernel
theorem dX9_putInOrder_165 : decode cX9_putInOrder 165 = .ok (.iaload, 1) := by decide +kernel
theorem dX9_putInOrder_166 : decode cX9_putInOrder 166 = .ok (.dup2, 1) := by decide +kernel
theorem dX9_putInOrder_167 : decode cX9_putInOrder 167 = .ok (.iaload, 1) := by decide +kernel
theorem dX9_putInOrder_168 : decode cX9_putInOrder 168 = .ok (.iconst 1, 1) := by decide +kernel
theorem dX9_putInOrder_169 : decode cX9_putInOrder 169 = .ok (.iadd, 1) := by decide +kernel
theorem dX9_putInOrder_170 : decode cX9_putInOrder 170 = .ok (.iastore, 1) := by decide +kernel
theorem dX9_putInOrder_171 : decode cX9_putInOrder 171 = .ok (.iinc 5 1, 3) := by decide +kernel
theorem dX9_putInOrder_174 : decode cX9_putInOrder 174 = .ok (.goto (-47), 3) := by decide +kernel
theorem dX9_putInOrder_177 : decode cX9_putInOrder 177 = .ok (.return_, 1) := by decide +kernel
