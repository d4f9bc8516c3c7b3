theorem dX10_init_0 : decode cX10_init 0 = .ok (.aload_n 0, 1) := by decide +kernel
theorem dX10_init_1 : decode cX10_init 1 = .ok (.invokespecial 1, 3) := by decide +kernel
theorem dX10_init_4 : decode cX10_init 4 = .ok (.aload_n 0, 1) := by decide +kernel
theorem dX10_init_5 : decode cX10_init 5 = .ok (.new 7, 3) := by decide +kernel
theorem dX10_init_8 : decode cX10_init 8 = .ok (.dup, 1) := by decide +kernel
theorem dX10_init_9 : decode cX10_init 9 = .ok (.invokespecial 9, 3) := by decide +kernel
theorem dX10_init_12 : decode cX10_init 12 = .ok (.putfield 10, 3) := by decide +kernel
theorem dX10_init_15 : decode cX10_init 15 = .ok (.aload_n 0, 1) := by decide +kernel
theorem dX10_init_16 : decode cX10_init 16 = .ok (.new 7, 3) := by decide +kernel
theorem dX10_init_19 : decode cX10_init 19 = .ok (.dup, 1) := by decide +kernel
theorem dX10_init_20 : decode cX10_init 20 = .ok (.invokespecial 9, 3) := by decide +kernel
theorem dX10_init_23 : decode cX10_init 23 = .ok (.putfield 16, 3) := by decide +kernel
theorem dX10_init_26 : decode cX10_init 26 = .ok (.aload_n 0, 1) := by decide +kernel
theorem dX10_init_27 : decode cX10_init 27 = .ok (.new 19, 3) := by decide +kernel
theorem dX10_init_30 : decode cX10_init 30 = .ok (.dup, 1) := by decide +kernel
theorem dX10_init_31 : decode cX10_init 31 = .ok (.invokespecial 21, 3) := by decide +kernel
theorem dX10_init_34 : decode cX10_init 34 = .ok (.putfield 22, 3) := by decide +kernel
theorem dX10_init_37 : decode cX10_init 37 = .ok (.aload_n 0, 1) := by decide +kernel
theorem dX10_init_38 : decode cX10_init 38 = .ok (.new 26, 3) := by decide +kernel
theorem dX10_init_41 : decode cX10_init 41 = .ok (.dup, 1) := by decide +kernel
theorem dX10_init_42 : decode cX10_init 42 = .ok (.invokespecial 28, 3) := by decide +kernel
theorem dX10_init_45 : decode cX10_init 45 = .ok (.putfield 29, 3) := by decide +kernel
theorem dX10_init_48 : decode cX10_init 48 = .ok (.aload_n 0, 1) := by decide +kernel
theorem dX10_init_49 : decode cX10_init 49 = .ok (.iconst 4, 1) := by decide +kernel
theorem dX10_init_50 : decode cX10_init 50 = .ok (.anewarray 33, 3) := by decide +kernel
theorem dX10_init_53 : decode cX10_init 53 = .ok (.putfield 35, 3) := by decide +kernel
theorem dX10_init_56 : decode cX10_init 56 = .ok (.aload_n 0, 1) := by decide +kernel
theorem dX10_init_57 : decode cX10_init 57 = .ok (.new 39, 3) := by decide +kernel
theorem dX10_init_60 : decode cX10_init 60 = .ok (.dup, 1) := by decide +kernel
theorem dX10_init_61 : decode cX10_init 61 = .ok (.invokespecial 41, 3) := by decide +kernel
theorem dX10_init_64 : decode cX10_init 64 = .ok (.putfield 42, 3) := by decide +kernel
theorem dX10_init_67 : decode cX10_init 67 = .ok (.aload_n 0, 1) := by decide +kernel
theorem dX10_init_68 : decode cX10_init 68 = .ok (.new 46, 3) := by decide +kernel
theorem dX10_init_71 : decode cX10_init 71 = .ok (.dup, 1) := by decide +kernel
theorem dX10_init_72 : decode cX10_init 72 = .ok (.aload_n 0, 1) := by decide +kernel
theorem dX10_init_73 : decode cX10_init 73 = .ok (.getfield 10, 3) := by decide +kernel
theorem dX10_init_76 : decode cX10_init 76 = .ok (.aload_n 0, 1) := by decide +kernel
theorem dX10_init_77 : decode cX10_init 77 = .ok (.getfield 35, 3) := by decide +kernel
theorem dX10_init_80 : decode cX10_init 80 = .ok (.aload_n 0, 1) := by decide +kernel
theorem dX10_init_81 : decode cX10_init 81 = .ok (.getfield 42, 3) := by decide +kernel
theorem dX10_init_84 : decode cX10_init 84 = .ok (.invokespecial 48, 3) := by decide +kernel
theorem dX10_init_87 : decode cX10_init 87 = .ok (.putfield 51, 3) := by decide +kernel
theorem dX10_init_90 : decode cX10_init 90 = .ok (.aload_n 0, 1) := by decide +kernel
theorem dX10_init_91 : decode cX10_init 91 = .ok (.new 55, 3) := by decide +kernel
theorem dX10_init_94 : decode cX10_init 94 = .ok (.dup, 1) := by decide +kernel
theorem dX10_init_95 : decode cX10_init 95 = .ok (.iconst 3, 1) := by decide +kernel
theorem dX10_init_96 : decode cX10_init 96 = .ok (.bipush 8, 2) := by decide +kernel
theorem dX10_init_98 : decode cX10_init 98 = .ok (.iload_n 1, 1) := by decide +kernel
theorem dX10_init_99 : decode cX10_init 99 = .ok (.invokestatic 57, 3) := by decide +kernel
theorem dX10_init_102 : decode cX10_init 102 = .ok (.invokestatic 63, 3) := by decide +kernel
theorem dX10_init_105 : decode cX10_init 105 = .ok (.iconst 3, 1) := by decide +kernel
theorem dX10_init_106 : decode cX10_init 106 = .ok (.bipush 6, 2) := by decide +kernel
theorem dX10_init_108 : decode cX10_init 108 = .ok (.iload_n 2, 1) := by decide +kernel
theorem dX10_init_109 : decode cX10_init 109 = .ok (.invokestatic 57, 3) := by decide +kernel
theorem dX10_init_112 : decode cX10_init 112 = .ok (.invokestatic 63, 3) := by decide +kernel
theorem dX10_init_115 : decode cX10_init 115 = .ok (.invokespecial 66, 3) := by decide +kernel
theorem dX10_init_118 : decode cX10_init 118 = .ok (.putfield 69, 3) := by decide +kernel
theorem dX10_init_121 : decode cX10_init 121 = .ok (.aload_n 0, 1) := by decide +kernel
theorem dX10_init_122 : decode cX10_init 122 = .ok (.new 73, 3) := by decide +kernel
theorem dX10_init_125 : decode cX10_init 125 = .ok (.dup, 1) := by decide +kernel
theorem dX10_init_126 : decode cX10_init 126 = .ok (.aload_n 0, 1) := by decide +kernel
theorem dX10_init_127 : decode cX10_init 127 = .ok (.getfield 69, 3) := by decide +kernel
theorem dX10_init_130 : decode cX10_init 130 = .ok (.invokespecial 75, 3) := by decide +kernel
theorem dX10_init_133 : decode cX10_init 133 = .ok (.putfield 78, 3) := by decide +kernel
theorem dX10_init_136 : decode cX10_init 136 = .ok (.aload_n 0, 1) := by decide +kernel
theorem dX10_init_137 : decode cX10_init 137 = .ok (.new 73, 3) := by decide +kernel
theorem dX10_init_140 : decode cX10_init 140 = .ok (.dup, 1) := by decide +kernel
theorem dX10_init_141 : decode cX10_init 141 = .ok (.aload_n 0, 1) := by decide +kernel
theorem dX10_init_142 : decode cX10_init 142 = .ok (.getfield 69, 3) := by decide +kernel
theorem dX10_init_145 : decode cX10_init 145 = .ok (.invokespecial 75, 3) := by decide +kernel
theorem dX10_init_148 : decode cX10_init 148 = .ok (.putfield 82, 3) := by decide +kernel
theorem dX10_init_151 : decode cX10_init 151 = .ok (.aload_n 0, 1) := by decide +kernel
theorem dX10_init_152 : decode cX10_init 152 = .ok (.new 85, 3) := by decide +kernel
theorem dX10_init_155 : decode cX10_init 155 = .ok (.dup, 1) := by decide +kernel
theorem dX10_init_156 : decode cX10_init 156 = .ok (.aload_n 0, 1) := by decide +kernel
theorem dX10_init_157 : decode cX10_init 157 = .ok (.getfield 78, 3) := by decide +kernel
theorem dX10_init_160 : decode cX10_init 160 = .ok (.aload_n 0, 1) := by decide +kernel
theorem dX10_init_161 : decode cX10_init 161 = .ok (.getfield 10, 3) := by decide +kernel
theorem dX10_init_164 : decode cX10_init 164 = .ok (.aload_n 0, 1) := by decide +kernel
theorem dX10_init_165 : decode cX10_init 165 = .ok (.getfield 51, 3) := by decide +kernel
theorem dX10_init_168 : decode cX10_init 168 = .ok (.invokespecial 87, 3) := by decide +kernel
theorem dX10_init_171 : decode cX10_init 171 = .ok (.putfield 90, 3) := by decide +kernel
theorem dX10_init_174 : decode cX10_init 174 = .ok (.return_, 1) := by decide +kernel
theorem dX10_bone_0 : decode cX10_bone 0 = .ok (.aload_n 0, 1) := by decide +kernel
theorem dX10_bone_1 : decode cX10_bone 1 = .ok (.getfield 78, 3) := by decide +kernel
theorem dX10_bone_4 : decode cX10_bone 4 = .ok (.iload_n 1, 1) := by decide +kernel
theorem dX10_bone_5 : decode cX10_bone 5 = .ok (.iload_n 2, 1) := by decide +kernel
theorem dX10_bone_6 : decode cX10_bone 6 = .ok (.invokevirtual 94, 3) := by decide +kernel
theorem dX10_bone_9 : decode cX10_bone 9 = .ok (.ireturn, 1) := by decide +kernel
theorem dX10_stake_0 : decode cX10_stake 0 = .ok (.aload_n 0, 1) := by decide +kernel
theorem dX10_stake_1 : decode cX10_stake 1 = .ok (.getfield 78, 3) := by decide +kernel
theorem dX10_stake_4 : decode cX10_stake 4 = .ok (.iload_n 1, 1) := by decide +kernel
theorem dX10_stake_5 : decode cX10_stake 5 = .ok (.iload_n 2, 1) := by decide +kernel
theorem dX10_stake_6 : decode cX10_stake 6 = .ok (.invokevirtual 97, 3) := by decide +kernel
theorem dX10_stake_9 : decode cX10_stake 9 = .ok (.ireturn, 1) := by decide +kernel
theorem dX10_well_0 : decode cX10_well 0 = .ok (.aload_n 0, 1) := by decide +kernel
theorem dX10_well_1 : decode cX10_well 1 = .ok (.getfield 69, 3) := by decide +kernel
theorem dX10_well_4 : decode cX10_well 4 = .ok (.iload_n 1, 1) := by decide +kernel
theorem dX10_well_5 : decode cX10_well 5 = .ok (.invokevirtual 101, 3) := by decide +kernel
theorem dX10_well_8 : decode cX10_well 8 = .ok (.ifCond .ne 5, 3) := by decide +kernel
theorem dX10_well_11 : decode cX10_well 11 = .ok (.iconst 0, 1) := by decide +kernel
theorem dX10_well_12 : decode cX10_well 12 = .ok (.ireturn, 1) := by decide +kernel
theorem dX10_well_13 : decode cX10_well 13 = .ok (.lconst 1, 1) := by decide +kernel
theorem dX10_well_14 : decode cX10_well 14 = .ok (.iload_n 1, 1) := by decide +kernel
theorem dX10_well_15 : decode cX10_well 15 = .ok (.lshl, 1) := by decide +kernel
theorem dX10_well_16 : decode cX10_well 16 = .ok (.lstore_n 3, 1) := by decide +kernel
theorem dX10_well_17 : decode cX10_well 17 = .ok (.aload_n 0, 1) := by decide +kernel
theorem dX10_well_18 : decode cX10_well 18 = .ok (.getfield 78, 3) := by decide +kernel
theorem dX10_well_21 : decode cX10_well 21 = .ok (.iload_n 2, 1) := by decide +kernel
theorem dX10_well_22 : decode cX10_well 22 = .ok (.ifCond .eq 15, 3) := by decide +kernel
theorem dX10_well_25 : decode cX10_well 25 = .ok (.aload_n 0, 1) := by decide +kernel
theorem dX10_well_26 : decode cX10_well 26 = .ok (.getfield 78, 3) := by decide +kernel
theorem dX10_well_29 : decode cX10_well 29 = .ok (.getfield 105, 3) := by decide +kernel
theorem dX10_well_32 : decode cX10_well 32 = .ok (.lload_n 3, 1) := by decide +kernel
theorem dX10_well_33 : decode cX10_well 33 = .ok (.lor, 1) := by decide +kernel
theorem dX10_well_34 : decode cX10_well 34 = .ok (.goto 16, 3) := by decide +kernel
theorem dX10_well_37 : decode cX10_well 37 = .ok (.aload_n 0, 1) := by decide +kernel
theorem dX10_well_38 : decode cX10_well 38 = .ok (.getfield 78, 3) := by decide +kernel
theorem dX10_well_41 : decode cX10_well 41 = .ok (.getfield 105, 3) := by decide +kernel
theorem dX10_well_44 : decode cX10_well 44 = .ok (.lload_n 3, 1) := by decide +kernel
theorem dX10_well_45 : decode cX10_well 45 = .ok (.ldc2_w 109, 3) := by decide +kernel
theorem dX10_well_48 : decode cX10_well 48 = .ok (.lxor, 1) := by decide +kernel
theorem dX10_well_49 : decode cX10_well 49 = .ok (.land, 1) := by decide +kernel
theorem dX10_well_50 : decode cX10_well 50 = .ok (.putfield 105, 3) := by decide +kernel
theorem dX10_well_53 : decode cX10_well 53 = .ok (.iconst 1, 1) := by decide +kernel
theorem dX10_well_54 : decode cX10_well 54 = .ok (.ireturn, 1) := by decide +kernel
theorem dX10_wind_0 : decode cX10_wind 0 = .ok (.aload_n 0, 1) := by decide +kernel
theorem dX10_wind_1 : decode cX10_wind 1 = .ok (.getfield 10, 3) := by decide +kernel
theorem dX10_wind_4 : decode cX10_wind 4 = .ok (.iload_n 1, 1) := by decide +kernel
theorem dX10_wind_5 : decode cX10_wind 5 = .ok (.iload_n 2, 1) := by decide +kernel
theorem dX10_wind_6 : decode cX10_wind 6 = .ok (.iload_n 3, 1) := by decide +kernel
theorem dX10_wind_7 : decode cX10_wind 7 = .ok (.iload 4, 2) := by decide +kernel
theorem dX10_wind_9 : decode cX10_wind 9 = .ok (.invokevirtual 111, 3) := by decide +kernel
theorem dX10_wind_12 : decode cX10_wind 12 = .ok (.ireturn, 1) := by decide +kernel
theorem dX10_plan_0 : decode cX10_plan 0 = .ok (.iload_n 1, 1) := by decide +kernel
theorem dX10_plan_1 : decode cX10_plan 1 = .ok (.ifCond .lt 20, 3) := by decide +kernel
theorem dX10_plan_4 : decode cX10_plan 4 = .ok (.iload_n 1, 1) := by decide +kernel
theorem dX10_plan_5 : decode cX10_plan 5 = .ok (.bipush 40, 2) := by decide +kernel
theorem dX10_plan_7 : decode cX10_plan 7 = .ok (.if_icmp .ge 14, 3) := by decide +kernel
theorem dX10_plan_10 : decode cX10_plan 10 = .ok (.aload_n 0, 1) := by decide +kernel
theorem dX10_plan_11 : decode cX10_plan 11 = .ok (.getfield 10, 3) := by decide +kernel
theorem dX10_plan_14 : decode cX10_plan 14 = .ok (.iload_n 2, 1) := by decide +kernel
theorem dX10_plan_15 : decode cX10_plan 15 = .ok (.invokevirtual 115, 3) := by decide +kernel
theorem dX10_plan_18 : decode cX10_plan 18 = .ok (.ifCond .ne 5, 3) := by decide +kernel
theorem dX10_plan_21 : decode cX10_plan 21 = .ok (.iconst 0, 1) := by decide +kernel
theorem dX10_plan_22 : decode cX10_plan 22 = .ok (.ireturn, 1) := by decide +kernel
theorem dX10_plan_23 : decode cX10_plan 23 = .ok (.aload_n 0, 1) := by decide +kernel
theorem dX10_plan_24 : decode cX10_plan 24 = .ok (.getfield 10, 3) := by decide +kernel
theorem dX10_plan_27 : decode cX10_plan 27 = .ok (.getfield 118, 3) := by decide +kernel
theorem dX10_plan_30 : decode cX10_plan 30 = .ok (.iload_n 1, 1) := by decide +kernel
theorem dX10_plan_31 : decode cX10_plan 31 = .ok (.iload_n 2, 1) := by decide +kernel
theorem dX10_plan_32 : decode cX10_plan 32 = .ok (.iastore, 1) := by decide +kernel
theorem dX10_plan_33 : decode cX10_plan 33 = .ok (.iconst 1, 1) := by decide +kernel
theorem dX10_plan_34 : decode cX10_plan 34 = .ok (.ireturn, 1) := by decide +kernel
theorem dX10_feed_0 : decode cX10_feed 0 = .ok (.aload_n 0, 1) := by decide +kernel
theorem dX10_feed_1 : decode cX10_feed 1 = .ok (.getfield 22, 3) := by decide +kernel
theorem dX10_feed_4 : decode cX10_feed 4 = .ok (.getfield 122, 3) := by decide +kernel
theorem dX10_feed_7 : decode cX10_feed 7 = .ok (.bipush 20, 2) := by decide +kernel
theorem dX10_feed_9 : decode cX10_feed 9 = .ok (.iadd, 1) := by decide +kernel
theorem dX10_feed_10 : decode cX10_feed 10 = .ok (.sipush 300, 3) := by decide +kernel
theorem dX10_feed_13 : decode cX10_feed 13 = .ok (.if_icmp .le 5, 3) := by decide +kernel
theorem dX10_feed_16 : decode cX10_feed 16 = .ok (.iconst (-1), 1) := by decide +kernel
theorem dX10_feed_17 : decode cX10_feed 17 = .ok (.ireturn, 1) := by decide +kernel
theorem dX10_feed_18 : decode cX10_feed 18 = .ok (.aload_n 0, 1) := by decide +kernel
theorem dX10_feed_19 : decode cX10_feed 19 = .ok (.getfield 22, 3) := by decide +kernel
theorem dX10_feed_22 : decode cX10_feed 22 = .ok (.iload_n 1, 1) := by decide +kernel
theorem dX10_feed_23 : decode cX10_feed 23 = .ok (.invokevirtual 126, 3) := by decide +kernel
theorem dX10_feed_26 : decode cX10_feed 26 = .ok (.aload_n 0, 1) := by decide +kernel
theorem dX10_feed_27 : decode cX10_feed 27 = .ok (.getfield 22, 3) := by decide +kernel
theorem dX10_feed_30 : decode cX10_feed 30 = .ok (.iload_n 2, 1) := by decide +kernel
theorem dX10_feed_31 : decode cX10_feed 31 = .ok (.invokevirtual 126, 3) := by decide +kernel
theorem dX10_feed_34 : decode cX10_feed 34 = .ok (.aload_n 0, 1) := by decide +kernel
theorem dX10_feed_35 : decode cX10_feed 35 = .ok (.getfield 22, 3) := by decide +kernel
theorem dX10_feed_38 : decode cX10_feed 38 = .ok (.iload_n 3, 1) := by decide +kernel
theorem dX10_feed_39 : decode cX10_feed 39 = .ok (.invokevirtual 126, 3) := by decide +kernel
theorem dX10_feed_42 : decode cX10_feed 42 = .ok (.aload_n 0, 1) := by decide +kernel
theorem dX10_feed_43 : decode cX10_feed 43 = .ok (.getfield 22, 3) := by decide +kernel
theorem dX10_feed_46 : decode cX10_feed 46 = .ok (.iload 4, 2) := by decide +kernel
theorem dX10_feed_48 : decode cX10_feed 48 = .ok (.invokevirtual 126, 3) := by decide +kernel
theorem dX10_feed_51 : decode cX10_feed 51 = .ok (.aload_n 0, 1) := by decide +kernel
theorem dX10_feed_52 : decode cX10_feed 52 = .ok (.getfield 22, 3) := by decide +kernel
theorem dX10_feed_55 : decode cX10_feed 55 = .ok (.iload 5, 2) := by decide +kernel
theorem dX10_feed_57 : decode cX10_feed 57 = .ok (.invokevirtual 126, 3) := by decide +kernel
theorem dX10_feed_60 : decode cX10_feed 60 = .ok (.aload_n 0, 1) := by decide +kernel
theorem dX10_feed_61 : decode cX10_feed 61 = .ok (.getfield 22, 3) := by decide +kernel
theorem dX10_feed_64 : decode cX10_feed 64 = .ok (.getfield 122, 3) := by decide +kernel
theorem dX10_feed_67 : decode cX10_feed 67 = .ok (.ireturn, 1) := by decide +kernel
theorem dX10_end_0 : decode cX10_end 0 = .ok (.iload_n 1, 1) := by decide +kernel
theorem dX10_end_1 : decode cX10_end 1 = .ok (.ifCond .lt 14, 3) := by decide +kernel
theorem dX10_end_4 : decode cX10_end 4 = .ok (.iload_n 1, 1) := by decide +kernel
theorem dX10_end_5 : decode cX10_end 5 = .ok (.aload_n 0, 1) := by decide +kernel
theorem dX10_end_6 : decode cX10_end 6 = .ok (.getfield 22, 3) := by decide +kernel
theorem dX10_end_9 : decode cX10_end 9 = .ok (.getfield 122, 3) := by decide +kernel
theorem dX10_end_12 : decode cX10_end 12 = .ok (.if_icmp .le 5, 3) := by decide +kernel
theorem dX10_end_15 : decode cX10_end 15 = .ok (.iconst (-1), 1) := by decide +kernel
theorem dX10_end_16 : decode cX10_end 16 = .ok (.ireturn, 1) := by decide +kernel
theorem dX10_end_17 : decode cX10_end 17 = .ok (.aload_n 0, 1) := by decide +kernel
theorem dX10_end_18 : decode cX10_end 18 = .ok (.getfield 22, 3) := by decide +kernel
theorem dX10_end_21 : decode cX10_end 21 = .ok (.iload_n 1, 1) := by decide +kernel
theorem dX10_end_22 : decode cX10_end 22 = .ok (.putfield 122, 3) := by decide +kernel
theorem dX10_end_25 : decode cX10_end 25 = .ok (.iload_n 1, 1) := by decide +kernel
theorem dX10_end_26 : decode cX10_end 26 = .ok (.ireturn, 1) := by decide +kernel
theorem dX10_text_0 : decode cX10_text 0 = .ok (.aload_n 0, 1) := by decide +kernel
theorem dX10_text_1 : decode cX10_text 1 = .ok (.getfield 10, 3) := by decide +kernel
theorem dX10_text_4 : decode cX10_text 4 = .ok (.getfield 130, 3) := by decide +kernel
theorem dX10_text_7 : decode cX10_text 7 = .ok (.istore_n 1, 1) := by decide +kernel
theorem dX10_text_8 : decode cX10_text 8 = .ok (.iload_n 1, 1) := by decide +kernel
theorem dX10_text_9 : decode cX10_text 9 = .ok (.ifCond .lt 8, 3) := by decide +kernel
theorem dX10_text_12 : decode cX10_text 12 = .ok (.iload_n 1, 1) := by decide +kernel
theorem dX10_text_13 : decode cX10_text 13 = .ok (.iconst 4, 1) := by decide +kernel
theorem dX10_text_14 : decode cX10_text 14 = .ok (.if_icmp .lt 5, 3) := by decide +kernel
theorem dX10_text_17 : decode cX10_text 17 = .ok (.iconst (-1), 1) := by decide +kernel
theorem dX10_text_18 : decode cX10_text 18 = .ok (.ireturn, 1) := by decide +kernel
theorem dX10_text_19 : decode cX10_text 19 = .ok (.aload_n 0, 1) := by decide +kernel
theorem dX10_text_20 : decode cX10_text 20 = .ok (.getfield 35, 3) := by decide +kernel
theorem dX10_text_23 : decode cX10_text 23 = .ok (.iload_n 1, 1) := by decide +kernel
theorem dX10_text_24 : decode cX10_text 24 = .ok (.aaload, 1) := by decide +kernel
theorem dX10_text_25 : decode cX10_text 25 = .ok (.ifnonnull 16, 3) := by decide +kernel
theorem dX10_text_28 : decode cX10_text 28 = .ok (.aload_n 0, 1) := by decide +kernel
theorem dX10_text_29 : decode cX10_text 29 = .ok (.getfield 35, 3) := by decide +kernel
theorem dX10_text_32 : decode cX10_text 32 = .ok (.iload_n 1, 1) := by decide +kernel
theorem dX10_text_33 : decode cX10_text 33 = .ok (.new 33, 3) := by decide +kernel
theorem dX10_text_36 : decode cX10_text 36 = .ok (.dup, 1) := by decide +kernel
theorem dX10_text_37 : decode cX10_text 37 = .ok (.invokespecial 132, 3) := by decide +kernel
theorem dX10_text_40 : decode cX10_text 40 = .ok (.aastore, 1) := by decide +kernel
theorem dX10_text_41 : decode cX10_text 41 = .ok (.aload_n 0, 1) := by decide +kernel
theorem dX10_text_42 : decode cX10_text 42 = .ok (.getfield 29, 3) := by decide +kernel
theorem dX10_text_45 : decode cX10_text 45 = .ok (.aload_n 0, 1) := by decide +kernel
theorem dX10_text_46 : decode cX10_text 46 = .ok (.getfield 22, 3) := by decide +kernel
theorem dX10_text_49 : decode cX10_text 49 = .ok (.aload_n 0, 1) := by decide +kernel
theorem dX10_text_50 : decode cX10_text 50 = .ok (.getfield 35, 3) := by decide +kernel
theorem dX10_text_53 : decode cX10_text 53 = .ok (.iload_n 1, 1) := by decide +kernel
theorem dX10_text_54 : decode cX10_text 54 = .ok (.aaload, 1) := by decide +kernel
theorem dX10_text_55 : decode cX10_text 55 = .ok (.invokevirtual 133, 3) := by decide +kernel
theorem dX10_text_58 : decode cX10_text 58 = .ok (.iconst 0, 1) := by decide +kernel
theorem dX10_text_59 : decode cX10_text 59 = .ok (.istore_n 2, 1) := by decide +kernel
theorem dX10_text_60 : decode cX10_text 60 = .ok (.iload_n 2, 1) := by decide +kernel
theorem dX10_text_61 : decode cX10_text 61 = .ok (.bipush 20, 2) := by decide +kernel
theorem dX10_text_63 : decode cX10_text 63 = .ok (.if_icmp .gt 26, 3) := by decide +kernel
theorem dX10_text_66 : decode cX10_text 66 = .ok (.aload_n 0, 1) := by decide +kernel
theorem dX10_text_67 : decode cX10_text 67 = .ok (.getfield 29, 3) := by decide +kernel
theorem dX10_text_70 : decode cX10_text 70 = .ok (.invokevirtual 137, 3) := by decide +kernel
theorem dX10_text_73 : decode cX10_text 73 = .ok (.ifCond .eq 16, 3) := by decide +kernel
theorem dX10_text_76 : decode cX10_text 76 = .ok (.aload_n 0, 1) := by decide +kernel
theorem dX10_text_77 : decode cX10_text 77 = .ok (.getfield 29, 3) := by decide +kernel
theorem dX10_text_80 : decode cX10_text 80 = .ok (.invokevirtual 141, 3) := by decide +kernel
theorem dX10_text_83 : decode cX10_text 83 = .ok (.iinc 2 1, 3) := by decide +kernel
theorem dX10_text_86 : decode cX10_text 86 = .ok (.goto (-26), 3) := by decide +kernel
theorem dX10_text_89 : decode cX10_text 89 = .ok (.aload_n 0, 1) := by decide +kernel
theorem dX10_text_90 : decode cX10_text 90 = .ok (.getfield 22, 3) := by decide +kernel
theorem dX10_text_93 : decode cX10_text 93 = .ok (.iconst 0, 1) := by decide +kernel
theorem dX10_text_94 : decode cX10_text 94 = .ok (.putfield 122, 3) := by decide +kernel
theorem dX10_text_97 : decode cX10_text 97 = .ok (.aload_n 0, 1) := by decide +kernel
theorem dX10_text_98 : decode cX10_text 98 = .ok (.getfield 29, 3) := by decide +kernel
theorem dX10_text_101 : decode cX10_text 101 = .ok (.getfield 144, 3) := by decide +kernel
theorem dX10_text_104 : decode cX10_text 104 = .ok (.ifCond .eq 5, 3) := by decide +kernel
theorem dX10_text_107 : decode cX10_text 107 = .ok (.iconst (-1), 1) := by decide +kernel
theorem dX10_text_108 : decode cX10_text 108 = .ok (.ireturn, 1) := by decide +kernel
theorem dX10_text_109 : decode cX10_text 109 = .ok (.aload_n 0, 1) := by decide +kernel
theorem dX10_text_110 : decode cX10_text 110 = .ok (.getfield 10, 3) := by decide +kernel
theorem dX10_text_113 : decode cX10_text 113 = .ok (.dup, 1) := by decide +kernel
theorem dX10_text_114 : decode cX10_text 114 = .ok (.getfield 130, 3) := by decide +kernel
theorem dX10_text_117 : decode cX10_text 117 = .ok (.iconst 1, 1) := by decide +kernel
theorem dX10_text_118 : decode cX10_text 118 = .ok (.iadd, 1) := by decide +kernel
theorem dX10_text_119 : decode cX10_text 119 = .ok (.putfield 130, 3) := by decide +kernel
theorem dX10_text_122 : decode cX10_text 122 = .ok (.iload_n 1, 1) := by decide +kernel
theorem dX10_text_123 : decode cX10_text 123 = .ok (.ireturn, 1) := by decide +kernel
theorem dX10_fault_0 : decode cX10_fault 0 = .ok (.iload_n 1, 1) := by decide +kernel
theorem dX10_fault_1 : decode cX10_fault 1 = .ok (.ifCond .ne 11, 3) := by decide +kernel
theorem dX10_fault_4 : decode cX10_fault 4 = .ok (.aload_n 0, 1) := by decide +kernel
theorem dX10_fault_5 : decode cX10_fault 5 = .ok (.getfield 29, 3) := by decide +kernel
theorem dX10_fault_8 : decode cX10_fault 8 = .ok (.getfield 144, 3) := by decide +kernel
theorem dX10_fault_11 : decode cX10_fault 11 = .ok (.ireturn, 1) := by decide +kernel
theorem dX10_fault_12 : decode cX10_fault 12 = .ok (.iload_n 1, 1) := by decide +kernel
theorem dX10_fault_13 : decode cX10_fault 13 = .ok (.iconst 1, 1) := by decide +kernel
theorem dX10_fault_14 : decode cX10_fault 14 = .ok (.if_icmp .ne 13, 3) := by decide +kernel
theorem dX10_fault_17 : decode cX10_fault 17 = .ok (.aload_n 0, 1) := by decide +kernel
theorem dX10_fault_18 : decode cX10_fault 18 = .ok (.getfield 29, 3) := by decide +kernel
theorem dX10_fault_21 : decode cX10_fault 21 = .ok (.getfield 147, 3) := by decide +kernel
theorem dX10_fault_24 : decode cX10_fault 24 = .ok (.goto 4, 3) := by decide +kernel
theorem dX10_fault_27 : decode cX10_fault 27 = .ok (.iconst (-1), 1) := by decide +kernel
theorem dX10_fault_28 : decode cX10_fault 28 = .ok (.ireturn, 1) := by decide +kernel
theorem dX10_by_0 : decode cX10_by 0 = .ok (.iload_n 1, 1) := by decide +kernel
theorem dX10_by_1 : decode cX10_by 1 = .ok (.iconst (-1), 1) := by decide +kernel
theorem dX10_by_2 : decode cX10_by 2 = .ok (.if_icmp .eq 16, 3) := by decide +kernel
theorem dX10_by_5 : decode cX10_by 5 = .ok (.aload_n 0, 1) := by decide +kernel
theorem dX10_by_6 : decode cX10_by 6 = .ok (.getfield 10, 3) := by decide +kernel
theorem dX10_by_9 : decode cX10_by 9 = .ok (.iload_n 1, 1) := by decide +kernel
theorem dX10_by_10 : decode cX10_by 10 = .ok (.invokevirtual 150, 3) := by decide +kernel
theorem dX10_by_13 : decode cX10_by 13 = .ok (.ifCond .ne 5, 3) := by decide +kernel
theorem dX10_by_16 : decode cX10_by 16 = .ok (.iconst 0, 1) := by decide +kernel
theorem dX10_by_17 : decode cX10_by 17 = .ok (.ireturn, 1) := by decide +kernel
theorem dX10_by_18 : decode cX10_by 18 = .ok (.aload_n 0, 1) := by decide +kernel
theorem dX10_by_19 : decode cX10_by 19 = .ok (.getfield 10, 3) := by decide +kernel
theorem dX10_by_22 : decode cX10_by 22 = .ok (.iload_n 1, 1) := by decide +kernel
theorem dX10_by_23 : decode cX10_by 23 = .ok (.putfield 153, 3) := by decide +kernel
theorem dX10_by_26 : decode cX10_by 26 = .ok (.iconst 1, 1) := by decide +kernel
theorem dX10_by_27 : decode cX10_by 27 = .ok (.ireturn, 1) := by decide +kernel
theorem dX10_draw_0 : decode cX10_draw 0 = .ok (.aload_n 0, 1) := by decide +kernel
theorem dX10_draw_1 : decode cX10_draw 1 = .ok (.getfield 10, 3) := by decide +kernel
theorem dX10_draw_4 : decode cX10_draw 4 = .ok (.iload_n 1, 1) := by decide +kernel
theorem dX10_draw_5 : decode cX10_draw 5 = .ok (.invokevirtual 150, 3) := by decide +kernel
theorem dX10_draw_8 : decode cX10_draw 8 = .ok (.ifCond .eq 12, 3) := by decide +kernel
theorem dX10_draw_11 : decode cX10_draw 11 = .ok (.aload_n 0, 1) := by decide +kernel
theorem dX10_draw_12 : decode cX10_draw 12 = .ok (.getfield 35, 3) := by decide +kernel
theorem dX10_draw_15 : decode cX10_draw 15 = .ok (.iload_n 1, 1) := by decide +kernel
theorem dX10_draw_16 : decode cX10_draw 16 = .ok (.aaload, 1) := by decide +kernel
theorem dX10_draw_17 : decode cX10_draw 17 = .ok (.ifnonnull 6, 3) := by decide +kernel
theorem dX10_draw_20 : decode cX10_draw 20 = .ok (.bipush (-2), 2) := by decide +kernel
theorem dX10_draw_22 : decode cX10_draw 22 = .ok (.ireturn, 1) := by decide +kernel
theorem dX10_draw_23 : decode cX10_draw 23 = .ok (.aload_n 0, 1) := by decide +kernel
theorem dX10_draw_24 : decode cX10_draw 24 = .ok (.getfield 78, 3) := by decide +kernel
theorem dX10_draw_27 : decode cX10_draw 27 = .ok (.invokevirtual 156, 3) := by decide +kernel
theorem dX10_draw_30 : decode cX10_draw 30 = .ok (.aload_n 0, 1) := by decide +kernel
theorem dX10_draw_31 : decode cX10_draw 31 = .ok (.getfield 78, 3) := by decide +kernel
theorem dX10_draw_34 : decode cX10_draw 34 = .ok (.aload_n 0, 1) := by decide +kernel
theorem dX10_draw_35 : decode cX10_draw 35 = .ok (.getfield 35, 3) := by decide +kernel
theorem dX10_draw_38 : decode cX10_draw 38 = .ok (.iload_n 1, 1) := by decide +kernel
theorem dX10_draw_39 : decode cX10_draw 39 = .ok (.aaload, 1) := by decide +kernel
theorem dX10_draw_40 : decode cX10_draw 40 = .ok (.invokevirtual 159, 3) := by decide +kernel
theorem dX10_draw_43 : decode cX10_draw 43 = .ok (.ireturn, 1) := by decide +kernel
theorem dX10_of_0 : decode cX10_of 0 = .ok (.aload_n 0, 1) := by decide +kernel
theorem dX10_of_1 : decode cX10_of 1 = .ok (.getfield 78, 3) := by decide +kernel
theorem dX10_of_4 : decode cX10_of 4 = .ok (.iload_n 1, 1) := by decide +kernel
theorem dX10_of_5 : decode cX10_of 5 = .ok (.invokevirtual 163, 3) := by decide +kernel
theorem dX10_of_8 : decode cX10_of 8 = .ok (.ifCond .ne 6, 3) := by decide +kernel
theorem dX10_of_11 : decode cX10_of 11 = .ok (.ldc 166, 2) := by decide +kernel
theorem dX10_of_13 : decode cX10_of 13 = .ok (.ireturn, 1) := by decide +kernel
theorem dX10_of_14 : decode cX10_of 14 = .ok (.iload_n 2, 1) := by decide +kernel
theorem dX10_of_15 : decode cX10_of 15 = .ok (.tableswitch 79 0 3 #[29, 39, 49, 59], 29) := by decide +kernel
theorem dX10_of_44 : decode cX10_of 44 = .ok (.aload_n 0, 1) := by decide +kernel
theorem dX10_of_45 : decode cX10_of 45 = .ok (.getfield 78, 3) := by decide +kernel
theorem dX10_of_48 : decode cX10_of 48 = .ok (.getfield 167, 3) := by decide +kernel
theorem dX10_of_51 : decode cX10_of 51 = .ok (.iload_n 1, 1) := by decide +kernel
theorem dX10_of_52 : decode cX10_of 52 = .ok (.iaload, 1) := by decide +kernel
theorem dX10_of_53 : decode cX10_of 53 = .ok (.ireturn, 1) := by decide +kernel
theorem dX10_of_54 : decode cX10_of 54 = .ok (.aload_n 0, 1) := by decide +kernel
theorem dX10_of_55 : decode cX10_of 55 = .ok (.getfield 78, 3) := by decide +kernel
theorem dX10_of_58 : decode cX10_of 58 = .ok (.getfield 170, 3) := by decide +kernel
theorem dX10_of_61 : decode cX10_of 61 = .ok (.iload_n 1, 1) := by decide +kernel
theorem dX10_of_62 : decode cX10_of 62 = .ok (.iaload, 1) := by decide +kernel
theorem dX10_of_63 : decode cX10_of 63 = .ok (.ireturn, 1) := by decide +kernel
theorem dX10_of_64 : decode cX10_of 64 = .ok (.aload_n 0, 1) := by decide +kernel
theorem dX10_of_65 : decode cX10_of 65 = .ok (.getfield 78, 3) := by decide +kernel
theorem dX10_of_68 : decode cX10_of 68 = .ok (.getfield 173, 3) := by decide +kernel
theorem dX10_of_71 : decode cX10_of 71 = .ok (.iload_n 1, 1) := by decide +kernel
theorem dX10_of_72 : decode cX10_of 72 = .ok (.iaload, 1) := by decide +kernel
theorem dX10_of_73 : decode cX10_of 73 = .ok (.ireturn, 1) := by decide +kernel
theorem dX10_of_74 : decode cX10_of 74 = .ok (.aload_n 0, 1) := by decide +kernel
theorem dX10_of_75 : decode cX10_of 75 = .ok (.getfield 42, 3) := by decide +kernel
theorem dX10_of_78 : decode cX10_of 78 = .ok (.aload_n 0, 1) := by decide +kernel
theorem dX10_of_79 : decode cX10_of 79 = .ok (.getfield 78, 3) := by decide +kernel
theorem dX10_of_82 : decode cX10_of 82 = .ok (.iload_n 1, 1) := by decide +kernel
theorem dX10_of_83 : decode cX10_of 83 = .ok (.aload_n 0, 1) := by decide +kernel
theorem dX10_of_84 : decode cX10_of 84 = .ok (.getfield 51, 3) := by decide +kernel
theorem dX10_of_87 : decode cX10_of 87 = .ok (.invokevirtual 176, 3) := by decide +kernel
theorem dX10_of_90 : decode cX10_of 90 = .ok (.invokevirtual 180, 3) := by decide +kernel
theorem dX10_of_93 : decode cX10_of 93 = .ok (.ireturn, 1) := by decide +kernel
theorem dX10_of_94 : decode cX10_of 94 = .ok (.ldc 166, 2) := by decide +kernel
theorem dX10_of_96 : decode cX10_of 96 = .ok (.ireturn, 1) := by decide +kernel
theorem dX10_cell_0 : decode cX10_cell 0 = .ok (.aload_n 0, 1) := by decide +kernel
theorem dX10_cell_1 : decode cX10_cell 1 = .ok (.getfield 69, 3) := by decide +kernel
theorem dX10_cell_4 : decode cX10_cell 4 = .ok (.iload_n 1, 1) := by decide +kernel
theorem dX10_cell_5 : decode cX10_cell 5 = .ok (.invokevirtual 101, 3) := by decide +kernel
theorem dX10_cell_8 : decode cX10_cell 8 = .ok (.ifCond .ne 6, 3) := by decide +kernel
theorem dX10_cell_11 : decode cX10_cell 11 = .ok (.bipush (-10), 2) := by decide +kernel
theorem dX10_cell_13 : decode cX10_cell 13 = .ok (.ireturn, 1) := by decide +kernel
theorem dX10_cell_14 : decode cX10_cell 14 = .ok (.aload_n 0, 1) := by decide +kernel
theorem dX10_cell_15 : decode cX10_cell 15 = .ok (.getfield 78, 3) := by decide +kernel
theorem dX10_cell_18 : decode cX10_cell 18 = .ok (.iload_n 1, 1) := by decide +kernel
theorem dX10_cell_19 : decode cX10_cell 19 = .ok (.invokevirtual 184, 3) := by decide +kernel
theorem dX10_cell_22 : decode cX10_cell 22 = .ok (.lstore_n 3, 1) := by decide +kernel
theorem dX10_cell_23 : decode cX10_cell 23 = .ok (.iload_n 2, 1) := by decide +kernel
theorem dX10_cell_24 : decode cX10_cell 24 = .ok (.tableswitch 91 0 4 #[36, 45, 50, 59, 69], 36) := by decide +kernel
theorem dX10_cell_60 : decode cX10_cell 60 = .ok (.aload_n 0, 1) := by decide +kernel
theorem dX10_cell_61 : decode cX10_cell 61 = .ok (.getfield 69, 3) := by decide +kernel
theorem dX10_cell_64 : decode cX10_cell 64 = .ok (.lload_n 3, 1) := by decide +kernel
theorem dX10_cell_65 : decode cX10_cell 65 = .ok (.invokevirtual 188, 3) := by decide +kernel
theorem dX10_cell_68 : decode cX10_cell 68 = .ok (.ireturn, 1) := by decide +kernel
theorem dX10_cell_69 : decode cX10_cell 69 = .ok (.lload_n 3, 1) := by decide +kernel
theorem dX10_cell_70 : decode cX10_cell 70 = .ok (.invokestatic 192, 3) := by decide +kernel
theorem dX10_cell_73 : decode cX10_cell 73 = .ok (.ireturn, 1) := by decide +kernel
theorem dX10_cell_74 : decode cX10_cell 74 = .ok (.aload_n 0, 1) := by decide +kernel
theorem dX10_cell_75 : decode cX10_cell 75 = .ok (.getfield 78, 3) := by decide +kernel
theorem dX10_cell_78 : decode cX10_cell 78 = .ok (.lload_n 3, 1) := by decide +kernel
theorem dX10_cell_79 : decode cX10_cell 79 = .ok (.invokevirtual 197, 3) := by decide +kernel
theorem dX10_cell_82 : decode cX10_cell 82 = .ok (.ireturn, 1) := by decide +kernel
theorem dX10_cell_83 : decode cX10_cell 83 = .ok (.aload_n 0, 1) := by decide +kernel
theorem dX10_cell_84 : decode cX10_cell 84 = .ok (.getfield 78, 3) := by decide +kernel
theorem dX10_cell_87 : decode cX10_cell 87 = .ok (.getfield 200, 3) := by decide +kernel
theorem dX10_cell_90 : decode cX10_cell 90 = .ok (.iload_n 1, 1) := by decide +kernel
theorem dX10_cell_91 : decode cX10_cell 91 = .ok (.iaload, 1) := by decide +kernel
theorem dX10_cell_92 : decode cX10_cell 92 = .ok (.ireturn, 1) := by decide +kernel
theorem dX10_cell_93 : decode cX10_cell 93 = .ok (.aload_n 0, 1) := by decide +kernel
theorem dX10_cell_94 : decode cX10_cell 94 = .ok (.getfield 78, 3) := by decide +kernel
theorem dX10_cell_97 : decode cX10_cell 97 = .ok (.getfield 105, 3) := by decide +kernel
theorem dX10_cell_100 : decode cX10_cell 100 = .ok (.iload_n 1, 1) := by decide +kernel
theorem dX10_cell_101 : decode cX10_cell 101 = .ok (.lushr, 1) := by decide +kernel
theorem dX10_cell_102 : decode cX10_cell 102 = .ok (.lconst 1, 1) := by decide +kernel
theorem dX10_cell_103 : decode cX10_cell 103 = .ok (.land, 1) := by decide +kernel
theorem dX10_cell_104 : decode cX10_cell 104 = .ok (.lconst 0, 1) := by decide +kernel
theorem dX10_cell_105 : decode cX10_cell 105 = .ok (.lcmp, 1) := by decide +kernel
theorem dX10_cell_106 : decode cX10_cell 106 = .ok (.ifCond .eq 7, 3) := by decide +kernel
theorem dX10_cell_109 : decode cX10_cell 109 = .ok (.iconst 1, 1) := by decide +kernel
theorem dX10_cell_110 : decode cX10_cell 110 = .ok (.goto 4, 3) := by decide +kernel
theorem dX10_cell_113 : decode cX10_cell 113 = .ok (.iconst 0, 1) := by decide +kernel
theorem dX10_cell_114 : decode cX10_cell 114 = .ok (.ireturn, 1) := by decide +kernel
theorem dX10_cell_115 : decode cX10_cell 115 = .ok (.bipush (-10), 2) := by decide +kernel
theorem dX10_cell_117 : decode cX10_cell 117 = .ok (.ireturn, 1) := by decide +kernel
theorem dX10_farmer_0 : decode cX10_farmer 0 = .ok (.iload_n 1, 1) := by decide +kernel
theorem dX10_farmer_1 : decode cX10_farmer 1 = .ok (.invokestatic 203, 3) := by decide +kernel
theorem dX10_farmer_4 : decode cX10_farmer 4 = .ok (.ifCond .ne 6, 3) := by decide +kernel
theorem dX10_farmer_7 : decode cX10_farmer 7 = .ok (.bipush (-10), 2) := by decide +kernel
theorem dX10_farmer_9 : decode cX10_farmer 9 = .ok (.ireturn, 1) := by decide +kernel
theorem dX10_farmer_10 : decode cX10_farmer 10 = .ok (.aload_n 0, 1) := by decide +kernel
theorem dX10_farmer_11 : decode cX10_farmer 11 = .ok (.getfield 78, 3) := by decide +kernel
theorem dX10_farmer_14 : decode cX10_farmer 14 = .ok (.iload_n 1, 1) := by decide +kernel
theorem dX10_farmer_15 : decode cX10_farmer 15 = .ok (.invokevirtual 206, 3) := by decide +kernel
theorem dX10_farmer_18 : decode cX10_farmer 18 = .ok (.lstore_n 3, 1) := by decide +kernel
theorem dX10_farmer_19 : decode cX10_farmer 19 = .ok (.iload_n 2, 1) := by decide +kernel
theorem dX10_farmer_20 : decode cX10_farmer 20 = .ok (.tableswitch 117 0 5 #[40, 49, 75, 84, 94, 107], 40) := by decide +kernel
theorem dX10_farmer_60 : decode cX10_farmer 60 = .ok (.aload_n 0, 1) := by decide +kernel
theorem dX10_farmer_61 : decode cX10_farmer 61 = .ok (.getfield 78, 3) := by decide +kernel
theorem dX10_farmer_64 : decode cX10_farmer 64 = .ok (.lload_n 3, 1) := by decide +kernel
theorem dX10_farmer_65 : decode cX10_farmer 65 = .ok (.invokevirtual 209, 3) := by decide +kernel
theorem dX10_farmer_68 : decode cX10_farmer 68 = .ok (.ireturn, 1) := by decide +kernel
theorem dX10_farmer_69 : decode cX10_farmer 69 = .ok (.lload_n 3, 1) := by decide +kernel
theorem dX10_farmer_70 : decode cX10_farmer 70 = .ok (.lconst 0, 1) := by decide +kernel
theorem dX10_farmer_71 : decode cX10_farmer 71 = .ok (.lcmp, 1) := by decide +kernel
theorem dX10_farmer_72 : decode cX10_farmer 72 = .ok (.ifCond .eq 21, 3) := by decide +kernel
theorem dX10_farmer_75 : decode cX10_farmer 75 = .ok (.lload_n 3, 1) := by decide +kernel
theorem dX10_farmer_76 : decode cX10_farmer 76 = .ok (.aload_n 0, 1) := by decide +kernel
theorem dX10_farmer_77 : decode cX10_farmer 77 = .ok (.getfield 69, 3) := by decide +kernel
theorem dX10_farmer_80 : decode cX10_farmer 80 = .ok (.getfield 212, 3) := by decide +kernel
theorem dX10_farmer_83 : decode cX10_farmer 83 = .ok (.land, 1) := by decide +kernel
theorem dX10_farmer_84 : decode cX10_farmer 84 = .ok (.lconst 0, 1) := by decide +kernel
theorem dX10_farmer_85 : decode cX10_farmer 85 = .ok (.lcmp, 1) := by decide +kernel
theorem dX10_farmer_86 : decode cX10_farmer 86 = .ok (.ifCond .ne 7, 3) := by decide +kernel
theorem dX10_farmer_89 : decode cX10_farmer 89 = .ok (.iconst 1, 1) := by decide +kernel
theorem dX10_farmer_90 : decode cX10_farmer 90 = .ok (.goto 4, 3) := by decide +kernel
theorem dX10_farmer_93 : decode cX10_farmer 93 = .ok (.iconst 0, 1) := by decide +kernel
theorem dX10_farmer_94 : decode cX10_farmer 94 = .ok (.ireturn, 1) := by decide +kernel
theorem dX10_farmer_95 : decode cX10_farmer 95 = .ok (.aload_n 0, 1) := by decide +kernel
theorem dX10_farmer_96 : decode cX10_farmer 96 = .ok (.getfield 78, 3) := by decide +kernel
theorem dX10_farmer_99 : decode cX10_farmer 99 = .ok (.lload_n 3, 1) := by decide +kernel
theorem dX10_farmer_100 : decode cX10_farmer 100 = .ok (.invokevirtual 215, 3) := by decide +kernel
theorem dX10_farmer_103 : decode cX10_farmer 103 = .ok (.ireturn, 1) := by decide +kernel
theorem dX10_farmer_104 : decode cX10_farmer 104 = .ok (.aload_n 0, 1) := by decide +kernel
theorem dX10_farmer_105 : decode cX10_farmer 105 = .ok (.getfield 78, 3) := by decide +kernel
theorem dX10_farmer_108 : decode cX10_farmer 108 = .ok (.getfield 218, 3) := by decide +kernel
theorem dX10_farmer_111 : decode cX10_farmer 111 = .ok (.iload_n 1, 1) := by decide +kernel
theorem dX10_farmer_112 : decode cX10_farmer 112 = .ok (.iaload, 1) := by decide +kernel
theorem dX10_farmer_113 : decode cX10_farmer 113 = .ok (.ireturn, 1) := by decide +kernel
theorem dX10_farmer_114 : decode cX10_farmer 114 = .ok (.lload_n 3, 1) := by decide +kernel
theorem dX10_farmer_115 : decode cX10_farmer 115 = .ok (.aload_n 0, 1) := by decide +kernel
theorem dX10_farmer_116 : decode cX10_farmer 116 = .ok (.getfield 78, 3) := by decide +kernel
theorem dX10_farmer_119 : decode cX10_farmer 119 = .ok (.getfield 105, 3) := by decide +kernel
theorem dX10_farmer_122 : decode cX10_farmer 122 = .ok (.land, 1) := by decide +kernel
theorem dX10_farmer_123 : decode cX10_farmer 123 = .ok (.invokestatic 192, 3) := by decide +kernel
theorem dX10_farmer_126 : decode cX10_farmer 126 = .ok (.ireturn, 1) := by decide +kernel
theorem dX10_farmer_127 : decode cX10_farmer 127 = .ok (.aload_n 0, 1) := by decide +kernel
theorem dX10_farmer_128 : decode cX10_farmer 128 = .ok (.getfield 78, 3) := by decide +kernel
theorem dX10_farmer_131 : decode cX10_farmer 131 = .ok (.getfield 221, 3) := by decide +kernel
theorem dX10_farmer_134 : decode cX10_farmer 134 = .ok (.iload_n 1, 1) := by decide +kernel
theorem dX10_farmer_135 : decode cX10_farmer 135 = .ok (.iaload, 1) := by decide +kernel
theorem dX10_farmer_136 : decode cX10_farmer 136 = .ok (.ireturn, 1) := by decide +kernel
theorem dX10_farmer_137 : decode cX10_farmer 137 = .ok (.bipush (-10), 2) := by decide +kernel
theorem dX10_farmer_139 : decode cX10_farmer 139 = .ok (.ireturn, 1) := by decide +kernel
theorem dX10_hour_0 : decode cX10_hour 0 = .ok (.aload_n 0, 1) := by decide +kernel
theorem dX10_hour_1 : decode cX10_hour 1 = .ok (.getfield 10, 3) := by decide +kernel
theorem dX10_hour_4 : decode cX10_hour 4 = .ok (.iload_n 1, 1) := by decide +kernel
theorem dX10_hour_5 : decode cX10_hour 5 = .ok (.invokevirtual 115, 3) := by decide +kernel
theorem dX10_hour_8 : decode cX10_hour 8 = .ok (.ifCond .eq 16, 3) := by decide +kernel
theorem dX10_hour_11 : decode cX10_hour 11 = .ok (.aload_n 0, 1) := by decide +kernel
theorem dX10_hour_12 : decode cX10_hour 12 = .ok (.getfield 78, 3) := by decide +kernel
theorem dX10_hour_15 : decode cX10_hour 15 = .ok (.getfield 224, 3) := by decide +kernel
theorem dX10_hour_18 : decode cX10_hour 18 = .ok (.sipush 999, 3) := by decide +kernel
theorem dX10_hour_21 : decode cX10_hour 21 = .ok (.if_icmp .lt 5, 3) := by decide +kernel
theorem dX10_hour_24 : decode cX10_hour 24 = .ok (.iconst (-1), 1) := by decide +kernel
theorem dX10_hour_25 : decode cX10_hour 25 = .ok (.ireturn, 1) := by decide +kernel
theorem dX10_hour_26 : decode cX10_hour 26 = .ok (.aload_n 0, 1) := by decide +kernel
theorem dX10_hour_27 : decode cX10_hour 27 = .ok (.getfield 51, 3) := by decide +kernel
theorem dX10_hour_30 : decode cX10_hour 30 = .ok (.aload_n 0, 1) := by decide +kernel
theorem dX10_hour_31 : decode cX10_hour 31 = .ok (.getfield 78, 3) := by decide +kernel
theorem dX10_hour_34 : decode cX10_hour 34 = .ok (.iload_n 1, 1) := by decide +kernel
theorem dX10_hour_35 : decode cX10_hour 35 = .ok (.invokevirtual 227, 3) := by decide +kernel
theorem dX10_hour_38 : decode cX10_hour 38 = .ok (.ireturn, 1) := by decide +kernel
theorem dX10_sow_0 : decode cX10_sow 0 = .ok (.iload_n 1, 1) := by decide +kernel
theorem dX10_sow_1 : decode cX10_sow 1 = .ok (.invokestatic 203, 3) := by decide +kernel
theorem dX10_sow_4 : decode cX10_sow 4 = .ok (.ifCond .eq 14, 3) := by decide +kernel
theorem dX10_sow_7 : decode cX10_sow 7 = .ok (.aload_n 0, 1) := by decide +kernel
theorem dX10_sow_8 : decode cX10_sow 8 = .ok (.getfield 69, 3) := by decide +kernel
theorem dX10_sow_11 : decode cX10_sow 11 = .ok (.iload_n 2, 1) := by decide +kernel
theorem dX10_sow_12 : decode cX10_sow 12 = .ok (.invokevirtual 101, 3) := by decide +kernel
theorem dX10_sow_15 : decode cX10_sow 15 = .ok (.ifCond .ne 5, 3) := by decide +kernel
theorem dX10_sow_18 : decode cX10_sow 18 = .ok (.iconst 0, 1) := by decide +kernel
theorem dX10_sow_19 : decode cX10_sow 19 = .ok (.ireturn, 1) := by decide +kernel
theorem dX10_sow_20 : decode cX10_sow 20 = .ok (.aload_n 0, 1) := by decide +kernel
theorem dX10_sow_21 : decode cX10_sow 21 = .ok (.getfield 78, 3) := by decide +kernel
theorem dX10_sow_24 : decode cX10_sow 24 = .ok (.iload_n 1, 1) := by decide +kernel
theorem dX10_sow_25 : decode cX10_sow 25 = .ok (.invokevirtual 206, 3) := by decide +kernel
theorem dX10_sow_28 : decode cX10_sow 28 = .ok (.iload_n 2, 1) := by decide +kernel
theorem dX10_sow_29 : decode cX10_sow 29 = .ok (.lushr, 1) := by decide +kernel
theorem dX10_sow_30 : decode cX10_sow 30 = .ok (.lconst 1, 1) := by decide +kernel
theorem dX10_sow_31 : decode cX10_sow 31 = .ok (.land, 1) := by decide +kernel
theorem dX10_sow_32 : decode cX10_sow 32 = .ok (.lconst 0, 1) := by decide +kernel
theorem dX10_sow_33 : decode cX10_sow 33 = .ok (.lcmp, 1) := by decide +kernel
theorem dX10_sow_34 : decode cX10_sow 34 = .ok (.ifCond .ne 5, 3) := by decide +kernel
theorem dX10_sow_37 : decode cX10_sow 37 = .ok (.iconst 0, 1) := by decide +kernel
theorem dX10_sow_38 : decode cX10_sow 38 = .ok (.ireturn, 1) := by decide +kernel
theorem dX10_sow_39 : decode cX10_sow 39 = .ok (.aload_n 0, 1) := by decide +kernel
theorem dX10_sow_40 : decode cX10_sow 40 = .ok (.getfield 78, 3) := by decide +kernel
theorem dX10_sow_43 : decode cX10_sow 43 = .ok (.getfield 200, 3) := by decide +kernel
theorem dX10_sow_46 : decode cX10_sow 46 = .ok (.iload_n 2, 1) := by decide +kernel
theorem dX10_sow_47 : decode cX10_sow 47 = .ok (.aload_n 0, 1) := by decide +kernel
theorem dX10_sow_48 : decode cX10_sow 48 = .ok (.getfield 78, 3) := by decide +kernel
theorem dX10_sow_51 : decode cX10_sow 51 = .ok (.getfield 224, 3) := by decide +kernel
theorem dX10_sow_54 : decode cX10_sow 54 = .ok (.iastore, 1) := by decide +kernel
theorem dX10_sow_55 : decode cX10_sow 55 = .ok (.iconst 1, 1) := by decide +kernel
theorem dX10_sow_56 : decode cX10_sow 56 = .ok (.ireturn, 1) := by decide +kernel
theorem dX10_reap_0 : decode cX10_reap 0 = .ok (.iload_n 1, 1) := by decide +kernel
theorem dX10_reap_1 : decode cX10_reap 1 = .ok (.invokestatic 203, 3) := by decide +kernel
theorem dX10_reap_4 : decode cX10_reap 4 = .ok (.ifCond .eq 14, 3) := by decide +kernel
theorem dX10_reap_7 : decode cX10_reap 7 = .ok (.aload_n 0, 1) := by decide +kernel
theorem dX10_reap_8 : decode cX10_reap 8 = .ok (.getfield 78, 3) := by decide +kernel
theorem dX10_reap_11 : decode cX10_reap 11 = .ok (.iload_n 1, 1) := by decide +kernel
theorem dX10_reap_12 : decode cX10_reap 12 = .ok (.invokevirtual 206, 3) := by decide +kernel
theorem dX10_reap_15 : decode cX10_reap 15 = .ok (.goto 4, 3) := by decide +kernel
theorem dX10_reap_18 : decode cX10_reap 18 = .ok (.lconst 0, 1) := by decide +kernel
theorem dX10_reap_19 : decode cX10_reap 19 = .ok (.lstore_n 2, 1) := by decide +kernel
theorem dX10_reap_20 : decode cX10_reap 20 = .ok (.lload_n 2, 1) := by decide +kernel
theorem dX10_reap_21 : decode cX10_reap 21 = .ok (.lconst 0, 1) := by decide +kernel
theorem dX10_reap_22 : decode cX10_reap 22 = .ok (.lcmp, 1) := by decide +kernel
theorem dX10_reap_23 : decode cX10_reap 23 = .ok (.ifCond .eq 18, 3) := by decide +kernel
theorem dX10_reap_26 : decode cX10_reap 26 = .ok (.aload_n 0, 1) := by decide +kernel
theorem dX10_reap_27 : decode cX10_reap 27 = .ok (.getfield 78, 3) := by decide +kernel
theorem dX10_reap_30 : decode cX10_reap 30 = .ok (.lload_n 2, 1) := by decide +kernel
theorem dX10_reap_31 : decode cX10_reap 31 = .ok (.invokevirtual 197, 3) := by decide +kernel
theorem dX10_reap_34 : decode cX10_reap 34 = .ok (.invokestatic 231, 3) := by decide +kernel
theorem dX10_reap_37 : decode cX10_reap 37 = .ok (.iconst 1, 1) := by decide +kernel
theorem dX10_reap_38 : decode cX10_reap 38 = .ok (.if_icmp .le 5, 3) := by decide +kernel
theorem dX10_reap_41 : decode cX10_reap 41 = .ok (.iconst (-1), 1) := by decide +kernel
theorem dX10_reap_42 : decode cX10_reap 42 = .ok (.ireturn, 1) := by decide +kernel
theorem dX10_reap_43 : decode cX10_reap 43 = .ok (.iconst 0, 1) := by decide +kernel
theorem dX10_reap_44 : decode cX10_reap 44 = .ok (.istore 4, 2) := by decide +kernel
theorem dX10_reap_46 : decode cX10_reap 46 = .ok (.iconst 0, 1) := by decide +kernel
theorem dX10_reap_47 : decode cX10_reap 47 = .ok (.istore 5, 2) := by decide +kernel
theorem dX10_reap_49 : decode cX10_reap 49 = .ok (.iload 5, 2) := by decide +kernel
theorem dX10_reap_51 : decode cX10_reap 51 = .ok (.aload_n 0, 1) := by decide +kernel
theorem dX10_reap_52 : decode cX10_reap 52 = .ok (.getfield 69, 3) := by decide +kernel
theorem dX10_reap_55 : decode cX10_reap 55 = .ok (.getfield 236, 3) := by decide +kernel
theorem dX10_reap_58 : decode cX10_reap 58 = .ok (.if_icmp .ge 71, 3) := by decide +kernel
theorem dX10_reap_61 : decode cX10_reap 61 = .ok (.lload_n 2, 1) := by decide +kernel
theorem dX10_reap_62 : decode cX10_reap 62 = .ok (.iload 5, 2) := by decide +kernel
theorem dX10_reap_64 : decode cX10_reap 64 = .ok (.lushr, 1) := by decide +kernel
theorem dX10_reap_65 : decode cX10_reap 65 = .ok (.lconst 1, 1) := by decide +kernel
theorem dX10_reap_66 : decode cX10_reap 66 = .ok (.land, 1) := by decide +kernel
theorem dX10_reap_67 : decode cX10_reap 67 = .ok (.lconst 0, 1) := by decide +kernel
theorem dX10_reap_68 : decode cX10_reap 68 = .ok (.lcmp, 1) := by decide +kernel
theorem dX10_reap_69 : decode cX10_reap 69 = .ok (.ifCond .eq 54, 3) := by decide +kernel
theorem dX10_reap_72 : decode cX10_reap 72 = .ok (.aload_n 0, 1) := by decide +kernel
theorem dX10_reap_73 : decode cX10_reap 73 = .ok (.getfield 78, 3) := by decide +kernel
theorem dX10_reap_76 : decode cX10_reap 76 = .ok (.getfield 200, 3) := by decide +kernel
theorem dX10_reap_79 : decode cX10_reap 79 = .ok (.iload 5, 2) := by decide +kernel
theorem dX10_reap_81 : decode cX10_reap 81 = .ok (.iaload, 1) := by decide +kernel
theorem dX10_reap_82 : decode cX10_reap 82 = .ok (.iconst (-1), 1) := by decide +kernel
theorem dX10_reap_83 : decode cX10_reap 83 = .ok (.if_icmp .eq 40, 3) := by decide +kernel
theorem dX10_reap_86 : decode cX10_reap 86 = .ok (.iload 4, 2) := by decide +kernel
theorem dX10_reap_88 : decode cX10_reap 88 = .ok (.aload_n 0, 1) := by decide +kernel
theorem dX10_reap_89 : decode cX10_reap 89 = .ok (.getfield 42, 3) := by decide +kernel
theorem dX10_reap_92 : decode cX10_reap 92 = .ok (.aload_n 0, 1) := by decide +kernel
theorem dX10_reap_93 : decode cX10_reap 93 = .ok (.getfield 78, 3) := by decide +kernel
theorem dX10_reap_96 : decode cX10_reap 96 = .ok (.iload 5, 2) := by decide +kernel
theorem dX10_reap_98 : decode cX10_reap 98 = .ok (.lload_n 2, 1) := by decide +kernel
theorem dX10_reap_99 : decode cX10_reap 99 = .ok (.aload_n 0, 1) := by decide +kernel
theorem dX10_reap_100 : decode cX10_reap 100 = .ok (.getfield 51, 3) := by decide +kernel
theorem dX10_reap_103 : decode cX10_reap 103 = .ok (.invokevirtual 176, 3) := by decide +kernel
theorem dX10_reap_106 : decode cX10_reap 106 = .ok (.invokevirtual 238, 3) := by decide +kernel
theorem dX10_reap_109 : decode cX10_reap 109 = .ok (.iadd, 1) := by decide +kernel
theorem dX10_reap_110 : decode cX10_reap 110 = .ok (.istore 4, 2) := by decide +kernel
theorem dX10_reap_112 : decode cX10_reap 112 = .ok (.aload_n 0, 1) := by decide +kernel
theorem dX10_reap_113 : decode cX10_reap 113 = .ok (.getfield 78, 3) := by decide +kernel
theorem dX10_reap_116 : decode cX10_reap 116 = .ok (.getfield 200, 3) := by decide +kernel
theorem dX10_reap_119 : decode cX10_reap 119 = .ok (.iload 5, 2) := by decide +kernel
theorem dX10_reap_121 : decode cX10_reap 121 = .ok (.iconst (-1), 1) := by decide +kernel
theorem dX10_reap_122 : decode cX10_reap 122 = .ok (.iastore, 1) := by decide +kernel
theorem dX10_reap_123 : decode cX10_reap 123 = .ok (.iinc 5 1, 3) := by decide +kernel
theorem dX10_reap_126 : decode cX10_reap 126 = .ok (.goto (-77), 3) := by decide +kernel
theorem dX10_reap_129 : decode cX10_reap 129 = .ok (.iload 4, 2) := by decide +kernel
theorem dX10_reap_131 : decode cX10_reap 131 = .ok (.ireturn, 1) := by decide +kernel
theorem dX10_night_0 : decode cX10_night 0 = .ok (.iload_n 1, 1) := by decide +kernel
theorem dX10_night_1 : decode cX10_night 1 = .ok (.invokestatic 203, 3) := by decide +kernel
theorem dX10_night_4 : decode cX10_night 4 = .ok (.ifCond .ne 5, 3) := by decide +kernel
theorem dX10_night_7 : decode cX10_night 7 = .ok (.iconst (-1), 1) := by decide +kernel
theorem dX10_night_8 : decode cX10_night 8 = .ok (.ireturn, 1) := by decide +kernel
theorem dX10_night_9 : decode cX10_night 9 = .ok (.aload_n 0, 1) := by decide +kernel
theorem dX10_night_10 : decode cX10_night 10 = .ok (.getfield 78, 3) := by decide +kernel
theorem dX10_night_13 : decode cX10_night 13 = .ok (.iload_n 2, 1) := by decide +kernel
theorem dX10_night_14 : decode cX10_night 14 = .ok (.iload_n 3, 1) := by decide +kernel
theorem dX10_night_15 : decode cX10_night 15 = .ok (.invokevirtual 242, 3) := by decide +kernel
theorem dX10_night_18 : decode cX10_night 18 = .ok (.istore 4, 2) := by decide +kernel
theorem dX10_night_20 : decode cX10_night 20 = .ok (.iload 4, 2) := by decide +kernel
theorem dX10_night_22 : decode cX10_night 22 = .ok (.iconst (-1), 1) := by decide +kernel
theorem dX10_night_23 : decode cX10_night 23 = .ok (.if_icmp .ne 5, 3) := by decide +kernel
theorem dX10_night_26 : decode cX10_night 26 = .ok (.iconst (-1), 1) := by decide +kernel
theorem dX10_night_27 : decode cX10_night 27 = .ok (.ireturn, 1) := by decide +kernel
theorem dX10_night_28 : decode cX10_night 28 = .ok (.aload_n 0, 1) := by decide +kernel
theorem dX10_night_29 : decode cX10_night 29 = .ok (.getfield 42, 3) := by decide +kernel
theorem dX10_night_32 : decode cX10_night 32 = .ok (.aload_n 0, 1) := by decide +kernel
theorem dX10_night_33 : decode cX10_night 33 = .ok (.getfield 78, 3) := by decide +kernel
theorem dX10_night_36 : decode cX10_night 36 = .ok (.iload_n 2, 1) := by decide +kernel
theorem dX10_night_37 : decode cX10_night 37 = .ok (.aload_n 0, 1) := by decide +kernel
theorem dX10_night_38 : decode cX10_night 38 = .ok (.getfield 78, 3) := by decide +kernel
theorem dX10_night_41 : decode cX10_night 41 = .ok (.getfield 218, 3) := by decide +kernel
theorem dX10_night_44 : decode cX10_night 44 = .ok (.iload_n 1, 1) := by decide +kernel
theorem dX10_night_45 : decode cX10_night 45 = .ok (.iaload, 1) := by decide +kernel
theorem dX10_night_46 : decode cX10_night 46 = .ok (.aload_n 0, 1) := by decide +kernel
theorem dX10_night_47 : decode cX10_night 47 = .ok (.getfield 51, 3) := by decide +kernel
theorem dX10_night_50 : decode cX10_night 50 = .ok (.invokevirtual 176, 3) := by decide +kernel
theorem dX10_night_53 : decode cX10_night 53 = .ok (.invokevirtual 245, 3) := by decide +kernel
theorem dX10_night_56 : decode cX10_night 56 = .ok (.ifCond .eq 18, 3) := by decide +kernel
theorem dX10_night_59 : decode cX10_night 59 = .ok (.aload_n 0, 1) := by decide +kernel
theorem dX10_night_60 : decode cX10_night 60 = .ok (.getfield 78, 3) := by decide +kernel
theorem dX10_night_63 : decode cX10_night 63 = .ok (.getfield 218, 3) := by decide +kernel
theorem dX10_night_66 : decode cX10_night 66 = .ok (.iload_n 1, 1) := by decide +kernel
theorem dX10_night_67 : decode cX10_night 67 = .ok (.dup2, 1) := by decide +kernel
theorem dX10_night_68 : decode cX10_night 68 = .ok (.iaload, 1) := by decide +kernel
theorem dX10_night_69 : decode cX10_night 69 = .ok (.iconst 1, 1) := by decide +kernel
theorem dX10_night_70 : decode cX10_night 70 = .ok (.iadd, 1) := by decide +kernel
theorem dX10_night_71 : decode cX10_night 71 = .ok (.iastore, 1) := by decide +kernel
theorem dX10_night_72 : decode cX10_night 72 = .ok (.iconst 2, 1) := by decide +kernel
theorem dX10_night_73 : decode cX10_night 73 = .ok (.ireturn, 1) := by decide +kernel
theorem dX10_night_74 : decode cX10_night 74 = .ok (.aload_n 0, 1) := by decide +kernel
theorem dX10_night_75 : decode cX10_night 75 = .ok (.getfield 78, 3) := by decide +kernel
theorem dX10_night_78 : decode cX10_night 78 = .ok (.iload_n 2, 1) := by decide +kernel
theorem dX10_night_79 : decode cX10_night 79 = .ok (.iload 4, 2) := by decide +kernel
theorem dX10_night_81 : decode cX10_night 81 = .ok (.invokevirtual 249, 3) := by decide +kernel
theorem dX10_night_84 : decode cX10_night 84 = .ok (.iconst 1, 1) := by decide +kernel
theorem dX10_night_85 : decode cX10_night 85 = .ok (.ireturn, 1) := by decide +kernel
theorem dX10_odds_0 : decode cX10_odds 0 = .ok (.iload_n 1, 1) := by decide +kernel
theorem dX10_odds_1 : decode cX10_odds 1 = .ok (.invokestatic 203, 3) := by decide +kernel
theorem dX10_odds_4 : decode cX10_odds 4 = .ok (.ifCond .eq 12, 3) := by decide +kernel
theorem dX10_odds_7 : decode cX10_odds 7 = .ok (.iload_n 3, 1) := by decide +kernel
theorem dX10_odds_8 : decode cX10_odds 8 = .ok (.ifCond .lt 8, 3) := by decide +kernel
theorem dX10_odds_11 : decode cX10_odds 11 = .ok (.iload_n 3, 1) := by decide +kernel
theorem dX10_odds_12 : decode cX10_odds 12 = .ok (.iconst 4, 1) := by decide +kernel
theorem dX10_odds_13 : decode cX10_odds 13 = .ok (.if_icmp .le 5, 3) := by decide +kernel
theorem dX10_odds_16 : decode cX10_odds 16 = .ok (.iconst (-1), 1) := by decide +kernel
theorem dX10_odds_17 : decode cX10_odds 17 = .ok (.ireturn, 1) := by decide +kernel
theorem dX10_odds_18 : decode cX10_odds 18 = .ok (.iload_n 2, 1) := by decide +kernel
theorem dX10_odds_19 : decode cX10_odds 19 = .ok (.iconst (-1), 1) := by decide +kernel
theorem dX10_odds_20 : decode cX10_odds 20 = .ok (.if_icmp .ne 13, 3) := by decide +kernel
theorem dX10_odds_23 : decode cX10_odds 23 = .ok (.aload_n 0, 1) := by decide +kernel
theorem dX10_odds_24 : decode cX10_odds 24 = .ok (.getfield 10, 3) := by decide +kernel
theorem dX10_odds_27 : decode cX10_odds 27 = .ok (.iload_n 3, 1) := by decide +kernel
theorem dX10_odds_28 : decode cX10_odds 28 = .ok (.invokevirtual 252, 3) := by decide +kernel
theorem dX10_odds_31 : decode cX10_odds 31 = .ok (.l2i, 1) := by decide +kernel
theorem dX10_odds_32 : decode cX10_odds 32 = .ok (.ireturn, 1) := by decide +kernel
theorem dX10_odds_33 : decode cX10_odds 33 = .ok (.aload_n 0, 1) := by decide +kernel
theorem dX10_odds_34 : decode cX10_odds 34 = .ok (.getfield 69, 3) := by decide +kernel
theorem dX10_odds_37 : decode cX10_odds 37 = .ok (.iload_n 2, 1) := by decide +kernel
theorem dX10_odds_38 : decode cX10_odds 38 = .ok (.invokevirtual 101, 3) := by decide +kernel
theorem dX10_odds_41 : decode cX10_odds 41 = .ok (.ifCond .eq 17, 3) := by decide +kernel
theorem dX10_odds_44 : decode cX10_odds 44 = .ok (.aload_n 0, 1) := by decide +kernel
theorem dX10_odds_45 : decode cX10_odds 45 = .ok (.getfield 90, 3) := by decide +kernel
theorem dX10_odds_48 : decode cX10_odds 48 = .ok (.iload_n 1, 1) := by decide +kernel
theorem dX10_odds_49 : decode cX10_odds 49 = .ok (.iload_n 2, 1) := by decide +kernel
theorem dX10_odds_50 : decode cX10_odds 50 = .ok (.iload_n 3, 1) := by decide +kernel
theorem dX10_odds_51 : decode cX10_odds 51 = .ok (.invokevirtual 255, 3) := by decide +kernel
theorem dX10_odds_54 : decode cX10_odds 54 = .ok (.l2i, 1) := by decide +kernel
theorem dX10_odds_55 : decode cX10_odds 55 = .ok (.goto 4, 3) := by decide +kernel
theorem dX10_odds_58 : decode cX10_odds 58 = .ok (.iconst (-1), 1) := by decide +kernel
theorem dX10_odds_59 : decode cX10_odds 59 = .ok (.ireturn, 1) := by decide +kernel
theorem dX10_mean_0 : decode cX10_mean 0 = .ok (.iload_n 1, 1) := by decide +kernel
theorem dX10_mean_1 : decode cX10_mean 1 = .ok (.invokestatic 203, 3) := by decide +kernel
theorem dX10_mean_4 : decode cX10_mean 4 = .ok (.ifCond .eq 12, 3) := by decide +kernel
theorem dX10_mean_7 : decode cX10_mean 7 = .ok (.iload_n 2, 1) := by decide +kernel
theorem dX10_mean_8 : decode cX10_mean 8 = .ok (.ifCond .lt 8, 3) := by decide +kernel
theorem dX10_mean_11 : decode cX10_mean 11 = .ok (.iload_n 2, 1) := by decide +kernel
theorem dX10_mean_12 : decode cX10_mean 12 = .ok (.iconst 4, 1) := by decide +kernel
theorem dX10_mean_13 : decode cX10_mean 13 = .ok (.if_icmp .le 5, 3) := by decide +kernel
theorem dX10_mean_16 : decode cX10_mean 16 = .ok (.iconst (-1), 1) := by decide +kernel
theorem dX10_mean_17 : decode cX10_mean 17 = .ok (.ireturn, 1) := by decide +kernel
theorem dX10_mean_18 : decode cX10_mean 18 = .ok (.aload_n 0, 1) := by decide +kernel
theorem dX10_mean_19 : decode cX10_mean 19 = .ok (.getfield 90, 3) := by decide +kernel
theorem dX10_mean_22 : decode cX10_mean 22 = .ok (.iload_n 1, 1) := by decide +kernel
theorem dX10_mean_23 : decode cX10_mean 23 = .ok (.iload_n 2, 1) := by decide +kernel
theorem dX10_mean_24 : decode cX10_mean 24 = .ok (.invokevirtual 259, 3) := by decide +kernel
theorem dX10_mean_27 : decode cX10_mean 27 = .ok (.ireturn, 1) := by decide +kernel
theorem dX10_best_0 : decode cX10_best 0 = .ok (.iload_n 1, 1) := by decide +kernel
theorem dX10_best_1 : decode cX10_best 1 = .ok (.invokestatic 203, 3) := by decide +kernel
theorem dX10_best_4 : decode cX10_best 4 = .ok (.ifCond .eq 21, 3) := by decide +kernel
theorem dX10_best_7 : decode cX10_best 7 = .ok (.iload_n 2, 1) := by decide +kernel
theorem dX10_best_8 : decode cX10_best 8 = .ok (.ifCond .lt 17, 3) := by decide +kernel
theorem dX10_best_11 : decode cX10_best 11 = .ok (.iload_n 2, 1) := by decide +kernel
theorem dX10_best_12 : decode cX10_best 12 = .ok (.iconst 2, 1) := by decide +kernel
theorem dX10_best_13 : decode cX10_best 13 = .ok (.if_icmp .gt 12, 3) := by decide +kernel
theorem dX10_best_16 : decode cX10_best 16 = .ok (.iload_n 3, 1) := by decide +kernel
theorem dX10_best_17 : decode cX10_best 17 = .ok (.ifCond .lt 8, 3) := by decide +kernel
theorem dX10_best_20 : decode cX10_best 20 = .ok (.iload_n 3, 1) := by decide +kernel
theorem dX10_best_21 : decode cX10_best 21 = .ok (.iconst 2, 1) := by decide +kernel
theorem dX10_best_22 : decode cX10_best 22 = .ok (.if_icmp .le 5, 3) := by decide +kernel
theorem dX10_best_25 : decode cX10_best 25 = .ok (.iconst (-1), 1) := by decide +kernel
theorem dX10_best_26 : decode cX10_best 26 = .ok (.ireturn, 1) := by decide +kernel
theorem dX10_best_27 : decode cX10_best 27 = .ok (.aload_n 0, 1) := by decide +kernel
theorem dX10_best_28 : decode cX10_best 28 = .ok (.getfield 90, 3) := by decide +kernel
theorem dX10_best_31 : decode cX10_best 31 = .ok (.iload_n 1, 1) := by decide +kernel
theorem dX10_best_32 : decode cX10_best 32 = .ok (.iload_n 2, 1) := by decide +kernel
theorem dX10_best_33 : decode cX10_best 33 = .ok (.invokevirtual 262, 3) := by decide +kernel
theorem dX10_best_36 : decode cX10_best 36 = .ok (.aload_n 0, 1) := by decide +kernel
theorem dX10_best_37 : decode cX10_best 37 = .ok (.getfield 90, 3) := by decide +kernel
theorem dX10_best_40 : decode cX10_best 40 = .ok (.getfield 265, 3) := by decide +kernel
theorem dX10_best_43 : decode cX10_best 43 = .ok (.iconst (-1), 1) := by decide +kernel
theorem dX10_best_44 : decode cX10_best 44 = .ok (.if_icmp .ne 5, 3) := by decide +kernel
theorem dX10_best_47 : decode cX10_best 47 = .ok (.iconst (-1), 1) := by decide +kernel
theorem dX10_best_48 : decode cX10_best 48 = .ok (.ireturn, 1) := by decide +kernel
theorem dX10_best_49 : decode cX10_best 49 = .ok (.iload_n 3, 1) := by decide +kernel
theorem dX10_best_50 : decode cX10_best 50 = .ok (.ifCond .ne 11, 3) := by decide +kernel
theorem dX10_best_53 : decode cX10_best 53 = .ok (.aload_n 0, 1) := by decide +kernel
theorem dX10_best_54 : decode cX10_best 54 = .ok (.getfield 90, 3) := by decide +kernel
theorem dX10_best_57 : decode cX10_best 57 = .ok (.getfield 265, 3) := by decide +kernel
theorem dX10_best_60 : decode cX10_best 60 = .ok (.ireturn, 1) := by decide +kernel
theorem dX10_best_61 : decode cX10_best 61 = .ok (.iload_n 3, 1) := by decide +kernel
theorem dX10_best_62 : decode cX10_best 62 = .ok (.iconst 1, 1) := by decide +kernel
theorem dX10_best_63 : decode cX10_best 63 = .ok (.if_icmp .ne 13, 3) := by decide +kernel
theorem dX10_best_66 : decode cX10_best 66 = .ok (.aload_n 0, 1) := by decide +kernel
theorem dX10_best_67 : decode cX10_best 67 = .ok (.getfield 90, 3) := by decide +kernel
theorem dX10_best_70 : decode cX10_best 70 = .ok (.getfield 268, 3) := by decide +kernel
theorem dX10_best_73 : decode cX10_best 73 = .ok (.goto 10, 3) := by decide +kernel
theorem dX10_best_76 : decode cX10_best 76 = .ok (.aload_n 0, 1) := by decide +kernel
theorem dX10_best_77 : decode cX10_best 77 = .ok (.getfield 90, 3) := by decide +kernel
theorem dX10_best_80 : decode cX10_best 80 = .ok (.getfield 271, 3) := by decide +kernel
theorem dX10_best_83 : decode cX10_best 83 = .ok (.ireturn, 1) := by decide +kernel
theorem dX10_time_0 : decode cX10_time 0 = .ok (.iload_n 1, 1) := by decide +kernel
theorem dX10_time_1 : decode cX10_time 1 = .ok (.invokestatic 203, 3) := by decide +kernel
theorem dX10_time_4 : decode cX10_time 4 = .ok (.ifCond .eq 35, 3) := by decide +kernel
theorem dX10_time_7 : decode cX10_time 7 = .ok (.aload_n 0, 1) := by decide +kernel
theorem dX10_time_8 : decode cX10_time 8 = .ok (.getfield 69, 3) := by decide +kernel
theorem dX10_time_11 : decode cX10_time 11 = .ok (.iload_n 2, 1) := by decide +kernel
theorem dX10_time_12 : decode cX10_time 12 = .ok (.invokevirtual 101, 3) := by decide +kernel
theorem dX10_time_15 : decode cX10_time 15 = .ok (.ifCond .eq 24, 3) := by decide +kernel
theorem dX10_time_18 : decode cX10_time 18 = .ok (.iload_n 3, 1) := by decide +kernel
theorem dX10_time_19 : decode cX10_time 19 = .ok (.iconst 1, 1) := by decide +kernel
theorem dX10_time_20 : decode cX10_time 20 = .ok (.if_icmp .lt 19, 3) := by decide +kernel
theorem dX10_time_23 : decode cX10_time 23 = .ok (.iload_n 3, 1) := by decide +kernel
theorem dX10_time_24 : decode cX10_time 24 = .ok (.bipush 20, 2) := by decide +kernel
theorem dX10_time_26 : decode cX10_time 26 = .ok (.if_icmp .gt 13, 3) := by decide +kernel
theorem dX10_time_29 : decode cX10_time 29 = .ok (.aload_n 0, 1) := by decide +kernel
theorem dX10_time_30 : decode cX10_time 30 = .ok (.getfield 10, 3) := by decide +kernel
theorem dX10_time_33 : decode cX10_time 33 = .ok (.getfield 274, 3) := by decide +kernel
theorem dX10_time_36 : decode cX10_time 36 = .ok (.ifCond .ne 5, 3) := by decide +kernel
theorem dX10_time_39 : decode cX10_time 39 = .ok (.iconst (-1), 1) := by decide +kernel
theorem dX10_time_40 : decode cX10_time 40 = .ok (.ireturn, 1) := by decide +kernel
theorem dX10_time_41 : decode cX10_time 41 = .ok (.aload_n 0, 1) := by decide +kernel
theorem dX10_time_42 : decode cX10_time 42 = .ok (.getfield 90, 3) := by decide +kernel
theorem dX10_time_45 : decode cX10_time 45 = .ok (.iload_n 1, 1) := by decide +kernel
theorem dX10_time_46 : decode cX10_time 46 = .ok (.iload_n 2, 1) := by decide +kernel
theorem dX10_time_47 : decode cX10_time 47 = .ok (.iload_n 3, 1) := by decide +kernel
theorem dX10_time_48 : decode cX10_time 48 = .ok (.invokevirtual 277, 3) := by decide +kernel
theorem dX10_time_51 : decode cX10_time 51 = .ok (.ireturn, 1) := by decide +kernel
theorem dX10_keeps_0 : decode cX10_keeps 0 = .ok (.iload_n 1, 1) := by decide +kernel
theorem dX10_keeps_1 : decode cX10_keeps 1 = .ok (.invokestatic 203, 3) := by decide +kernel
theorem dX10_keeps_4 : decode cX10_keeps 4 = .ok (.ifCond .eq 25, 3) := by decide +kernel
theorem dX10_keeps_7 : decode cX10_keeps 7 = .ok (.aload_n 0, 1) := by decide +kernel
theorem dX10_keeps_8 : decode cX10_keeps 8 = .ok (.getfield 69, 3) := by decide +kernel
theorem dX10_keeps_11 : decode cX10_keeps 11 = .ok (.iload_n 2, 1) := by decide +kernel
theorem dX10_keeps_12 : decode cX10_keeps 12 = .ok (.invokevirtual 101, 3) := by decide +kernel
theorem dX10_keeps_15 : decode cX10_keeps 15 = .ok (.ifCond .eq 14, 3) := by decide +kernel
theorem dX10_keeps_18 : decode cX10_keeps 18 = .ok (.aload_n 0, 1) := by decide +kernel
theorem dX10_keeps_19 : decode cX10_keeps 19 = .ok (.getfield 78, 3) := by decide +kernel
theorem dX10_keeps_22 : decode cX10_keeps 22 = .ok (.iload_n 3, 1) := by decide +kernel
theorem dX10_keeps_23 : decode cX10_keeps 23 = .ok (.invokevirtual 163, 3) := by decide +kernel
theorem dX10_keeps_26 : decode cX10_keeps 26 = .ok (.ifCond .ne 5, 3) := by decide +kernel
theorem dX10_keeps_29 : decode cX10_keeps 29 = .ok (.iconst (-1), 1) := by decide +kernel
theorem dX10_keeps_30 : decode cX10_keeps 30 = .ok (.ireturn, 1) := by decide +kernel
theorem dX10_keeps_31 : decode cX10_keeps 31 = .ok (.iload 4, 2) := by decide +kernel
theorem dX10_keeps_33 : decode cX10_keeps 33 = .ok (.iconst 1, 1) := by decide +kernel
theorem dX10_keeps_34 : decode cX10_keeps 34 = .ok (.if_icmp .lt 20, 3) := by decide +kernel
theorem dX10_keeps_37 : decode cX10_keeps 37 = .ok (.iload 4, 2) := by decide +kernel
theorem dX10_keeps_39 : decode cX10_keeps 39 = .ok (.bipush 40, 2) := by decide +kernel
theorem dX10_keeps_41 : decode cX10_keeps 41 = .ok (.if_icmp .gt 13, 3) := by decide +kernel
theorem dX10_keeps_44 : decode cX10_keeps 44 = .ok (.aload_n 0, 1) := by decide +kernel
theorem dX10_keeps_45 : decode cX10_keeps 45 = .ok (.getfield 10, 3) := by decide +kernel
theorem dX10_keeps_48 : decode cX10_keeps 48 = .ok (.getfield 274, 3) := by decide +kernel
theorem dX10_keeps_51 : decode cX10_keeps 51 = .ok (.ifCond .ne 5, 3) := by decide +kernel
theorem dX10_keeps_54 : decode cX10_keeps 54 = .ok (.iconst (-1), 1) := by decide +kernel
theorem dX10_keeps_55 : decode cX10_keeps 55 = .ok (.ireturn, 1) := by decide +kernel
theorem dX10_keeps_56 : decode cX10_keeps 56 = .ok (.aload_n 0, 1) := by decide +kernel
theorem dX10_keeps_57 : decode cX10_keeps 57 = .ok (.getfield 90, 3) := by decide +kernel
theorem dX10_keeps_60 : decode cX10_keeps 60 = .ok (.iload_n 1, 1) := by decide +kernel
theorem dX10_keeps_61 : decode cX10_keeps 61 = .ok (.iload_n 2, 1) := by decide +kernel
theorem dX10_keeps_62 : decode cX10_keeps 62 = .ok (.iload_n 3, 1) := by decide +kernel
theorem dX10_keeps_63 : decode cX10_keeps 63 = .ok (.iload 4, 2) := by decide +kernel
theorem dX10_keeps_65 : decode cX10_keeps 65 = .ok (.invokevirtual 281, 3) := by decide +kernel
theorem dX10_keeps_68 : decode cX10_keeps 68 = .ok (.ireturn, 1) := by decide +kernel
theorem dX10_calm_0 : decode cX10_calm 0 = .ok (.aload_n 0, 1) := by decide +kernel
theorem dX10_calm_1 : decode cX10_calm 1 = .ok (.getfield 10, 3) := by decide +kernel
theorem dX10_calm_4 : decode cX10_calm 4 = .ok (.getfield 274, 3) := by decide +kernel
theorem dX10_calm_7 : decode cX10_calm 7 = .ok (.ifCond .ne 7, 3) := by decide +kernel
theorem dX10_calm_10 : decode cX10_calm 10 = .ok (.iconst (-1), 1) := by decide +kernel
theorem dX10_calm_11 : decode cX10_calm 11 = .ok (.goto 10, 3) := by decide +kernel
theorem dX10_calm_14 : decode cX10_calm 14 = .ok (.aload_n 0, 1) := by decide +kernel
theorem dX10_calm_15 : decode cX10_calm 15 = .ok (.getfield 90, 3) := by decide +kernel
theorem dX10_calm_18 : decode cX10_calm 18 = .ok (.invokevirtual 284, 3) := by decide +kernel
theorem dX10_calm_21 : decode cX10_calm 21 = .ok (.ireturn, 1) := by decide +kernel
theorem dX10_disputes_0 : decode cX10_disputes 0 = .ok (.iload_n 1, 1) := by decide +kernel
theorem dX10_disputes_1 : decode cX10_disputes 1 = .ok (.ifCond .lt 9, 3) := by decide +kernel
theorem dX10_disputes_4 : decode cX10_disputes 4 = .ok (.iload_n 1, 1) := by decide +kernel
theorem dX10_disputes_5 : decode cX10_disputes 5 = .ok (.bipush 40, 2) := by decide +kernel
theorem dX10_disputes_7 : decode cX10_disputes 7 = .ok (.if_icmp .le 5, 3) := by decide +kernel
theorem dX10_disputes_10 : decode cX10_disputes 10 = .ok (.iconst (-1), 1) := by decide +kernel
theorem dX10_disputes_11 : decode cX10_disputes 11 = .ok (.ireturn, 1) := by decide +kernel
theorem dX10_disputes_12 : decode cX10_disputes 12 = .ok (.iload_n 1, 1) := by decide +kernel
theorem dX10_disputes_13 : decode cX10_disputes 13 = .ok (.ifCond .ne 11, 3) := by decide +kernel
theorem dX10_disputes_16 : decode cX10_disputes 16 = .ok (.aload_n 0, 1) := by decide +kernel
theorem dX10_disputes_17 : decode cX10_disputes 17 = .ok (.getfield 78, 3) := by decide +kernel
theorem dX10_disputes_20 : decode cX10_disputes 20 = .ok (.invokevirtual 288, 3) := by decide +kernel
theorem dX10_disputes_23 : decode cX10_disputes 23 = .ok (.ireturn, 1) := by decide +kernel
theorem dX10_disputes_24 : decode cX10_disputes 24 = .ok (.aload_n 0, 1) := by decide +kernel
theorem dX10_disputes_25 : decode cX10_disputes 25 = .ok (.getfield 10, 3) := by decide +kernel
theorem dX10_disputes_28 : decode cX10_disputes 28 = .ok (.getfield 274, 3) := by decide +kernel
theorem dX10_disputes_31 : decode cX10_disputes 31 = .ok (.ifCond .ne 7, 3) := by decide +kernel
theorem dX10_disputes_34 : decode cX10_disputes 34 = .ok (.iconst (-1), 1) := by decide +kernel
theorem dX10_disputes_35 : decode cX10_disputes 35 = .ok (.goto 11, 3) := by decide +kernel
theorem dX10_disputes_38 : decode cX10_disputes 38 = .ok (.aload_n 0, 1) := by decide +kernel
theorem dX10_disputes_39 : decode cX10_disputes 39 = .ok (.getfield 90, 3) := by decide +kernel
theorem dX10_disputes_42 : decode cX10_disputes 42 = .ok (.iload_n 1, 1) := by decide +kernel
theorem dX10_disputes_43 : decode cX10_disputes 43 = .ok (.invokevirtual 291, 3) := by decide +kernel
theorem dX10_disputes_46 : decode cX10_disputes 46 = .ok (.ireturn, 1) := by decide +kernel
theorem dX10_map_0 : decode cX10_map 0 = .ok (.aload_n 0, 1) := by decide +kernel
theorem dX10_map_1 : decode cX10_map 1 = .ok (.getfield 78, 3) := by decide +kernel
theorem dX10_map_4 : decode cX10_map 4 = .ok (.iload_n 1, 1) := by decide +kernel
theorem dX10_map_5 : decode cX10_map 5 = .ok (.invokevirtual 163, 3) := by decide +kernel
theorem dX10_map_8 : decode cX10_map 8 = .ok (.ifCond .eq 19, 3) := by decide +kernel
theorem dX10_map_11 : decode cX10_map 11 = .ok (.iload_n 2, 1) := by decide +kernel
theorem dX10_map_12 : decode cX10_map 12 = .ok (.iconst (-1), 1) := by decide +kernel
theorem dX10_map_13 : decode cX10_map 13 = .ok (.if_icmp .eq 16, 3) := by decide +kernel
theorem dX10_map_16 : decode cX10_map 16 = .ok (.aload_n 0, 1) := by decide +kernel
theorem dX10_map_17 : decode cX10_map 17 = .ok (.getfield 69, 3) := by decide +kernel
theorem dX10_map_20 : decode cX10_map 20 = .ok (.iload_n 2, 1) := by decide +kernel
theorem dX10_map_21 : decode cX10_map 21 = .ok (.invokevirtual 101, 3) := by decide +kernel
theorem dX10_map_24 : decode cX10_map 24 = .ok (.ifCond .ne 5, 3) := by decide +kernel
theorem dX10_map_27 : decode cX10_map 27 = .ok (.iconst 0, 1) := by decide +kernel
theorem dX10_map_28 : decode cX10_map 28 = .ok (.ireturn, 1) := by decide +kernel
theorem dX10_map_29 : decode cX10_map 29 = .ok (.aload_n 0, 1) := by decide +kernel
theorem dX10_map_30 : decode cX10_map 30 = .ok (.getfield 10, 3) := by decide +kernel
theorem dX10_map_33 : decode cX10_map 33 = .ok (.getfield 294, 3) := by decide +kernel
theorem dX10_map_36 : decode cX10_map 36 = .ok (.iload_n 1, 1) := by decide +kernel
theorem dX10_map_37 : decode cX10_map 37 = .ok (.iload_n 2, 1) := by decide +kernel
theorem dX10_map_38 : decode cX10_map 38 = .ok (.iastore, 1) := by decide +kernel
theorem dX10_map_39 : decode cX10_map 39 = .ok (.iconst 1, 1) := by decide +kernel
theorem dX10_map_40 : decode cX10_map 40 = .ok (.ireturn, 1) := by decide +kernel
theorem dX10_made_0 : decode cX10_made 0 = .ok (.aload_n 0, 1) := by decide +kernel
theorem dX10_made_1 : decode cX10_made 1 = .ok (.getfield 90, 3) := by decide +kernel
theorem dX10_made_4 : decode cX10_made 4 = .ok (.invokevirtual 297, 3) := by decide +kernel
theorem dX10_made_7 : decode cX10_made 7 = .ok (.ireturn, 1) := by decide +kernel
theorem dX10_hours_0 : decode cX10_hours 0 = .ok (.aload_n 0, 1) := by decide +kernel
theorem dX10_hours_1 : decode cX10_hours 1 = .ok (.getfield 10, 3) := by decide +kernel
theorem dX10_hours_4 : decode cX10_hours 4 = .ok (.invokevirtual 300, 3) := by decide +kernel
theorem dX10_hours_7 : decode cX10_hours 7 = .ok (.istore_n 3, 1) := by decide +kernel
theorem dX10_hours_8 : decode cX10_hours 8 = .ok (.iload_n 1, 1) := by decide +kernel
theorem dX10_hours_9 : decode cX10_hours 9 = .ok (.ifCond .lt 40, 3) := by decide +kernel
theorem dX10_hours_12 : decode cX10_hours 12 = .ok (.iload_n 1, 1) := by decide +kernel
theorem dX10_hours_13 : decode cX10_hours 13 = .ok (.sipush 9999, 3) := by decide +kernel
theorem dX10_hours_16 : decode cX10_hours 16 = .ok (.if_icmp .gt 33, 3) := by decide +kernel
theorem dX10_hours_19 : decode cX10_hours 19 = .ok (.iload_n 2, 1) := by decide +kernel
theorem dX10_hours_20 : decode cX10_hours 20 = .ok (.iconst 1, 1) := by decide +kernel
theorem dX10_hours_21 : decode cX10_hours 21 = .ok (.if_icmp .lt 28, 3) := by decide +kernel
theorem dX10_hours_24 : decode cX10_hours 24 = .ok (.iload_n 2, 1) := by decide +kernel
theorem dX10_hours_25 : decode cX10_hours 25 = .ok (.bipush 40, 2) := by decide +kernel
theorem dX10_hours_27 : decode cX10_hours 27 = .ok (.if_icmp .gt 22, 3) := by decide +kernel
theorem dX10_hours_30 : decode cX10_hours 30 = .ok (.iload_n 3, 1) := by decide +kernel
theorem dX10_hours_31 : decode cX10_hours 31 = .ok (.ifCond .le 18, 3) := by decide +kernel
theorem dX10_hours_34 : decode cX10_hours 34 = .ok (.aload_n 0, 1) := by decide +kernel
theorem dX10_hours_35 : decode cX10_hours 35 = .ok (.getfield 78, 3) := by decide +kernel
theorem dX10_hours_38 : decode cX10_hours 38 = .ok (.getfield 224, 3) := by decide +kernel
theorem dX10_hours_41 : decode cX10_hours 41 = .ok (.iload_n 2, 1) := by decide +kernel
theorem dX10_hours_42 : decode cX10_hours 42 = .ok (.iadd, 1) := by decide +kernel
theorem dX10_hours_43 : decode cX10_hours 43 = .ok (.sipush 999, 3) := by decide +kernel
theorem dX10_hours_46 : decode cX10_hours 46 = .ok (.if_icmp .le 5, 3) := by decide +kernel
theorem dX10_hours_49 : decode cX10_hours 49 = .ok (.iconst (-1), 1) := by decide +kernel
theorem dX10_hours_50 : decode cX10_hours 50 = .ok (.ireturn, 1) := by decide +kernel
theorem dX10_hours_51 : decode cX10_hours 51 = .ok (.iload_n 1, 1) := by decide +kernel
theorem dX10_hours_52 : decode cX10_hours 52 = .ok (.iconst 3, 1) := by decide +kernel
theorem dX10_hours_53 : decode cX10_hours 53 = .ok (.imul, 1) := by decide +kernel
theorem dX10_hours_54 : decode cX10_hours 54 = .ok (.bipush 8, 2) := by decide +kernel
theorem dX10_hours_56 : decode cX10_hours 56 = .ok (.iadd, 1) := by decide +kernel
theorem dX10_hours_57 : decode cX10_hours 57 = .ok (.istore 4, 2) := by decide +kernel
theorem dX10_hours_59 : decode cX10_hours 59 = .ok (.iconst 0, 1) := by decide +kernel
theorem dX10_hours_60 : decode cX10_hours 60 = .ok (.istore 5, 2) := by decide +kernel
theorem dX10_hours_62 : decode cX10_hours 62 = .ok (.iconst 0, 1) := by decide +kernel
theorem dX10_hours_63 : decode cX10_hours 63 = .ok (.istore 6, 2) := by decide +kernel
theorem dX10_hours_65 : decode cX10_hours 65 = .ok (.iload 6, 2) := by decide +kernel
theorem dX10_hours_67 : decode cX10_hours 67 = .ok (.iload_n 2, 1) := by decide +kernel
theorem dX10_hours_68 : decode cX10_hours 68 = .ok (.if_icmp .ge 51, 3) := by decide +kernel
theorem dX10_hours_71 : decode cX10_hours 71 = .ok (.iload 5, 2) := by decide +kernel
theorem dX10_hours_73 : decode cX10_hours 73 = .ok (.aload_n 0, 1) := by decide +kernel
theorem dX10_hours_74 : decode cX10_hours 74 = .ok (.getfield 51, 3) := by decide +kernel
theorem dX10_hours_77 : decode cX10_hours 77 = .ok (.aload_n 0, 1) := by decide +kernel
theorem dX10_hours_78 : decode cX10_hours 78 = .ok (.getfield 78, 3) := by decide +kernel
theorem dX10_hours_81 : decode cX10_hours 81 = .ok (.aload_n 0, 1) := by decide +kernel
theorem dX10_hours_82 : decode cX10_hours 82 = .ok (.getfield 10, 3) := by decide +kernel
theorem dX10_hours_85 : decode cX10_hours 85 = .ok (.iload 4, 2) := by decide +kernel
theorem dX10_hours_87 : decode cX10_hours 87 = .ok (.iload_n 3, 1) := by decide +kernel
theorem dX10_hours_88 : decode cX10_hours 88 = .ok (.irem, 1) := by decide +kernel
theorem dX10_hours_89 : decode cX10_hours 89 = .ok (.invokevirtual 303, 3) := by decide +kernel
theorem dX10_hours_92 : decode cX10_hours 92 = .ok (.invokevirtual 227, 3) := by decide +kernel
theorem dX10_hours_95 : decode cX10_hours 95 = .ok (.iadd, 1) := by decide +kernel
theorem dX10_hours_96 : decode cX10_hours 96 = .ok (.istore 5, 2) := by decide +kernel
theorem dX10_hours_98 : decode cX10_hours 98 = .ok (.iload 4, 2) := by decide +kernel
theorem dX10_hours_100 : decode cX10_hours 100 = .ok (.sipush 179, 3) := by decide +kernel
theorem dX10_hours_103 : decode cX10_hours 103 = .ok (.imul, 1) := by decide +kernel
theorem dX10_hours_104 : decode cX10_hours 104 = .ok (.bipush 41, 2) := by decide +kernel
theorem dX10_hours_106 : decode cX10_hours 106 = .ok (.iadd, 1) := by decide +kernel
theorem dX10_hours_107 : decode cX10_hours 107 = .ok (.sipush 30103, 3) := by decide +kernel
theorem dX10_hours_110 : decode cX10_hours 110 = .ok (.irem, 1) := by decide +kernel
theorem dX10_hours_111 : decode cX10_hours 111 = .ok (.istore 4, 2) := by decide +kernel
theorem dX10_hours_113 : decode cX10_hours 113 = .ok (.iinc 6 1, 3) := by decide +kernel
theorem dX10_hours_116 : decode cX10_hours 116 = .ok (.goto (-51), 3) := by decide +kernel
theorem dX10_hours_119 : decode cX10_hours 119 = .ok (.iload 5, 2) := by decide +kernel
theorem dX10_hours_121 : decode cX10_hours 121 = .ok (.ireturn, 1) := by decide +kernel
theorem dX10_image_0 : decode cX10_image 0 = .ok (.aload_n 0, 1) := by decide +kernel
theorem dX10_image_1 : decode cX10_image 1 = .ok (.getfield 82, 3) := by decide +kernel
theorem dX10_image_4 : decode cX10_image 4 = .ok (.aload_n 0, 1) := by decide +kernel
theorem dX10_image_5 : decode cX10_image 5 = .ok (.getfield 78, 3) := by decide +kernel
theorem dX10_image_8 : decode cX10_image 8 = .ok (.invokevirtual 306, 3) := by decide +kernel
theorem dX10_image_11 : decode cX10_image 11 = .ok (.aload_n 0, 1) := by decide +kernel
theorem dX10_image_12 : decode cX10_image 12 = .ok (.getfield 16, 3) := by decide +kernel
theorem dX10_image_15 : decode cX10_image 15 = .ok (.aload_n 0, 1) := by decide +kernel
theorem dX10_image_16 : decode cX10_image 16 = .ok (.getfield 10, 3) := by decide +kernel
theorem dX10_image_19 : decode cX10_image 19 = .ok (.invokevirtual 310, 3) := by decide +kernel
theorem dX10_image_22 : decode cX10_image 22 = .ok (.aload_n 0, 1) := by decide +kernel
theorem dX10_image_23 : decode cX10_image 23 = .ok (.getfield 78, 3) := by decide +kernel
theorem dX10_image_26 : decode cX10_image 26 = .ok (.getfield 224, 3) := by decide +kernel
theorem dX10_image_29 : decode cX10_image 29 = .ok (.ireturn, 1) := by decide +kernel
theorem dX10_back_0 : decode cX10_back 0 = .ok (.aload_n 0, 1) := by decide +kernel
theorem dX10_back_1 : decode cX10_back 1 = .ok (.getfield 78, 3) := by decide +kernel
theorem dX10_back_4 : decode cX10_back 4 = .ok (.aload_n 0, 1) := by decide +kernel
theorem dX10_back_5 : decode cX10_back 5 = .ok (.getfield 82, 3) := by decide +kernel
theorem dX10_back_8 : decode cX10_back 8 = .ok (.invokevirtual 306, 3) := by decide +kernel
theorem dX10_back_11 : decode cX10_back 11 = .ok (.aload_n 0, 1) := by decide +kernel
theorem dX10_back_12 : decode cX10_back 12 = .ok (.getfield 10, 3) := by decide +kernel
theorem dX10_back_15 : decode cX10_back 15 = .ok (.aload_n 0, 1) := by decide +kernel
theorem dX10_back_16 : decode cX10_back 16 = .ok (.getfield 16, 3) := by decide +kernel
theorem dX10_back_19 : decode cX10_back 19 = .ok (.invokevirtual 310, 3) := by decide +kernel
theorem dX10_back_22 : decode cX10_back 22 = .ok (.aload_n 0, 1) := by decide +kernel
theorem dX10_back_23 : decode cX10_back 23 = .ok (.getfield 78, 3) := by decide +kernel
theorem dX10_back_26 : decode cX10_back 26 = .ok (.getfield 224, 3) := by decide +kernel
theorem dX10_back_29 : decode cX10_back 29 = .ok (.ireturn, 1) := by decide +kernel
theorem dX10_about_0 : decode cX10_about 0 = .ok (.iload_n 1, 1) := by decide +kernel
theorem dX10_about_1 : decode cX10_about 1 = .ok (.bipush 10, 2) := by decide +kernel
theorem dX10_about_3 : decode cX10_about 3 = .ok (.if_icmp .lt 22, 3) := by decide +kernel
theorem dX10_about_6 : decode cX10_about 6 = .ok (.iload_n 1, 1) := by decide +kernel
theorem dX10_about_7 : decode cX10_about 7 = .ok (.bipush 50, 2) := by decide +kernel
theorem dX10_about_9 : decode cX10_about 9 = .ok (.if_icmp .ge 16, 3) := by decide +kernel
theorem dX10_about_12 : decode cX10_about 12 = .ok (.aload_n 0, 1) := by decide +kernel
theorem dX10_about_13 : decode cX10_about 13 = .ok (.getfield 10, 3) := by decide +kernel
theorem dX10_about_16 : decode cX10_about 16 = .ok (.getfield 118, 3) := by decide +kernel
theorem dX10_about_19 : decode cX10_about 19 = .ok (.iload_n 1, 1) := by decide +kernel
theorem dX10_about_20 : decode cX10_about 20 = .ok (.bipush 10, 2) := by decide +kernel
theorem dX10_about_22 : decode cX10_about 22 = .ok (.isub, 1) := by decide +kernel
theorem dX10_about_23 : decode cX10_about 23 = .ok (.iaload, 1) := by decide +kernel
theorem dX10_about_24 : decode cX10_about 24 = .ok (.ireturn, 1) := by decide +kernel
theorem dX10_about_25 : decode cX10_about 25 = .ok (.iload_n 1, 1) := by decide +kernel
theorem dX10_about_26 : decode cX10_about 26 = .ok (.bipush 60, 2) := by decide +kernel
theorem dX10_about_28 : decode cX10_about 28 = .ok (.if_icmp .lt 36, 3) := by decide +kernel
theorem dX10_about_31 : decode cX10_about 31 = .ok (.iload_n 1, 1) := by decide +kernel
theorem dX10_about_32 : decode cX10_about 32 = .ok (.bipush 84, 2) := by decide +kernel
theorem dX10_about_34 : decode cX10_about 34 = .ok (.if_icmp .ge 30, 3) := by decide +kernel
theorem dX10_about_37 : decode cX10_about 37 = .ok (.aload_n 0, 1) := by decide +kernel
theorem dX10_about_38 : decode cX10_about 38 = .ok (.getfield 78, 3) := by decide +kernel
theorem dX10_about_41 : decode cX10_about 41 = .ok (.iload_n 1, 1) := by decide +kernel
theorem dX10_about_42 : decode cX10_about 42 = .ok (.bipush 60, 2) := by decide +kernel
theorem dX10_about_44 : decode cX10_about 44 = .ok (.isub, 1) := by decide +kernel
theorem dX10_about_45 : decode cX10_about 45 = .ok (.invokevirtual 163, 3) := by decide +kernel
theorem dX10_about_48 : decode cX10_about 48 = .ok (.ifCond .eq 16, 3) := by decide +kernel
theorem dX10_about_51 : decode cX10_about 51 = .ok (.aload_n 0, 1) := by decide +kernel
theorem dX10_about_52 : decode cX10_about 52 = .ok (.getfield 10, 3) := by decide +kernel
theorem dX10_about_55 : decode cX10_about 55 = .ok (.getfield 294, 3) := by decide +kernel
theorem dX10_about_58 : decode cX10_about 58 = .ok (.iload_n 1, 1) := by decide +kernel
theorem dX10_about_59 : decode cX10_about 59 = .ok (.bipush 60, 2) := by decide +kernel
theorem dX10_about_61 : decode cX10_about 61 = .ok (.isub, 1) := by decide +kernel
theorem dX10_about_62 : decode cX10_about 62 = .ok (.iaload, 1) := by decide +kernel
theorem dX10_about_63 : decode cX10_about 63 = .ok (.ireturn, 1) := by decide +kernel
theorem dX10_about_64 : decode cX10_about 64 = .ok (.iload_n 1, 1) := by decide +kernel
theorem dX10_about_65 : decode cX10_about 65 = .ok (.tableswitch 135 0 9 #[55, 63, 71, 79, 87, 95, 103, 111, 119, 127], 55) := by decide +kernel
theorem dX10_about_120 : decode cX10_about 120 = .ok (.aload_n 0, 1) := by decide +kernel
theorem dX10_about_121 : decode cX10_about 121 = .ok (.getfield 69, 3) := by decide +kernel
theorem dX10_about_124 : decode cX10_about 124 = .ok (.getfield 313, 3) := by decide +kernel
theorem dX10_about_127 : decode cX10_about 127 = .ok (.ireturn, 1) := by decide +kernel
theorem dX10_about_128 : decode cX10_about 128 = .ok (.aload_n 0, 1) := by decide +kernel
theorem dX10_about_129 : decode cX10_about 129 = .ok (.getfield 69, 3) := by decide +kernel
theorem dX10_about_132 : decode cX10_about 132 = .ok (.getfield 316, 3) := by decide +kernel
theorem dX10_about_135 : decode cX10_about 135 = .ok (.ireturn, 1) := by decide +kernel
theorem dX10_about_136 : decode cX10_about 136 = .ok (.aload_n 0, 1) := by decide +kernel
theorem dX10_about_137 : decode cX10_about 137 = .ok (.getfield 78, 3) := by decide +kernel
theorem dX10_about_140 : decode cX10_about 140 = .ok (.getfield 224, 3) := by decide +kernel
theorem dX10_about_143 : decode cX10_about 143 = .ok (.ireturn, 1) := by decide +kernel
theorem dX10_about_144 : decode cX10_about 144 = .ok (.aload_n 0, 1) := by decide +kernel
theorem dX10_about_145 : decode cX10_about 145 = .ok (.getfield 78, 3) := by decide +kernel
theorem dX10_about_148 : decode cX10_about 148 = .ok (.getfield 319, 3) := by decide +kernel
theorem dX10_about_151 : decode cX10_about 151 = .ok (.ireturn, 1) := by decide +kernel
theorem dX10_about_152 : decode cX10_about 152 = .ok (.aload_n 0, 1) := by decide +kernel
theorem dX10_about_153 : decode cX10_about 153 = .ok (.getfield 10, 3) := by decide +kernel
theorem dX10_about_156 : decode cX10_about 156 = .ok (.getfield 274, 3) := by decide +kernel
theorem dX10_about_159 : decode cX10_about 159 = .ok (.ireturn, 1) := by decide +kernel
theorem dX10_about_160 : decode cX10_about 160 = .ok (.aload_n 0, 1) := by decide +kernel
theorem dX10_about_161 : decode cX10_about 161 = .ok (.getfield 10, 3) := by decide +kernel
theorem dX10_about_164 : decode cX10_about 164 = .ok (.getfield 130, 3) := by decide +kernel
theorem dX10_about_167 : decode cX10_about 167 = .ok (.ireturn, 1) := by decide +kernel
theorem dX10_about_168 : decode cX10_about 168 = .ok (.aload_n 0, 1) := by decide +kernel
theorem dX10_about_169 : decode cX10_about 169 = .ok (.getfield 10, 3) := by decide +kernel
theorem dX10_about_172 : decode cX10_about 172 = .ok (.getfield 153, 3) := by decide +kernel
theorem dX10_about_175 : decode cX10_about 175 = .ok (.ireturn, 1) := by decide +kernel
theorem dX10_about_176 : decode cX10_about 176 = .ok (.aload_n 0, 1) := by decide +kernel
theorem dX10_about_177 : decode cX10_about 177 = .ok (.getfield 78, 3) := by decide +kernel
theorem dX10_about_180 : decode cX10_about 180 = .ok (.invokevirtual 322, 3) := by decide +kernel
theorem dX10_about_183 : decode cX10_about 183 = .ok (.ireturn, 1) := by decide +kernel
theorem dX10_about_184 : decode cX10_about 184 = .ok (.aload_n 0, 1) := by decide +kernel
theorem dX10_about_185 : decode cX10_about 185 = .ok (.getfield 22, 3) := by decide +kernel
theorem dX10_about_188 : decode cX10_about 188 = .ok (.getfield 122, 3) := by decide +kernel
theorem dX10_about_191 : decode cX10_about 191 = .ok (.ireturn, 1) := by decide +kernel
theorem dX10_about_192 : decode cX10_about 192 = .ok (.aload_n 0, 1) := by decide +kernel
theorem dX10_about_193 : decode cX10_about 193 = .ok (.getfield 78, 3) := by decide +kernel
theorem dX10_about_196 : decode cX10_about 196 = .ok (.invokevirtual 325, 3) := by decide +kernel
theorem dX10_about_199 : decode cX10_about 199 = .ok (.ireturn, 1) := by decide +kernel
theorem dX10_about_200 : decode cX10_about 200 = .ok (.bipush (-2), 2) := by decide +kernel
theorem dX10_about_202 : decode cX10_about 202 = .ok (.ireturn, 1) := by decide +kernel
theorem dX10_isFarmer_0 : decode cX10_isFarmer 0 = .ok (.iload_n 0, 1) := by decide +kernel
theorem dX10_isFarmer_1 : decode cX10_isFarmer 1 = .ok (.ifCond .lt 13, 3) := by decide +kernel
theorem dX10_isFarmer_4 : decode cX10_isFarmer 4 = .ok (.iload_n 0, 1) := by decide +kernel
theorem dX10_isFarmer_5 : decode cX10_isFarmer 5 = .ok (.bipush 6, 2) := by decide +kernel
theorem dX10_isFarmer_7 : decode cX10_isFarmer 7 = .ok (.if_icmp .ge 7, 3) := by decide +kernel
theorem dX10_isFarmer_10 : decode cX10_isFarmer 10 = .ok (.iconst 1, 1) := by decide +kernel
theorem dX10_isFarmer_11 : decode cX10_isFarmer 11 = .ok (.goto 4, 3) := by decide +kernel
theorem dX10_isFarmer_14 : decode cX10_isFarmer 14 = .ok (.iconst 0, 1) := by decide +kernel
theorem dX10_isFarmer_15 : decode cX10_isFarmer 15 = .ok (.ireturn, 1) := by decide +kernel
theorem dX11_init_0 : decode cX11_init 0 = .ok (.aload_n 0, 1) := by decide +kernel
theorem dX11_init_1 : decode cX11_init 1 = .ok (.invokespecial 1, 3) := by decide +kernel
theorem dX11_init_4 : decode cX11_init 4 = .ok (.aload_n 0, 1) := by decide +kernel
theorem dX11_init_5 : decode cX11_init 5 = .ok (.sipush 2720, 3) := by decide +kernel
theorem dX11_init_8 : decode cX11_init 8 = .ok (.newarray .int, 2) := by decide +kernel
theorem dX11_init_10 : decode cX11_init 10 = .ok (.putfield 7, 3) := by decide +kernel
theorem dX11_init_13 : decode cX11_init 13 = .ok (.aload_n 0, 1) := by decide +kernel
theorem dX11_init_14 : decode cX11_init 14 = .ok (.sipush 2800, 3) := by decide +kernel
theorem dX11_init_17 : decode cX11_init 17 = .ok (.newarray .int, 2) := by decide +kernel
theorem dX11_init_19 : decode cX11_init 19 = .ok (.putfield 13, 3) := by decide +kernel
theorem dX11_init_22 : decode cX11_init 22 = .ok (.aload_n 0, 1) := by decide +kernel
theorem dX11_init_23 : decode cX11_init 23 = .ok (.sipush 300, 3) := by decide +kernel
theorem dX11_init_26 : decode cX11_init 26 = .ok (.newarray .int, 2) := by decide +kernel
theorem dX11_init_28 : decode cX11_init 28 = .ok (.putfield 16, 3) := by decide +kernel
theorem dX11_init_31 : decode cX11_init 31 = .ok (.aload_n 0, 1) := by decide +kernel
theorem dX11_init_32 : decode cX11_init 32 = .ok (.iconst (-1), 1) := by decide +kernel
theorem dX11_init_33 : decode cX11_init 33 = .ok (.putfield 19, 3) := by decide +kernel
theorem dX11_init_36 : decode cX11_init 36 = .ok (.aload_n 0, 1) := by decide +kernel
theorem dX11_init_37 : decode cX11_init 37 = .ok (.iconst (-1), 1) := by decide +kernel
theorem dX11_init_38 : decode cX11_init 38 = .ok (.putfield 23, 3) := by decide +kernel
theorem dX11_init_41 : decode cX11_init 41 = .ok (.aload_n 0, 1) := by decide +kernel
theorem dX11_init_42 : decode cX11_init 42 = .ok (.sipush 160, 3) := by decide +kernel
theorem dX11_init_45 : decode cX11_init 45 = .ok (.newarray .int, 2) := by decide +kernel
theorem dX11_init_47 : decode cX11_init 47 = .ok (.putfield 26, 3) := by decide +kernel
theorem dX11_init_50 : decode cX11_init 50 = .ok (.aload_n 0, 1) := by decide +kernel
theorem dX11_init_51 : decode cX11_init 51 = .ok (.bipush 12, 2) := by decide +kernel
theorem dX11_init_53 : decode cX11_init 53 = .ok (.newarray .int, 2) := by decide +kernel
theorem dX11_init_55 : decode cX11_init 55 = .ok (.putfield 29, 3) := by decide +kernel
theorem dX11_init_58 : decode cX11_init 58 = .ok (.aload_n 0, 1) := by decide +kernel
theorem dX11_init_59 : decode cX11_init 59 = .ok (.sipush 330, 3) := by decide +kernel
theorem dX11_init_62 : decode cX11_init 62 = .ok (.newarray .long, 2) := by decide +kernel
theorem dX11_init_64 : decode cX11_init 64 = .ok (.putfield 32, 3) := by decide +kernel
theorem dX11_init_67 : decode cX11_init 67 = .ok (.aload_n 0, 1) := by decide +kernel
theorem dX11_init_68 : decode cX11_init 68 = .ok (.sipush 330, 3) := by decide +kernel
theorem dX11_init_71 : decode cX11_init 71 = .ok (.newarray .boolean, 2) := by decide +kernel
theorem dX11_init_73 : decode cX11_init 73 = .ok (.putfield 36, 3) := by decide +kernel
theorem dX11_init_76 : decode cX11_init 76 = .ok (.aload_n 0, 1) := by decide +kernel
theorem dX11_init_77 : decode cX11_init 77 = .ok (.bipush 24, 2) := by decide +kernel
theorem dX11_init_79 : decode cX11_init 79 = .ok (.newarray .int, 2) := by decide +kernel
theorem dX11_init_81 : decode cX11_init 81 = .ok (.putfield 40, 3) := by decide +kernel
theorem dX11_init_84 : decode cX11_init 84 = .ok (.aload_n 0, 1) := by decide +kernel
theorem dX11_init_85 : decode cX11_init 85 = .ok (.bipush 24, 2) := by decide +kernel
theorem dX11_init_87 : decode cX11_init 87 = .ok (.newarray .boolean, 2) := by decide +kernel
theorem dX11_init_89 : decode cX11_init 89 = .ok (.putfield 43, 3) := by decide +kernel
theorem dX11_init_92 : decode cX11_init 92 = .ok (.aload_n 0, 1) := by decide +kernel
theorem dX11_init_93 : decode cX11_init 93 = .ok (.bipush 48, 2) := by decide +kernel
theorem dX11_init_95 : decode cX11_init 95 = .ok (.newarray .int, 2) := by decide +kernel
theorem dX11_init_97 : decode cX11_init 97 = .ok (.putfield 46, 3) := by decide +kernel
theorem dX11_init_100 : decode cX11_init 100 = .ok (.aload_n 0, 1) := by decide +kernel
theorem dX11_init_101 : decode cX11_init 101 = .ok (.iconst 5, 1) := by decide +kernel
theorem dX11_init_102 : decode cX11_init 102 = .ok (.newarray .int, 2) := by decide +kernel
theorem dX11_init_104 : decode cX11_init 104 = .ok (.putfield 49, 3) := by decide +kernel
theorem dX11_init_107 : decode cX11_init 107 = .ok (.aload_n 0, 1) := by decide +kernel
theorem dX11_init_108 : decode cX11_init 108 = .ok (.bipush 6, 2) := by decide +kernel
theorem dX11_init_110 : decode cX11_init 110 = .ok (.newarray .long, 2) := by decide +kernel
theorem dX11_init_112 : decode cX11_init 112 = .ok (.putfield 52, 3) := by decide +kernel
theorem dX11_init_115 : decode cX11_init 115 = .ok (.aload_n 0, 1) := by decide +kernel
theorem dX11_init_116 : decode cX11_init 116 = .ok (.bipush 41, 2) := by decide +kernel
theorem dX11_init_118 : decode cX11_init 118 = .ok (.newarray .boolean, 2) := by decide +kernel
theorem dX11_init_120 : decode cX11_init 120 = .ok (.putfield 55, 3) := by decide +kernel
theorem dX11_init_123 : decode cX11_init 123 = .ok (.aload_n 0, 1) := by decide +kernel
theorem dX11_init_124 : decode cX11_init 124 = .ok (.iload_n 1, 1) := by decide +kernel
theorem dX11_init_125 : decode cX11_init 125 = .ok (.iconst 3, 1) := by decide +kernel
theorem dX11_init_126 : decode cX11_init 126 = .ok (.if_icmp .ge 7, 3) := by decide +kernel
theorem dX11_init_129 : decode cX11_init 129 = .ok (.iconst 3, 1) := by decide +kernel
theorem dX11_init_130 : decode cX11_init 130 = .ok (.goto 15, 3) := by decide +kernel
theorem dX11_init_133 : decode cX11_init 133 = .ok (.iload_n 1, 1) := by decide +kernel
theorem dX11_init_134 : decode cX11_init 134 = .ok (.bipush 8, 2) := by decide +kernel
theorem dX11_init_136 : decode cX11_init 136 = .ok (.if_icmp .le 8, 3) := by decide +kernel
theorem dX11_init_139 : decode cX11_init 139 = .ok (.bipush 8, 2) := by decide +kernel
theorem dX11_init_141 : decode cX11_init 141 = .ok (.goto 4, 3) := by decide +kernel
theorem dX11_init_144 : decode cX11_init 144 = .ok (.iload_n 1, 1) := by decide +kernel
theorem dX11_init_145 : decode cX11_init 145 = .ok (.putfield 58, 3) := by decide +kernel
theorem dX11_init_148 : decode cX11_init 148 = .ok (.aload_n 0, 1) := by decide +kernel
theorem dX11_init_149 : decode cX11_init 149 = .ok (.iload_n 2, 1) := by decide +kernel
theorem dX11_init_150 : decode cX11_init 150 = .ok (.iconst 3, 1) := by decide +kernel
theorem dX11_init_151 : decode cX11_init 151 = .ok (.if_icmp .ge 7, 3) := by decide +kernel
theorem dX11_init_154 : decode cX11_init 154 = .ok (.iconst 3, 1) := by decide +kernel
theorem dX11_init_155 : decode cX11_init 155 = .ok (.goto 15, 3) := by decide +kernel
theorem dX11_init_158 : decode cX11_init 158 = .ok (.iload_n 2, 1) := by decide +kernel
theorem dX11_init_159 : decode cX11_init 159 = .ok (.bipush 6, 2) := by decide +kernel
theorem dX11_init_161 : decode cX11_init 161 = .ok (.if_icmp .le 8, 3) := by decide +kernel
theorem dX11_init_164 : decode cX11_init 164 = .ok (.bipush 6, 2) := by decide +kernel
theorem dX11_init_166 : decode cX11_init 166 = .ok (.goto 4, 3) := by decide +kernel
theorem dX11_init_169 : decode cX11_init 169 = .ok (.iload_n 2, 1) := by decide +kernel
theorem dX11_init_170 : decode cX11_init 170 = .ok (.putfield 61, 3) := by decide +kernel
theorem dX11_init_173 : decode cX11_init 173 = .ok (.aload_n 0, 1) := by decide +kernel
theorem dX11_init_174 : decode cX11_init 174 = .ok (.aload_n 0, 1) := by decide +kernel
theorem dX11_init_175 : decode cX11_init 175 = .ok (.getfield 58, 3) := by decide +kernel
theorem dX11_init_178 : decode cX11_init 178 = .ok (.aload_n 0, 1) := by decide +kernel
theorem dX11_init_179 : decode cX11_init 179 = .ok (.getfield 61, 3) := by decide +kernel
theorem dX11_init_182 : decode cX11_init 182 = .ok (.imul, 1) := by decide +kernel
theorem dX11_init_183 : decode cX11_init 183 = .ok (.putfield 64, 3) := by decide +kernel
theorem dX11_init_186 : decode cX11_init 186 = .ok (.aload_n 0, 1) := by decide +kernel
theorem dX11_init_187 : decode cX11_init 187 = .ok (.getfield 7, 3) := by decide +kernel
theorem dX11_init_190 : decode cX11_init 190 = .ok (.iconst 4, 1) := by decide +kernel
theorem dX11_init_191 : decode cX11_init 191 = .ok (.iconst (-1), 1) := by decide +kernel
theorem dX11_init_192 : decode cX11_init 192 = .ok (.iastore, 1) := by decide +kernel
theorem dX11_init_193 : decode cX11_init 193 = .ok (.iconst 0, 1) := by decide +kernel
theorem dX11_init_194 : decode cX11_init 194 = .ok (.istore_n 3, 1) := by decide +kernel
theorem dX11_init_195 : decode cX11_init 195 = .ok (.iload_n 3, 1) := by decide +kernel
theorem dX11_init_196 : decode cX11_init 196 = .ok (.bipush 6, 2) := by decide +kernel
theorem dX11_init_198 : decode cX11_init 198 = .ok (.if_icmp .ge 19, 3) := by decide +kernel
theorem dX11_init_201 : decode cX11_init 201 = .ok (.aload_n 0, 1) := by decide +kernel
theorem dX11_init_202 : decode cX11_init 202 = .ok (.getfield 7, 3) := by decide +kernel
theorem dX11_init_205 : decode cX11_init 205 = .ok (.bipush 85, 2) := by decide +kernel
theorem dX11_init_207 : decode cX11_init 207 = .ok (.iload_n 3, 1) := by decide +kernel
theorem dX11_init_208 : decode cX11_init 208 = .ok (.iadd, 1) := by decide +kernel
theorem dX11_init_209 : decode cX11_init 209 = .ok (.iconst (-1), 1) := by decide +kernel
theorem dX11_init_210 : decode cX11_init 210 = .ok (.iastore, 1) := by decide +kernel
theorem dX11_init_211 : decode cX11_init 211 = .ok (.iinc 3 1, 3) := by decide +kernel
theorem dX11_init_214 : decode cX11_init 214 = .ok (.goto (-19), 3) := by decide +kernel
theorem dX11_init_217 : decode cX11_init 217 = .ok (.iconst 0, 1) := by decide +kernel
theorem dX11_init_218 : decode cX11_init 218 = .ok (.istore_n 3, 1) := by decide +kernel
theorem dX11_init_219 : decode cX11_init 219 = .ok (.iload_n 3, 1) := by decide +kernel
theorem dX11_init_220 : decode cX11_init 220 = .ok (.bipush 24, 2) := by decide +kernel
theorem dX11_init_222 : decode cX11_init 222 = .ok (.if_icmp .ge 20, 3) := by decide +kernel
theorem dX11_init_225 : decode cX11_init 225 = .ok (.aload_n 0, 1) := by decide +kernel
theorem dX11_init_226 : decode cX11_init 226 = .ok (.getfield 7, 3) := by decide +kernel
theorem dX11_init_229 : decode cX11_init 229 = .ok (.sipush 165, 3) := by decide +kernel
theorem dX11_init_232 : decode cX11_init 232 = .ok (.iload_n 3, 1) := by decide +kernel
theorem dX11_init_233 : decode cX11_init 233 = .ok (.iadd, 1) := by decide +kernel
theorem dX11_init_234 : decode cX11_init 234 = .ok (.iconst (-1), 1) := by decide +kernel
theorem dX11_init_235 : decode cX11_init 235 = .ok (.iastore, 1) := by decide +kernel
theorem dX11_init_236 : decode cX11_init 236 = .ok (.iinc 3 1, 3) := by decide +kernel
theorem dX11_init_239 : decode cX11_init 239 = .ok (.goto (-20), 3) := by decide +kernel
theorem dX11_init_242 : decode cX11_init 242 = .ok (.iconst 0, 1) := by decide +kernel
theorem dX11_init_243 : decode cX11_init 243 = .ok (.istore_n 3, 1) := by decide +kernel
theorem dX11_init_244 : decode cX11_init 244 = .ok (.iload_n 3, 1) := by decide +kernel
theorem dX11_init_245 : decode cX11_init 245 = .ok (.bipush 48, 2) := by decide +kernel
theorem dX11_init_247 : decode cX11_init 247 = .ok (.if_icmp .ge 20, 3) := by decide +kernel
theorem dX11_init_250 : decode cX11_init 250 = .ok (.aload_n 0, 1) := by decide +kernel
theorem dX11_init_251 : decode cX11_init 251 = .ok (.getfield 7, 3) := by decide +kernel
theorem dX11_init_254 : decode cX11_init 254 = .ok (.sipush 240, 3) := by decide +kernel
theorem dX11_init_257 : decode cX11_init 257 = .ok (.iload_n 3, 1) := by decide +kernel
theorem dX11_init_258 : decode cX11_init 258 = .ok (.iadd, 1) := by decide +kernel
theorem dX11_init_259 : decode cX11_init 259 = .ok (.iconst (-1), 1) := by decide +kernel
theorem dX11_init_260 : decode cX11_init 260 = .ok (.iastore, 1) := by decide +kernel
theorem dX11_init_261 : decode cX11_init 261 = .ok (.iinc 3 1, 3) := by decide +kernel
theorem dX11_init_264 : decode cX11_init 264 = .ok (.goto (-20), 3) := by decide +kernel
theorem dX11_init_267 : decode cX11_init 267 = .ok (.aload_n 0, 1) := by decide +kernel
theorem dX11_init_268 : decode cX11_init 268 = .ok (.iconst 0, 1) := by decide +kernel
theorem dX11_init_269 : decode cX11_init 269 = .ok (.iconst 1, 1) := by decide +kernel
theorem dX11_init_270 : decode cX11_init 270 = .ok (.invokevirtual 67, 3) := by decide +kernel
theorem dX11_init_273 : decode cX11_init 273 = .ok (.return_, 1) := by decide +kernel
theorem dX11_copy_0 : decode cX11_copy 0 = .ok (.iconst 0, 1) := by decide +kernel
theorem dX11_copy_1 : decode cX11_copy 1 = .ok (.istore_n 3, 1) := by decide +kernel
theorem dX11_copy_2 : decode cX11_copy 2 = .ok (.iload_n 3, 1) := by decide +kernel
theorem dX11_copy_3 : decode cX11_copy 3 = .ok (.sipush 340, 3) := by decide +kernel
theorem dX11_copy_6 : decode cX11_copy 6 = .ok (.if_icmp .ge 33, 3) := by decide +kernel
theorem dX11_copy_9 : decode cX11_copy 9 = .ok (.aload_n 0, 1) := by decide +kernel
theorem dX11_copy_10 : decode cX11_copy 10 = .ok (.getfield 7, 3) := by decide +kernel
theorem dX11_copy_13 : decode cX11_copy 13 = .ok (.sipush 340, 3) := by decide +kernel
theorem dX11_copy_16 : decode cX11_copy 16 = .ok (.iload_n 2, 1) := by decide +kernel
theorem dX11_copy_17 : decode cX11_copy 17 = .ok (.imul, 1) := by decide +kernel
theorem dX11_copy_18 : decode cX11_copy 18 = .ok (.iload_n 3, 1) := by decide +kernel
theorem dX11_copy_19 : decode cX11_copy 19 = .ok (.iadd, 1) := by decide +kernel
theorem dX11_copy_20 : decode cX11_copy 20 = .ok (.aload_n 0, 1) := by decide +kernel
theorem dX11_copy_21 : decode cX11_copy 21 = .ok (.getfield 7, 3) := by decide +kernel
theorem dX11_copy_24 : decode cX11_copy 24 = .ok (.sipush 340, 3) := by decide +kernel
theorem dX11_copy_27 : decode cX11_copy 27 = .ok (.iload_n 1, 1) := by decide +kernel
theorem dX11_copy_28 : decode cX11_copy 28 = .ok (.imul, 1) := by decide +kernel
theorem dX11_copy_29 : decode cX11_copy 29 = .ok (.iload_n 3, 1) := by decide +kernel
theorem dX11_copy_30 : decode cX11_copy 30 = .ok (.iadd, 1) := by decide +kernel
theorem dX11_copy_31 : decode cX11_copy 31 = .ok (.iaload, 1) := by decide +kernel
theorem dX11_copy_32 : decode cX11_copy 32 = .ok (.iastore, 1) := by decide +kernel
theorem dX11_copy_33 : decode cX11_copy 33 = .ok (.iinc 3 1, 3) := by decide +kernel
theorem dX11_copy_36 : decode cX11_copy 36 = .ok (.goto (-34), 3) := by decide +kernel
theorem dX11_copy_39 : decode cX11_copy 39 = .ok (.return_, 1) := by decide +kernel
theorem dX11_isIn_0 : decode cX11_isIn 0 = .ok (.iload_n 0, 1) := by decide +kernel
theorem dX11_isIn_1 : decode cX11_isIn 1 = .ok (.iload_n 1, 1) := by decide +kernel
theorem dX11_isIn_2 : decode cX11_isIn 2 = .ok (.if_icmp .lt 12, 3) := by decide +kernel
theorem dX11_isIn_5 : decode cX11_isIn 5 = .ok (.iload_n 0, 1) := by decide +kernel
theorem dX11_isIn_6 : decode cX11_isIn 6 = .ok (.iload_n 2, 1) := by decide +kernel
theorem dX11_isIn_7 : decode cX11_isIn 7 = .ok (.if_icmp .gt 7, 3) := by decide +kernel
theorem dX11_isIn_10 : decode cX11_isIn 10 = .ok (.iconst 1, 1) := by decide +kernel
theorem dX11_isIn_11 : decode cX11_isIn 11 = .ok (.goto 4, 3) := by decide +kernel
theorem dX11_isIn_14 : decode cX11_isIn 14 = .ok (.iconst 0, 1) := by decide +kernel
theorem dX11_isIn_15 : decode cX11_isIn 15 = .ok (.ireturn, 1) := by decide +kernel
theorem dX11_held_0 : decode cX11_held 0 = .ok (.lload_n 0, 1) := by decide +kernel
theorem dX11_held_1 : decode cX11_held 1 = .ok (.iload_n 2, 1) := by decide +kernel
theorem dX11_held_2 : decode cX11_held 2 = .ok (.i2l, 1) := by decide +kernel
theorem dX11_held_3 : decode cX11_held 3 = .ok (.lcmp, 1) := by decide +kernel
theorem dX11_held_4 : decode cX11_held 4 = .ok (.ifCond .ge 7, 3) := by decide +kernel
theorem dX11_held_7 : decode cX11_held 7 = .ok (.iload_n 2, 1) := by decide +kernel
theorem dX11_held_8 : decode cX11_held 8 = .ok (.goto 16, 3) := by decide +kernel
theorem dX11_held_11 : decode cX11_held 11 = .ok (.lload_n 0, 1) := by decide +kernel
theorem dX11_held_12 : decode cX11_held 12 = .ok (.iload_n 3, 1) := by decide +kernel
theorem dX11_held_13 : decode cX11_held 13 = .ok (.i2l, 1) := by decide +kernel
theorem dX11_held_14 : decode cX11_held 14 = .ok (.lcmp, 1) := by decide +kernel
theorem dX11_held_15 : decode cX11_held 15 = .ok (.ifCond .le 7, 3) := by decide +kernel
theorem dX11_held_18 : decode cX11_held 18 = .ok (.iload_n 3, 1) := by decide +kernel
theorem dX11_held_19 : decode cX11_held 19 = .ok (.goto 5, 3) := by decide +kernel
theorem dX11_held_22 : decode cX11_held 22 = .ok (.lload_n 0, 1) := by decide +kernel
theorem dX11_held_23 : decode cX11_held 23 = .ok (.l2i, 1) := by decide +kernel
theorem dX11_held_24 : decode cX11_held 24 = .ok (.ireturn, 1) := by decide +kernel
theorem dX11_isCell_0 : decode cX11_isCell 0 = .ok (.iload_n 1, 1) := by decide +kernel
theorem dX11_isCell_1 : decode cX11_isCell 1 = .ok (.iconst 0, 1) := by decide +kernel
theorem dX11_isCell_2 : decode cX11_isCell 2 = .ok (.aload_n 0, 1) := by decide +kernel
theorem dX11_isCell_3 : decode cX11_isCell 3 = .ok (.getfield 64, 3) := by decide +kernel
theorem dX11_isCell_6 : decode cX11_isCell 6 = .ok (.iconst 1, 1) := by decide +kernel
theorem dX11_isCell_7 : decode cX11_isCell 7 = .ok (.isub, 1) := by decide +kernel
theorem dX11_isCell_8 : decode cX11_isCell 8 = .ok (.invokestatic 71, 3) := by decide +kernel
theorem dX11_isCell_11 : decode cX11_isCell 11 = .ok (.ireturn, 1) := by decide +kernel
theorem dX11_isFarmer_0 : decode cX11_isFarmer 0 = .ok (.iload_n 0, 1) := by decide +kernel
theorem dX11_isFarmer_1 : decode cX11_isFarmer 1 = .ok (.iconst 0, 1) := by decide +kernel
theorem dX11_isFarmer_2 : decode cX11_isFarmer 2 = .ok (.iconst 5, 1) := by decide +kernel
theorem dX11_isFarmer_3 : decode cX11_isFarmer 3 = .ok (.invokestatic 71, 3) := by decide +kernel
theorem dX11_isFarmer_6 : decode cX11_isFarmer 6 = .ok (.ireturn, 1) := by decide +kernel
theorem dX11_isBone_0 : decode cX11_isBone 0 = .ok (.iload_n 1, 1) := by decide +kernel
theorem dX11_isBone_1 : decode cX11_isBone 1 = .ok (.iconst 0, 1) := by decide +kernel
theorem dX11_isBone_2 : decode cX11_isBone 2 = .ok (.aload_n 0, 1) := by decide +kernel
theorem dX11_isBone_3 : decode cX11_isBone 3 = .ok (.getfield 7, 3) := by decide +kernel
theorem dX11_isBone_6 : decode cX11_isBone 6 = .ok (.iconst 1, 1) := by decide +kernel
theorem dX11_isBone_7 : decode cX11_isBone 7 = .ok (.iaload, 1) := by decide +kernel
theorem dX11_isBone_8 : decode cX11_isBone 8 = .ok (.iconst 1, 1) := by decide +kernel
theorem dX11_isBone_9 : decode cX11_isBone 9 = .ok (.isub, 1) := by decide +kernel
theorem dX11_isBone_10 : decode cX11_isBone 10 = .ok (.invokestatic 71, 3) := by decide +kernel
theorem dX11_isBone_13 : decode cX11_isBone 13 = .ok (.ireturn, 1) := by decide +kernel
theorem dX11_isWind_0 : decode cX11_isWind 0 = .ok (.iload_n 1, 1) := by decide +kernel
theorem dX11_isWind_1 : decode cX11_isWind 1 = .ok (.iconst 0, 1) := by decide +kernel
theorem dX11_isWind_2 : decode cX11_isWind 2 = .ok (.aload_n 0, 1) := by decide +kernel
theorem dX11_isWind_3 : decode cX11_isWind 3 = .ok (.getfield 7, 3) := by decide +kernel
theorem dX11_isWind_6 : decode cX11_isWind 6 = .ok (.iconst 2, 1) := by decide +kernel
theorem dX11_isWind_7 : decode cX11_isWind 7 = .ok (.iaload, 1) := by decide +kernel
theorem dX11_isWind_8 : decode cX11_isWind 8 = .ok (.iconst 1, 1) := by decide +kernel
theorem dX11_isWind_9 : decode cX11_isWind 9 = .ok (.isub, 1) := by decide +kernel
theorem dX11_isWind_10 : decode cX11_isWind 10 = .ok (.invokestatic 71, 3) := by decide +kernel
theorem dX11_isWind_13 : decode cX11_isWind 13 = .ok (.ireturn, 1) := by decide +kernel
theorem dX11_bones_0 : decode cX11_bones 0 = .ok (.aload_n 0, 1) := by decide +kernel
theorem dX11_bones_1 : decode cX11_bones 1 = .ok (.getfield 7, 3) := by decide +kernel
theorem dX11_bones_4 : decode cX11_bones 4 = .ok (.aload_n 0, 1) := by decide +kernel
theorem dX11_bones_5 : decode cX11_bones 5 = .ok (.getfield 75, 3) := by decide +kernel
theorem dX11_bones_8 : decode cX11_bones 8 = .ok (.iconst 1, 1) := by decide +kernel
theorem dX11_bones_9 : decode cX11_bones 9 = .ok (.iadd, 1) := by decide +kernel
theorem dX11_bones_10 : decode cX11_bones 10 = .ok (.iaload, 1) := by decide +kernel
theorem dX11_bones_11 : decode cX11_bones 11 = .ok (.ireturn, 1) := by decide +kernel
theorem dX11_cellOf_0 : decode cX11_cellOf 0 = .ok (.aload_n 0, 1) := by decide +kernel
theorem dX11_cellOf_1 : decode cX11_cellOf 1 = .ok (.getfield 7, 3) := by decide +kernel
theorem dX11_cellOf_4 : decode cX11_cellOf 4 = .ok (.aload_n 0, 1) := by decide +kernel
theorem dX11_cellOf_5 : decode cX11_cellOf 5 = .ok (.getfield 75, 3) := by decide +kernel
theorem dX11_cellOf_8 : decode cX11_cellOf 8 = .ok (.bipush 10, 2) := by decide +kernel
theorem dX11_cellOf_10 : decode cX11_cellOf 10 = .ok (.iadd, 1) := by decide +kernel
theorem dX11_cellOf_11 : decode cX11_cellOf 11 = .ok (.iconst 3, 1) := by decide +kernel
theorem dX11_cellOf_12 : decode cX11_cellOf 12 = .ok (.iload_n 1, 1) := by decide +kernel
theorem dX11_cellOf_13 : decode cX11_cellOf 13 = .ok (.imul, 1) := by decide +kernel
theorem dX11_cellOf_14 : decode cX11_cellOf 14 = .ok (.iadd, 1) := by decide +kernel
theorem dX11_cellOf_15 : decode cX11_cellOf 15 = .ok (.iaload, 1) := by decide +kernel
theorem dX11_cellOf_16 : decode cX11_cellOf 16 = .ok (.ireturn, 1) := by decide +kernel
theorem dX11_isStaked_0 : decode cX11_isStaked 0 = .ok (.iconst 0, 1) := by decide +kernel
theorem dX11_isStaked_1 : decode cX11_isStaked 1 = .ok (.istore_n 2, 1) := by decide +kernel
theorem dX11_isStaked_2 : decode cX11_isStaked 2 = .ok (.iload_n 2, 1) := by decide +kernel
theorem dX11_isStaked_3 : decode cX11_isStaked 3 = .ok (.bipush 6, 2) := by decide +kernel
theorem dX11_isStaked_5 : decode cX11_isStaked 5 = .ok (.if_icmp .ge 29, 3) := by decide +kernel
theorem dX11_isStaked_8 : decode cX11_isStaked 8 = .ok (.aload_n 0, 1) := by decide +kernel
theorem dX11_isStaked_9 : decode cX11_isStaked 9 = .ok (.getfield 7, 3) := by decide +kernel
theorem dX11_isStaked_12 : decode cX11_isStaked 12 = .ok (.aload_n 0, 1) := by decide +kernel
theorem dX11_isStaked_13 : decode cX11_isStaked 13 = .ok (.getfield 75, 3) := by decide +kernel
theorem dX11_isStaked_16 : decode cX11_isStaked 16 = .ok (.bipush 85, 2) := by decide +kernel
theorem dX11_isStaked_18 : decode cX11_isStaked 18 = .ok (.iadd, 1) := by decide +kernel
theorem dX11_isStaked_19 : decode cX11_isStaked 19 = .ok (.iload_n 2, 1) := by decide +kernel
theorem dX11_isStaked_20 : decode cX11_isStaked 20 = .ok (.iadd, 1) := by decide +kernel
theorem dX11_isStaked_21 : decode cX11_isStaked 21 = .ok (.iaload, 1) := by decide +kernel
theorem dX11_isStaked_22 : decode cX11_isStaked 22 = .ok (.iload_n 1, 1) := by decide +kernel
theorem dX11_isStaked_23 : decode cX11_isStaked 23 = .ok (.if_icmp .ne 5, 3) := by decide +kernel
theorem dX11_isStaked_26 : decode cX11_isStaked 26 = .ok (.iconst 1, 1) := by decide +kernel
theorem dX11_isStaked_27 : decode cX11_isStaked 27 = .ok (.ireturn, 1) := by decide +kernel
theorem dX11_isStaked_28 : decode cX11_isStaked 28 = .ok (.iinc 2 1, 3) := by decide +kernel
theorem dX11_isStaked_31 : decode cX11_isStaked 31 = .ok (.goto (-29), 3) := by decide +kernel
theorem dX11_isStaked_34 : decode cX11_isStaked 34 = .ok (.iconst 0, 1) := by decide +kernel
theorem dX11_isStaked_35 : decode cX11_isStaked 35 = .ok (.ireturn, 1) := by decide +kernel
theorem dX11_isFree_0 : decode cX11_isFree 0 = .ok (.aload_n 0, 1) := by decide +kernel
theorem dX11_isFree_1 : decode cX11_isFree 1 = .ok (.getfield 7, 3) := by decide +kernel
theorem dX11_isFree_4 : decode cX11_isFree 4 = .ok (.aload_n 0, 1) := by decide +kernel
theorem dX11_isFree_5 : decode cX11_isFree 5 = .ok (.getfield 75, 3) := by decide +kernel
theorem dX11_isFree_8 : decode cX11_isFree 8 = .ok (.sipush 290, 3) := by decide +kernel
theorem dX11_isFree_11 : decode cX11_isFree 11 = .ok (.iadd, 1) := by decide +kernel
theorem dX11_isFree_12 : decode cX11_isFree 12 = .ok (.iload_n 1, 1) := by decide +kernel
theorem dX11_isFree_13 : decode cX11_isFree 13 = .ok (.iadd, 1) := by decide +kernel
theorem dX11_isFree_14 : decode cX11_isFree 14 = .ok (.iaload, 1) := by decide +kernel
theorem dX11_isFree_15 : decode cX11_isFree 15 = .ok (.ifCond .ne 15, 3) := by decide +kernel
theorem dX11_isFree_18 : decode cX11_isFree 18 = .ok (.aload_n 0, 1) := by decide +kernel
theorem dX11_isFree_19 : decode cX11_isFree 19 = .ok (.iload_n 1, 1) := by decide +kernel
theorem dX11_isFree_20 : decode cX11_isFree 20 = .ok (.invokevirtual 78, 3) := by decide +kernel
theorem dX11_isFree_23 : decode cX11_isFree 23 = .ok (.ifCond .ne 7, 3) := by decide +kernel
theorem dX11_isFree_26 : decode cX11_isFree 26 = .ok (.iconst 1, 1) := by decide +kernel
theorem dX11_isFree_27 : decode cX11_isFree 27 = .ok (.goto 4, 3) := by decide +kernel
theorem dX11_isFree_30 : decode cX11_isFree 30 = .ok (.iconst 0, 1) := by decide +kernel
theorem dX11_isFree_31 : decode cX11_isFree 31 = .ok (.ireturn, 1) := by decide +kernel
theorem dX11_bone_0 : decode cX11_bone 0 = .ok (.aload_n 0, 1) := by decide +kernel
theorem dX11_bone_1 : decode cX11_bone 1 = .ok (.iload_n 1, 1) := by decide +kernel
theorem dX11_bone_2 : decode cX11_bone 2 = .ok (.invokevirtual 82, 3) := by decide +kernel
theorem dX11_bone_5 : decode cX11_bone 5 = .ok (.ifCond .eq 32, 3) := by decide +kernel
theorem dX11_bone_8 : decode cX11_bone 8 = .ok (.iload_n 2, 1) := by decide +kernel
theorem dX11_bone_9 : decode cX11_bone 9 = .ok (.iconst 1, 1) := by decide +kernel
theorem dX11_bone_10 : decode cX11_bone 10 = .ok (.bipush 99, 2) := by decide +kernel
theorem dX11_bone_12 : decode cX11_bone 12 = .ok (.invokestatic 71, 3) := by decide +kernel
theorem dX11_bone_15 : decode cX11_bone 15 = .ok (.ifCond .eq 22, 3) := by decide +kernel
theorem dX11_bone_18 : decode cX11_bone 18 = .ok (.aload_n 0, 1) := by decide +kernel
theorem dX11_bone_19 : decode cX11_bone 19 = .ok (.getfield 7, 3) := by decide +kernel
theorem dX11_bone_22 : decode cX11_bone 22 = .ok (.iconst 1, 1) := by decide +kernel
theorem dX11_bone_23 : decode cX11_bone 23 = .ok (.iaload, 1) := by decide +kernel
theorem dX11_bone_24 : decode cX11_bone 24 = .ok (.bipush 24, 2) := by decide +kernel
theorem dX11_bone_26 : decode cX11_bone 26 = .ok (.if_icmp .eq 11, 3) := by decide +kernel
theorem dX11_bone_29 : decode cX11_bone 29 = .ok (.aload_n 0, 1) := by decide +kernel
theorem dX11_bone_30 : decode cX11_bone 30 = .ok (.iload_n 1, 1) := by decide +kernel
theorem dX11_bone_31 : decode cX11_bone 31 = .ok (.invokevirtual 85, 3) := by decide +kernel
theorem dX11_bone_34 : decode cX11_bone 34 = .ok (.ifCond .ne 5, 3) := by decide +kernel
theorem dX11_bone_37 : decode cX11_bone 37 = .ok (.iconst (-1), 1) := by decide +kernel
theorem dX11_bone_38 : decode cX11_bone 38 = .ok (.ireturn, 1) := by decide +kernel
theorem dX11_bone_39 : decode cX11_bone 39 = .ok (.bipush 10, 2) := by decide +kernel
theorem dX11_bone_41 : decode cX11_bone 41 = .ok (.iconst 3, 1) := by decide +kernel
theorem dX11_bone_42 : decode cX11_bone 42 = .ok (.aload_n 0, 1) := by decide +kernel
theorem dX11_bone_43 : decode cX11_bone 43 = .ok (.getfield 7, 3) := by decide +kernel
theorem dX11_bone_46 : decode cX11_bone 46 = .ok (.iconst 1, 1) := by decide +kernel
theorem dX11_bone_47 : decode cX11_bone 47 = .ok (.iaload, 1) := by decide +kernel
theorem dX11_bone_48 : decode cX11_bone 48 = .ok (.imul, 1) := by decide +kernel
theorem dX11_bone_49 : decode cX11_bone 49 = .ok (.iadd, 1) := by decide +kernel
theorem dX11_bone_50 : decode cX11_bone 50 = .ok (.istore_n 3, 1) := by decide +kernel
theorem dX11_bone_51 : decode cX11_bone 51 = .ok (.aload_n 0, 1) := by decide +kernel
theorem dX11_bone_52 : decode cX11_bone 52 = .ok (.getfield 7, 3) := by decide +kernel
theorem dX11_bone_55 : decode cX11_bone 55 = .ok (.iload_n 3, 1) := by decide +kernel
theorem dX11_bone_56 : decode cX11_bone 56 = .ok (.iload_n 1, 1) := by decide +kernel
theorem dX11_bone_57 : decode cX11_bone 57 = .ok (.iastore, 1) := by decide +kernel
theorem dX11_bone_58 : decode cX11_bone 58 = .ok (.aload_n 0, 1) := by decide +kernel
theorem dX11_bone_59 : decode cX11_bone 59 = .ok (.getfield 7, 3) := by decide +kernel
theorem dX11_bone_62 : decode cX11_bone 62 = .ok (.iload_n 3, 1) := by decide +kernel
theorem dX11_bone_63 : decode cX11_bone 63 = .ok (.iconst 1, 1) := by decide +kernel
theorem dX11_bone_64 : decode cX11_bone 64 = .ok (.iadd, 1) := by decide +kernel
theorem dX11_bone_65 : decode cX11_bone 65 = .ok (.iload_n 2, 1) := by decide +kernel
theorem dX11_bone_66 : decode cX11_bone 66 = .ok (.iastore, 1) := by decide +kernel
theorem dX11_bone_67 : decode cX11_bone 67 = .ok (.aload_n 0, 1) := by decide +kernel
theorem dX11_bone_68 : decode cX11_bone 68 = .ok (.getfield 7, 3) := by decide +kernel
theorem dX11_bone_71 : decode cX11_bone 71 = .ok (.iload_n 3, 1) := by decide +kernel
theorem dX11_bone_72 : decode cX11_bone 72 = .ok (.iconst 2, 1) := by decide +kernel
theorem dX11_bone_73 : decode cX11_bone 73 = .ok (.iadd, 1) := by decide +kernel
theorem dX11_bone_74 : decode cX11_bone 74 = .ok (.iconst 0, 1) := by decide +kernel
theorem dX11_bone_75 : decode cX11_bone 75 = .ok (.iastore, 1) := by decide +kernel
theorem dX11_bone_76 : decode cX11_bone 76 = .ok (.aload_n 0, 1) := by decide +kernel
theorem dX11_bone_77 : decode cX11_bone 77 = .ok (.getfield 7, 3) := by decide +kernel
theorem dX11_bone_80 : decode cX11_bone 80 = .ok (.iconst 1, 1) := by decide +kernel
theorem dX11_bone_81 : decode cX11_bone 81 = .ok (.dup2, 1) := by decide +kernel
theorem dX11_bone_82 : decode cX11_bone 82 = .ok (.iaload, 1) := by decide +kernel
theorem dX11_bone_83 : decode cX11_bone 83 = .ok (.iconst 1, 1) := by decide +kernel
theorem dX11_bone_84 : decode cX11_bone 84 = .ok (.iadd, 1) := by decide +kernel
theorem dX11_bone_85 : decode cX11_bone 85 = .ok (.iastore, 1) := by decide +kernel
theorem dX11_bone_86 : decode cX11_bone 86 = .ok (.aload_n 0, 1) := by decide +kernel
theorem dX11_bone_87 : decode cX11_bone 87 = .ok (.getfield 7, 3) := by decide +kernel
theorem dX11_bone_90 : decode cX11_bone 90 = .ok (.sipush 290, 3) := by decide +kernel
theorem dX11_bone_93 : decode cX11_bone 93 = .ok (.iload_n 1, 1) := by decide +kernel
theorem dX11_bone_94 : decode cX11_bone 94 = .ok (.iadd, 1) := by decide +kernel
theorem dX11_bone_95 : decode cX11_bone 95 = .ok (.aload_n 0, 1) := by decide +kernel
theorem dX11_bone_96 : decode cX11_bone 96 = .ok (.getfield 7, 3) := by decide +kernel
theorem dX11_bone_99 : decode cX11_bone 99 = .ok (.iconst 1, 1) := by decide +kernel
theorem dX11_bone_100 : decode cX11_bone 100 = .ok (.iaload, 1) := by decide +kernel
theorem dX11_bone_101 : decode cX11_bone 101 = .ok (.iastore, 1) := by decide +kernel
theorem dX11_bone_102 : decode cX11_bone 102 = .ok (.aload_n 0, 1) := by decide +kernel
theorem dX11_bone_103 : decode cX11_bone 103 = .ok (.getfield 7, 3) := by decide +kernel
theorem dX11_bone_106 : decode cX11_bone 106 = .ok (.sipush 240, 3) := by decide +kernel
theorem dX11_bone_109 : decode cX11_bone 109 = .ok (.iload_n 1, 1) := by decide +kernel
theorem dX11_bone_110 : decode cX11_bone 110 = .ok (.iadd, 1) := by decide +kernel
theorem dX11_bone_111 : decode cX11_bone 111 = .ok (.iconst (-1), 1) := by decide +kernel
theorem dX11_bone_112 : decode cX11_bone 112 = .ok (.iastore, 1) := by decide +kernel
theorem dX11_bone_113 : decode cX11_bone 113 = .ok (.aload_n 0, 1) := by decide +kernel
theorem dX11_bone_114 : decode cX11_bone 114 = .ok (.getfield 7, 3) := by decide +kernel
theorem dX11_bone_117 : decode cX11_bone 117 = .ok (.iconst 1, 1) := by decide +kernel
theorem dX11_bone_118 : decode cX11_bone 118 = .ok (.iaload, 1) := by decide +kernel
theorem dX11_bone_119 : decode cX11_bone 119 = .ok (.iconst 1, 1) := by decide +kernel
theorem dX11_bone_120 : decode cX11_bone 120 = .ok (.isub, 1) := by decide +kernel
theorem dX11_bone_121 : decode cX11_bone 121 = .ok (.ireturn, 1) := by decide +kernel
theorem dX11_stake_0 : decode cX11_stake 0 = .ok (.iload_n 1, 1) := by decide +kernel
theorem dX11_stake_1 : decode cX11_stake 1 = .ok (.invokestatic 88, 3) := by decide +kernel
theorem dX11_stake_4 : decode cX11_stake 4 = .ok (.ifCond .eq 29, 3) := by decide +kernel
theorem dX11_stake_7 : decode cX11_stake 7 = .ok (.iload_n 2, 1) := by decide +kernel
theorem dX11_stake_8 : decode cX11_stake 8 = .ok (.iconst (-1), 1) := by decide +kernel
theorem dX11_stake_9 : decode cX11_stake 9 = .ok (.if_icmp .eq 26, 3) := by decide +kernel
theorem dX11_stake_12 : decode cX11_stake 12 = .ok (.aload_n 0, 1) := by decide +kernel
theorem dX11_stake_13 : decode cX11_stake 13 = .ok (.iload_n 2, 1) := by decide +kernel
theorem dX11_stake_14 : decode cX11_stake 14 = .ok (.invokevirtual 82, 3) := by decide +kernel
theorem dX11_stake_17 : decode cX11_stake 17 = .ok (.ifCond .eq 16, 3) := by decide +kernel
theorem dX11_stake_20 : decode cX11_stake 20 = .ok (.aload_n 0, 1) := by decide +kernel
theorem dX11_stake_21 : decode cX11_stake 21 = .ok (.getfield 7, 3) := by decide +kernel
theorem dX11_stake_24 : decode cX11_stake 24 = .ok (.sipush 290, 3) := by decide +kernel
theorem dX11_stake_27 : decode cX11_stake 27 = .ok (.iload_n 2, 1) := by decide +kernel
theorem dX11_stake_28 : decode cX11_stake 28 = .ok (.iadd, 1) := by decide +kernel
theorem dX11_stake_29 : decode cX11_stake 29 = .ok (.iaload, 1) := by decide +kernel
theorem dX11_stake_30 : decode cX11_stake 30 = .ok (.ifCond .le 5, 3) := by decide +kernel
theorem dX11_stake_33 : decode cX11_stake 33 = .ok (.iconst 0, 1) := by decide +kernel
theorem dX11_stake_34 : decode cX11_stake 34 = .ok (.ireturn, 1) := by decide +kernel
theorem dX11_stake_35 : decode cX11_stake 35 = .ok (.aload_n 0, 1) := by decide +kernel
theorem dX11_stake_36 : decode cX11_stake 36 = .ok (.getfield 7, 3) := by decide +kernel
theorem dX11_stake_39 : decode cX11_stake 39 = .ok (.bipush 85, 2) := by decide +kernel
theorem dX11_stake_41 : decode cX11_stake 41 = .ok (.iload_n 1, 1) := by decide +kernel
theorem dX11_stake_42 : decode cX11_stake 42 = .ok (.iadd, 1) := by decide +kernel
theorem dX11_stake_43 : decode cX11_stake 43 = .ok (.iload_n 2, 1) := by decide +kernel
theorem dX11_stake_44 : decode cX11_stake 44 = .ok (.iastore, 1) := by decide +kernel
theorem dX11_stake_45 : decode cX11_stake 45 = .ok (.iconst 1, 1) := by decide +kernel
theorem dX11_stake_46 : decode cX11_stake 46 = .ok (.ireturn, 1) := by decide +kernel
theorem dX11_well_0 : decode cX11_well 0 = .ok (.aload_n 0, 1) := by decide +kernel
theorem dX11_well_1 : decode cX11_well 1 = .ok (.iload_n 1, 1) := by decide +kernel
theorem dX11_well_2 : decode cX11_well 2 = .ok (.invokevirtual 82, 3) := by decide +kernel
theorem dX11_well_5 : decode cX11_well 5 = .ok (.ifCond .ne 5, 3) := by decide +kernel
theorem dX11_well_8 : decode cX11_well 8 = .ok (.iconst 0, 1) := by decide +kernel
theorem dX11_well_9 : decode cX11_well 9 = .ok (.ireturn, 1) := by decide +kernel
theorem dX11_well_10 : decode cX11_well 10 = .ok (.aload_n 0, 1) := by decide +kernel
theorem dX11_well_11 : decode cX11_well 11 = .ok (.getfield 7, 3) := by decide +kernel
theorem dX11_well_14 : decode cX11_well 14 = .ok (.sipush 190, 3) := by decide +kernel
theorem dX11_well_17 : decode cX11_well 17 = .ok (.iload_n 1, 1) := by decide +kernel
theorem dX11_well_18 : decode cX11_well 18 = .ok (.iadd, 1) := by decide +kernel
theorem dX11_well_19 : decode cX11_well 19 = .ok (.iload_n 2, 1) := by decide +kernel
theorem dX11_well_20 : decode cX11_well 20 = .ok (.ifCond .eq 7, 3) := by decide +kernel
theorem dX11_well_23 : decode cX11_well 23 = .ok (.iconst 1, 1) := by decide +kernel
theorem dX11_well_24 : decode cX11_well 24 = .ok (.goto 4, 3) := by decide +kernel
theorem dX11_well_27 : decode cX11_well 27 = .ok (.iconst 0, 1) := by decide +kernel
theorem dX11_well_28 : decode cX11_well 28 = .ok (.iastore, 1) := by decide +kernel
theorem dX11_well_29 : decode cX11_well 29 = .ok (.iconst 1, 1) := by decide +kernel
theorem dX11_well_30 : decode cX11_well 30 = .ok (.ireturn, 1) := by decide +kernel
theorem dX11_wind_0 : decode cX11_wind 0 = .ok (.iload_n 1, 1) := by decide +kernel
theorem dX11_wind_1 : decode cX11_wind 1 = .ok (.iconst (-1), 1) := by decide +kernel
theorem dX11_wind_2 : decode cX11_wind 2 = .ok (.iconst 1, 1) := by decide +kernel
theorem dX11_wind_3 : decode cX11_wind 3 = .ok (.invokestatic 71, 3) := by decide +kernel
theorem dX11_wind_6 : decode cX11_wind 6 = .ok (.ifCond .eq 44, 3) := by decide +kernel
theorem dX11_wind_9 : decode cX11_wind 9 = .ok (.iload_n 2, 1) := by decide +kernel
theorem dX11_wind_10 : decode cX11_wind 10 = .ok (.iconst (-1), 1) := by decide +kernel
theorem dX11_wind_11 : decode cX11_wind 11 = .ok (.iconst 1, 1) := by decide +kernel
theorem dX11_wind_12 : decode cX11_wind 12 = .ok (.invokestatic 71, 3) := by decide +kernel
theorem dX11_wind_15 : decode cX11_wind 15 = .ok (.ifCond .eq 35, 3) := by decide +kernel
theorem dX11_wind_18 : decode cX11_wind 18 = .ok (.iload_n 3, 1) := by decide +kernel
theorem dX11_wind_19 : decode cX11_wind 19 = .ok (.iconst 0, 1) := by decide +kernel
theorem dX11_wind_20 : decode cX11_wind 20 = .ok (.bipush 99, 2) := by decide +kernel
theorem dX11_wind_22 : decode cX11_wind 22 = .ok (.invokestatic 71, 3) := by decide +kernel
theorem dX11_wind_25 : decode cX11_wind 25 = .ok (.ifCond .eq 25, 3) := by decide +kernel
theorem dX11_wind_28 : decode cX11_wind 28 = .ok (.iload 4, 2) := by decide +kernel
theorem dX11_wind_30 : decode cX11_wind 30 = .ok (.iconst 0, 1) := by decide +kernel
theorem dX11_wind_31 : decode cX11_wind 31 = .ok (.bipush 9, 2) := by decide +kernel
theorem dX11_wind_33 : decode cX11_wind 33 = .ok (.invokestatic 71, 3) := by decide +kernel
theorem dX11_wind_36 : decode cX11_wind 36 = .ok (.ifCond .eq 14, 3) := by decide +kernel
theorem dX11_wind_39 : decode cX11_wind 39 = .ok (.aload_n 0, 1) := by decide +kernel
theorem dX11_wind_40 : decode cX11_wind 40 = .ok (.getfield 7, 3) := by decide +kernel
theorem dX11_wind_43 : decode cX11_wind 43 = .ok (.iconst 2, 1) := by decide +kernel
theorem dX11_wind_44 : decode cX11_wind 44 = .ok (.iaload, 1) := by decide +kernel
theorem dX11_wind_45 : decode cX11_wind 45 = .ok (.bipush 6, 2) := by decide +kernel
theorem dX11_wind_47 : decode cX11_wind 47 = .ok (.if_icmp .ne 5, 3) := by decide +kernel
theorem dX11_wind_50 : decode cX11_wind 50 = .ok (.iconst (-1), 1) := by decide +kernel
theorem dX11_wind_51 : decode cX11_wind 51 = .ok (.ireturn, 1) := by decide +kernel
theorem dX11_wind_52 : decode cX11_wind 52 = .ok (.bipush 100, 2) := by decide +kernel
theorem dX11_wind_54 : decode cX11_wind 54 = .ok (.iconst 4, 1) := by decide +kernel
theorem dX11_wind_55 : decode cX11_wind 55 = .ok (.aload_n 0, 1) := by decide +kernel
theorem dX11_wind_56 : decode cX11_wind 56 = .ok (.getfield 7, 3) := by decide +kernel
theorem dX11_wind_59 : decode cX11_wind 59 = .ok (.iconst 2, 1) := by decide +kernel
theorem dX11_wind_60 : decode cX11_wind 60 = .ok (.iaload, 1) := by decide +kernel
theorem dX11_wind_61 : decode cX11_wind 61 = .ok (.imul, 1) := by decide +kernel
theorem dX11_wind_62 : decode cX11_wind 62 = .ok (.iadd, 1) := by decide +kernel
theorem dX11_wind_63 : decode cX11_wind 63 = .ok (.istore 5, 2) := by decide +kernel
theorem dX11_wind_65 : decode cX11_wind 65 = .ok (.aload_n 0, 1) := by decide +kernel
theorem dX11_wind_66 : decode cX11_wind 66 = .ok (.getfield 7, 3) := by decide +kernel
theorem dX11_wind_69 : decode cX11_wind 69 = .ok (.iload 5, 2) := by decide +kernel
theorem dX11_wind_71 : decode cX11_wind 71 = .ok (.iload_n 1, 1) := by decide +kernel
theorem dX11_wind_72 : decode cX11_wind 72 = .ok (.iastore, 1) := by decide +kernel
theorem dX11_wind_73 : decode cX11_wind 73 = .ok (.aload_n 0, 1) := by decide +kernel
theorem dX11_wind_74 : decode cX11_wind 74 = .ok (.getfield 7, 3) := by decide +kernel
theorem dX11_wind_77 : decode cX11_wind 77 = .ok (.iload 5, 2) := by decide +kernel
theorem dX11_wind_79 : decode cX11_wind 79 = .ok (.iconst 1, 1) := by decide +kernel
theorem dX11_wind_80 : decode cX11_wind 80 = .ok (.iadd, 1) := by decide +kernel
theorem dX11_wind_81 : decode cX11_wind 81 = .ok (.iload_n 2, 1) := by decide +kernel
theorem dX11_wind_82 : decode cX11_wind 82 = .ok (.iastore, 1) := by decide +kernel
theorem dX11_wind_83 : decode cX11_wind 83 = .ok (.aload_n 0, 1) := by decide +kernel
theorem dX11_wind_84 : decode cX11_wind 84 = .ok (.getfield 7, 3) := by decide +kernel
theorem dX11_wind_87 : decode cX11_wind 87 = .ok (.iload 5, 2) := by decide +kernel
theorem dX11_wind_89 : decode cX11_wind 89 = .ok (.iconst 2, 1) := by decide +kernel
theorem dX11_wind_90 : decode cX11_wind 90 = .ok (.iadd, 1) := by decide +kernel
theorem dX11_wind_91 : decode cX11_wind 91 = .ok (.iload_n 3, 1) := by decide +kernel
theorem dX11_wind_92 : decode cX11_wind 92 = .ok (.iastore, 1) := by decide +kernel
theorem dX11_wind_93 : decode cX11_wind 93 = .ok (.aload_n 0, 1) := by decide +kernel
theorem dX11_wind_94 : decode cX11_wind 94 = .ok (.getfield 7, 3) := by decide +kernel
theorem dX11_wind_97 : decode cX11_wind 97 = .ok (.iload 5, 2) := by decide +kernel
theorem dX11_wind_99 : decode cX11_wind 99 = .ok (.iconst 3, 1) := by decide +kernel
theorem dX11_wind_100 : decode cX11_wind 100 = .ok (.iadd, 1) := by decide +kernel
theorem dX11_wind_101 : decode cX11_wind 101 = .ok (.iload 4, 2) := by decide +kernel
theorem dX11_wind_103 : decode cX11_wind 103 = .ok (.iastore, 1) := by decide +kernel
theorem dX11_wind_104 : decode cX11_wind 104 = .ok (.aload_n 0, 1) := by decide +kernel
theorem dX11_wind_105 : decode cX11_wind 105 = .ok (.getfield 7, 3) := by decide +kernel
theorem dX11_wind_108 : decode cX11_wind 108 = .ok (.iconst 2, 1) := by decide +kernel
theorem dX11_wind_109 : decode cX11_wind 109 = .ok (.dup2, 1) := by decide +kernel
theorem dX11_wind_110 : decode cX11_wind 110 = .ok (.iaload, 1) := by decide +kernel
theorem dX11_wind_111 : decode cX11_wind 111 = .ok (.iconst 1, 1) := by decide +kernel
theorem dX11_wind_112 : decode cX11_wind 112 = .ok (.iadd, 1) := by decide +kernel
theorem dX11_wind_113 : decode cX11_wind 113 = .ok (.iastore, 1) := by decide +kernel
theorem dX11_wind_114 : decode cX11_wind 114 = .ok (.aload_n 0, 1) := by decide +kernel
theorem dX11_wind_115 : decode cX11_wind 115 = .ok (.getfield 7, 3) := by decide +kernel
theorem dX11_wind_118 : decode cX11_wind 118 = .ok (.iconst 2, 1) := by decide +kernel
theorem dX11_wind_119 : decode cX11_wind 119 = .ok (.iaload, 1) := by decide +kernel
theorem dX11_wind_120 : decode cX11_wind 120 = .ok (.iconst 1, 1) := by decide +kernel
theorem dX11_wind_121 : decode cX11_wind 121 = .ok (.isub, 1) := by decide +kernel
theorem dX11_wind_122 : decode cX11_wind 122 = .ok (.ireturn, 1) := by decide +kernel
theorem dX11_plan_0 : decode cX11_plan 0 = .ok (.iload_n 1, 1) := by decide +kernel
theorem dX11_plan_1 : decode cX11_plan 1 = .ok (.iconst 0, 1) := by decide +kernel
theorem dX11_plan_2 : decode cX11_plan 2 = .ok (.bipush 39, 2) := by decide +kernel
theorem dX11_plan_4 : decode cX11_plan 4 = .ok (.invokestatic 71, 3) := by decide +kernel
theorem dX11_plan_7 : decode cX11_plan 7 = .ok (.ifCond .eq 11, 3) := by decide +kernel
theorem dX11_plan_10 : decode cX11_plan 10 = .ok (.aload_n 0, 1) := by decide +kernel
theorem dX11_plan_11 : decode cX11_plan 11 = .ok (.iload_n 2, 1) := by decide +kernel
theorem dX11_plan_12 : decode cX11_plan 12 = .ok (.invokevirtual 91, 3) := by decide +kernel
theorem dX11_plan_15 : decode cX11_plan 15 = .ok (.ifCond .ne 5, 3) := by decide +kernel
theorem dX11_plan_18 : decode cX11_plan 18 = .ok (.iconst 0, 1) := by decide +kernel
theorem dX11_plan_19 : decode cX11_plan 19 = .ok (.ireturn, 1) := by decide +kernel
theorem dX11_plan_20 : decode cX11_plan 20 = .ok (.aload_n 0, 1) := by decide +kernel
theorem dX11_plan_21 : decode cX11_plan 21 = .ok (.getfield 7, 3) := by decide +kernel
theorem dX11_plan_24 : decode cX11_plan 24 = .ok (.bipush 125, 2) := by decide +kernel
theorem dX11_plan_26 : decode cX11_plan 26 = .ok (.iload_n 1, 1) := by decide +kernel
theorem dX11_plan_27 : decode cX11_plan 27 = .ok (.iadd, 1) := by decide +kernel
theorem dX11_plan_28 : decode cX11_plan 28 = .ok (.iload_n 2, 1) := by decide +kernel
theorem dX11_plan_29 : decode cX11_plan 29 = .ok (.iastore, 1) := by decide +kernel
theorem dX11_plan_30 : decode cX11_plan 30 = .ok (.iconst 1, 1) := by decide +kernel
theorem dX11_plan_31 : decode cX11_plan 31 = .ok (.ireturn, 1) := by decide +kernel
theorem dX11_four_0 : decode cX11_four 0 = .ok (.bipush 24, 2) := by decide +kernel
theorem dX11_four_2 : decode cX11_four 2 = .ok (.istore_n 2, 1) := by decide +kernel
theorem dX11_four_3 : decode cX11_four 3 = .ok (.iload_n 2, 1) := by decide +kernel
theorem dX11_four_4 : decode cX11_four 4 = .ok (.ifCond .lt 35, 3) := by decide +kernel
theorem dX11_four_7 : decode cX11_four 7 = .ok (.aload_n 0, 1) := by decide +kernel
theorem dX11_four_8 : decode cX11_four 8 = .ok (.getfield 16, 3) := by decide +kernel
theorem dX11_four_11 : decode cX11_four 11 = .ok (.aload_n 0, 1) := by decide +kernel
theorem dX11_four_12 : decode cX11_four 12 = .ok (.getfield 94, 3) := by decide +kernel
theorem dX11_four_15 : decode cX11_four 15 = .ok (.iload_n 1, 1) := by decide +kernel
theorem dX11_four_16 : decode cX11_four 16 = .ok (.iload_n 2, 1) := by decide +kernel
theorem dX11_four_17 : decode cX11_four 17 = .ok (.ishr, 1) := by decide +kernel
theorem dX11_four_18 : decode cX11_four 18 = .ok (.sipush 255, 3) := by decide +kernel
theorem dX11_four_21 : decode cX11_four 21 = .ok (.iand, 1) := by decide +kernel
theorem dX11_four_22 : decode cX11_four 22 = .ok (.iastore, 1) := by decide +kernel
theorem dX11_four_23 : decode cX11_four 23 = .ok (.aload_n 0, 1) := by decide +kernel
theorem dX11_four_24 : decode cX11_four 24 = .ok (.dup, 1) := by decide +kernel
theorem dX11_four_25 : decode cX11_four 25 = .ok (.getfield 94, 3) := by decide +kernel
theorem dX11_four_28 : decode cX11_four 28 = .ok (.iconst 1, 1) := by decide +kernel
theorem dX11_four_29 : decode cX11_four 29 = .ok (.iadd, 1) := by decide +kernel
theorem dX11_four_30 : decode cX11_four 30 = .ok (.putfield 94, 3) := by decide +kernel
theorem dX11_four_33 : decode cX11_four 33 = .ok (.iinc 2 (-8), 3) := by decide +kernel
theorem dX11_four_36 : decode cX11_four 36 = .ok (.goto (-33), 3) := by decide +kernel
theorem dX11_four_39 : decode cX11_four 39 = .ok (.return_, 1) := by decide +kernel
theorem dX11_feed_0 : decode cX11_feed 0 = .ok (.aload_n 0, 1) := by decide +kernel
theorem dX11_feed_1 : decode cX11_feed 1 = .ok (.getfield 94, 3) := by decide +kernel
theorem dX11_feed_4 : decode cX11_feed 4 = .ok (.bipush 20, 2) := by decide +kernel
theorem dX11_feed_6 : decode cX11_feed 6 = .ok (.iadd, 1) := by decide +kernel
theorem dX11_feed_7 : decode cX11_feed 7 = .ok (.sipush 300, 3) := by decide +kernel
theorem dX11_feed_10 : decode cX11_feed 10 = .ok (.if_icmp .le 5, 3) := by decide +kernel
theorem dX11_feed_13 : decode cX11_feed 13 = .ok (.iconst (-1), 1) := by decide +kernel
theorem dX11_feed_14 : decode cX11_feed 14 = .ok (.ireturn, 1) := by decide +kernel
theorem dX11_feed_15 : decode cX11_feed 15 = .ok (.aload_n 0, 1) := by decide +kernel
theorem dX11_feed_16 : decode cX11_feed 16 = .ok (.iload_n 1, 1) := by decide +kernel
theorem dX11_feed_17 : decode cX11_feed 17 = .ok (.invokevirtual 97, 3) := by decide +kernel
theorem dX11_feed_20 : decode cX11_feed 20 = .ok (.aload_n 0, 1) := by decide +kernel
theorem dX11_feed_21 : decode cX11_feed 21 = .ok (.iload_n 2, 1) := by decide +kernel
theorem dX11_feed_22 : decode cX11_feed 22 = .ok (.invokevirtual 97, 3) := by decide +kernel
theorem dX11_feed_25 : decode cX11_feed 25 = .ok (.aload_n 0, 1) := by decide +kernel
theorem dX11_feed_26 : decode cX11_feed 26 = .ok (.iload_n 3, 1) := by decide +kernel
theorem dX11_feed_27 : decode cX11_feed 27 = .ok (.invokevirtual 97, 3) := by decide +kernel
theorem dX11_feed_30 : decode cX11_feed 30 = .ok (.aload_n 0, 1) := by decide +kernel
theorem dX11_feed_31 : decode cX11_feed 31 = .ok (.iload 4, 2) := by decide +kernel
theorem dX11_feed_33 : decode cX11_feed 33 = .ok (.invokevirtual 97, 3) := by decide +kernel
theorem dX11_feed_36 : decode cX11_feed 36 = .ok (.aload_n 0, 1) := by decide +kernel
theorem dX11_feed_37 : decode cX11_feed 37 = .ok (.iload 5, 2) := by decide +kernel
theorem dX11_feed_39 : decode cX11_feed 39 = .ok (.invokevirtual 97, 3) := by decide +kernel
theorem dX11_feed_42 : decode cX11_feed 42 = .ok (.aload_n 0, 1) := by decide +kernel
theorem dX11_feed_43 : decode cX11_feed 43 = .ok (.getfield 94, 3) := by decide +kernel
theorem dX11_feed_46 : decode cX11_feed 46 = .ok (.ireturn, 1) := by decide +kernel
theorem dX11_end_0 : decode cX11_end 0 = .ok (.iload_n 1, 1) := by decide +kernel
theorem dX11_end_1 : decode cX11_end 1 = .ok (.iconst 0, 1) := by decide +kernel
theorem dX11_end_2 : decode cX11_end 2 = .ok (.aload_n 0, 1) := by decide +kernel
theorem dX11_end_3 : decode cX11_end 3 = .ok (.getfield 94, 3) := by decide +kernel
theorem dX11_end_6 : decode cX11_end 6 = .ok (.invokestatic 71, 3) := by decide +kernel
theorem dX11_end_9 : decode cX11_end 9 = .ok (.ifCond .ne 5, 3) := by decide +kernel
theorem dX11_end_12 : decode cX11_end 12 = .ok (.iconst (-1), 1) := by decide +kernel
theorem dX11_end_13 : decode cX11_end 13 = .ok (.ireturn, 1) := by decide +kernel
theorem dX11_end_14 : decode cX11_end 14 = .ok (.aload_n 0, 1) := by decide +kernel
theorem dX11_end_15 : decode cX11_end 15 = .ok (.iload_n 1, 1) := by decide +kernel
theorem dX11_end_16 : decode cX11_end 16 = .ok (.putfield 94, 3) := by decide +kernel
theorem dX11_end_19 : decode cX11_end 19 = .ok (.iload_n 1, 1) := by decide +kernel
theorem dX11_end_20 : decode cX11_end 20 = .ok (.ireturn, 1) := by decide +kernel
theorem dX11_byteAt_0 : decode cX11_byteAt 0 = .ok (.iload_n 1, 1) := by decide +kernel
theorem dX11_byteAt_1 : decode cX11_byteAt 1 = .ok (.aload_n 0, 1) := by decide +kernel
theorem dX11_byteAt_2 : decode cX11_byteAt 2 = .ok (.getfield 94, 3) := by decide +kernel
theorem dX11_byteAt_5 : decode cX11_byteAt 5 = .ok (.if_icmp .ge 12, 3) := by decide +kernel
theorem dX11_byteAt_8 : decode cX11_byteAt 8 = .ok (.aload_n 0, 1) := by decide +kernel
theorem dX11_byteAt_9 : decode cX11_byteAt 9 = .ok (.getfield 16, 3) := by decide +kernel
theorem dX11_byteAt_12 : decode cX11_byteAt 12 = .ok (.iload_n 1, 1) := by decide +kernel
theorem dX11_byteAt_13 : decode cX11_byteAt 13 = .ok (.iaload, 1) := by decide +kernel
theorem dX11_byteAt_14 : decode cX11_byteAt 14 = .ok (.goto 4, 3) := by decide +kernel
theorem dX11_byteAt_17 : decode cX11_byteAt 17 = .ok (.iconst (-1), 1) := by decide +kernel
theorem dX11_byteAt_18 : decode cX11_byteAt 18 = .ok (.ireturn, 1) := by decide +kernel
theorem dX11_isLetter_0 : decode cX11_isLetter 0 = .ok (.iload_n 0, 1) := by decide +kernel
theorem dX11_isLetter_1 : decode cX11_isLetter 1 = .ok (.bipush 97, 2) := by decide +kernel
theorem dX11_isLetter_3 : decode cX11_isLetter 3 = .ok (.bipush 122, 2) := by decide +kernel
theorem dX11_isLetter_5 : decode cX11_isLetter 5 = .ok (.invokestatic 71, 3) := by decide +kernel
theorem dX11_isLetter_8 : decode cX11_isLetter 8 = .ok (.ifCond .ne 14, 3) := by decide +kernel
theorem dX11_isLetter_11 : decode cX11_isLetter 11 = .ok (.iload_n 0, 1) := by decide +kernel
theorem dX11_isLetter_12 : decode cX11_isLetter 12 = .ok (.bipush 65, 2) := by decide +kernel
theorem dX11_isLetter_14 : decode cX11_isLetter 14 = .ok (.bipush 90, 2) := by decide +kernel
theorem dX11_isLetter_16 : decode cX11_isLetter 16 = .ok (.invokestatic 71, 3) := by decide +kernel
theorem dX11_isLetter_19 : decode cX11_isLetter 19 = .ok (.ifCond .eq 7, 3) := by decide +kernel
theorem dX11_isLetter_22 : decode cX11_isLetter 22 = .ok (.iconst 1, 1) := by decide +kernel
theorem dX11_isLetter_23 : decode cX11_isLetter 23 = .ok (.goto 4, 3) := by decide +kernel
theorem dX11_isLetter_26 : decode cX11_isLetter 26 = .ok (.iconst 0, 1) := by decide +kernel
theorem dX11_isLetter_27 : decode cX11_isLetter 27 = .ok (.ireturn, 1) := by decide +kernel
theorem dX11_isDigit_0 : decode cX11_isDigit 0 = .ok (.iload_n 0, 1) := by decide +kernel
theorem dX11_isDigit_1 : decode cX11_isDigit 1 = .ok (.bipush 48, 2) := by decide +kernel
theorem dX11_isDigit_3 : decode cX11_isDigit 3 = .ok (.bipush 57, 2) := by decide +kernel
theorem dX11_isDigit_5 : decode cX11_isDigit 5 = .ok (.invokestatic 71, 3) := by decide +kernel
theorem dX11_isDigit_8 : decode cX11_isDigit 8 = .ok (.ireturn, 1) := by decide +kernel
theorem dX11_nextToken_0 : decode cX11_nextToken 0 = .ok (.aload_n 0, 1) := by decide +kernel
theorem dX11_nextToken_1 : decode cX11_nextToken 1 = .ok (.aload_n 0, 1) := by decide +kernel
theorem dX11_nextToken_2 : decode cX11_nextToken 2 = .ok (.getfield 101, 3) := by decide +kernel
theorem dX11_nextToken_5 : decode cX11_nextToken 5 = .ok (.invokevirtual 104, 3) := by decide +kernel
theorem dX11_nextToken_8 : decode cX11_nextToken 8 = .ok (.bipush 32, 2) := by decide +kernel
theorem dX11_nextToken_10 : decode cX11_nextToken 10 = .ok (.if_icmp .eq 16, 3) := by decide +kernel
theorem dX11_nextToken_13 : decode cX11_nextToken 13 = .ok (.aload_n 0, 1) := by decide +kernel
theorem dX11_nextToken_14 : decode cX11_nextToken 14 = .ok (.aload_n 0, 1) := by decide +kernel
theorem dX11_nextToken_15 : decode cX11_nextToken 15 = .ok (.getfield 101, 3) := by decide +kernel
theorem dX11_nextToken_18 : decode cX11_nextToken 18 = .ok (.invokevirtual 104, 3) := by decide +kernel
theorem dX11_nextToken_21 : decode cX11_nextToken 21 = .ok (.bipush 10, 2) := by decide +kernel
theorem dX11_nextToken_23 : decode cX11_nextToken 23 = .ok (.if_icmp .ne 16, 3) := by decide +kernel
theorem dX11_nextToken_26 : decode cX11_nextToken 26 = .ok (.aload_n 0, 1) := by decide +kernel
theorem dX11_nextToken_27 : decode cX11_nextToken 27 = .ok (.dup, 1) := by decide +kernel
theorem dX11_nextToken_28 : decode cX11_nextToken 28 = .ok (.getfield 101, 3) := by decide +kernel
theorem dX11_nextToken_31 : decode cX11_nextToken 31 = .ok (.iconst 1, 1) := by decide +kernel
theorem dX11_nextToken_32 : decode cX11_nextToken 32 = .ok (.iadd, 1) := by decide +kernel
theorem dX11_nextToken_33 : decode cX11_nextToken 33 = .ok (.putfield 101, 3) := by decide +kernel
theorem dX11_nextToken_36 : decode cX11_nextToken 36 = .ok (.goto (-36), 3) := by decide +kernel
theorem dX11_nextToken_39 : decode cX11_nextToken 39 = .ok (.aload_n 0, 1) := by decide +kernel
theorem dX11_nextToken_40 : decode cX11_nextToken 40 = .ok (.aload_n 0, 1) := by decide +kernel
theorem dX11_nextToken_41 : decode cX11_nextToken 41 = .ok (.getfield 101, 3) := by decide +kernel
theorem dX11_nextToken_44 : decode cX11_nextToken 44 = .ok (.putfield 108, 3) := by decide +kernel
theorem dX11_nextToken_47 : decode cX11_nextToken 47 = .ok (.aload_n 0, 1) := by decide +kernel
theorem dX11_nextToken_48 : decode cX11_nextToken 48 = .ok (.aload_n 0, 1) := by decide +kernel
theorem dX11_nextToken_49 : decode cX11_nextToken 49 = .ok (.getfield 101, 3) := by decide +kernel
theorem dX11_nextToken_52 : decode cX11_nextToken 52 = .ok (.invokevirtual 104, 3) := by decide +kernel
theorem dX11_nextToken_55 : decode cX11_nextToken 55 = .ok (.istore_n 1, 1) := by decide +kernel
theorem dX11_nextToken_56 : decode cX11_nextToken 56 = .ok (.iload_n 1, 1) := by decide +kernel
theorem dX11_nextToken_57 : decode cX11_nextToken 57 = .ok (.ifCond .ge 11, 3) := by decide +kernel
theorem dX11_nextToken_60 : decode cX11_nextToken 60 = .ok (.aload_n 0, 1) := by decide +kernel
theorem dX11_nextToken_61 : decode cX11_nextToken 61 = .ok (.iconst 0, 1) := by decide +kernel
theorem dX11_nextToken_62 : decode cX11_nextToken 62 = .ok (.putfield 111, 3) := by decide +kernel
theorem dX11_nextToken_65 : decode cX11_nextToken 65 = .ok (.goto 331, 3) := by decide +kernel
theorem dX11_nextToken_68 : decode cX11_nextToken 68 = .ok (.iload_n 1, 1) := by decide +kernel
theorem dX11_nextToken_69 : decode cX11_nextToken 69 = .ok (.invokestatic 114, 3) := by decide +kernel
theorem dX11_nextToken_72 : decode cX11_nextToken 72 = .ok (.ifCond .eq 72, 3) := by decide +kernel
theorem dX11_nextToken_75 : decode cX11_nextToken 75 = .ok (.aload_n 0, 1) := by decide +kernel
theorem dX11_nextToken_76 : decode cX11_nextToken 76 = .ok (.iconst 1, 1) := by decide +kernel
theorem dX11_nextToken_77 : decode cX11_nextToken 77 = .ok (.putfield 111, 3) := by decide +kernel
theorem dX11_nextToken_80 : decode cX11_nextToken 80 = .ok (.aload_n 0, 1) := by decide +kernel
theorem dX11_nextToken_81 : decode cX11_nextToken 81 = .ok (.iconst 0, 1) := by decide +kernel
theorem dX11_nextToken_82 : decode cX11_nextToken 82 = .ok (.putfield 117, 3) := by decide +kernel
theorem dX11_nextToken_85 : decode cX11_nextToken 85 = .ok (.aload_n 0, 1) := by decide +kernel
theorem dX11_nextToken_86 : decode cX11_nextToken 86 = .ok (.aload_n 0, 1) := by decide +kernel
theorem dX11_nextToken_87 : decode cX11_nextToken 87 = .ok (.getfield 101, 3) := by decide +kernel
theorem dX11_nextToken_90 : decode cX11_nextToken 90 = .ok (.invokevirtual 104, 3) := by decide +kernel
theorem dX11_nextToken_93 : decode cX11_nextToken 93 = .ok (.invokestatic 114, 3) := by decide +kernel
theorem dX11_nextToken_96 : decode cX11_nextToken 96 = .ok (.ifCond .eq 300, 3) := by decide +kernel
theorem dX11_nextToken_99 : decode cX11_nextToken 99 = .ok (.aload_n 0, 1) := by decide +kernel
theorem dX11_nextToken_100 : decode cX11_nextToken 100 = .ok (.getfield 117, 3) := by decide +kernel
theorem dX11_nextToken_103 : decode cX11_nextToken 103 = .ok (.ldc 120, 2) := by decide +kernel
theorem dX11_nextToken_105 : decode cX11_nextToken 105 = .ok (.if_icmp .ge 26, 3) := by decide +kernel
theorem dX11_nextToken_108 : decode cX11_nextToken 108 = .ok (.aload_n 0, 1) := by decide +kernel
theorem dX11_nextToken_109 : decode cX11_nextToken 109 = .ok (.bipush 10, 2) := by decide +kernel
theorem dX11_nextToken_111 : decode cX11_nextToken 111 = .ok (.aload_n 0, 1) := by decide +kernel
theorem dX11_nextToken_112 : decode cX11_nextToken 112 = .ok (.getfield 117, 3) := by decide +kernel
theorem dX11_nextToken_115 : decode cX11_nextToken 115 = .ok (.imul, 1) := by decide +kernel
theorem dX11_nextToken_116 : decode cX11_nextToken 116 = .ok (.aload_n 0, 1) := by decide +kernel
theorem dX11_nextToken_117 : decode cX11_nextToken 117 = .ok (.aload_n 0, 1) := by decide +kernel
theorem dX11_nextToken_118 : decode cX11_nextToken 118 = .ok (.getfield 101, 3) := by decide +kernel
theorem dX11_nextToken_121 : decode cX11_nextToken 121 = .ok (.invokevirtual 104, 3) := by decide +kernel
theorem dX11_nextToken_124 : decode cX11_nextToken 124 = .ok (.iadd, 1) := by decide +kernel
theorem dX11_nextToken_125 : decode cX11_nextToken 125 = .ok (.bipush 48, 2) := by decide +kernel
theorem dX11_nextToken_127 : decode cX11_nextToken 127 = .ok (.isub, 1) := by decide +kernel
theorem dX11_nextToken_128 : decode cX11_nextToken 128 = .ok (.putfield 117, 3) := by decide +kernel
theorem dX11_nextToken_131 : decode cX11_nextToken 131 = .ok (.aload_n 0, 1) := by decide +kernel
theorem dX11_nextToken_132 : decode cX11_nextToken 132 = .ok (.dup, 1) := by decide +kernel
theorem dX11_nextToken_133 : decode cX11_nextToken 133 = .ok (.getfield 101, 3) := by decide +kernel
theorem dX11_nextToken_136 : decode cX11_nextToken 136 = .ok (.iconst 1, 1) := by decide +kernel
theorem dX11_nextToken_137 : decode cX11_nextToken 137 = .ok (.iadd, 1) := by decide +kernel
theorem dX11_nextToken_138 : decode cX11_nextToken 138 = .ok (.putfield 101, 3) := by decide +kernel
theorem dX11_nextToken_141 : decode cX11_nextToken 141 = .ok (.goto (-56), 3) := by decide +kernel
theorem dX11_nextToken_144 : decode cX11_nextToken 144 = .ok (.iload_n 1, 1) := by decide +kernel
theorem dX11_nextToken_145 : decode cX11_nextToken 145 = .ok (.invokestatic 121, 3) := by decide +kernel
theorem dX11_nextToken_148 : decode cX11_nextToken 148 = .ok (.ifCond .eq 97, 3) := by decide +kernel
theorem dX11_nextToken_151 : decode cX11_nextToken 151 = .ok (.aload_n 0, 1) := by decide +kernel
theorem dX11_nextToken_152 : decode cX11_nextToken 152 = .ok (.iconst 2, 1) := by decide +kernel
theorem dX11_nextToken_153 : decode cX11_nextToken 153 = .ok (.putfield 111, 3) := by decide +kernel
theorem dX11_nextToken_156 : decode cX11_nextToken 156 = .ok (.aload_n 0, 1) := by decide +kernel
theorem dX11_nextToken_157 : decode cX11_nextToken 157 = .ok (.lconst 0, 1) := by decide +kernel
theorem dX11_nextToken_158 : decode cX11_nextToken 158 = .ok (.putfield 124, 3) := by decide +kernel
theorem dX11_nextToken_161 : decode cX11_nextToken 161 = .ok (.aload_n 0, 1) := by decide +kernel
theorem dX11_nextToken_162 : decode cX11_nextToken 162 = .ok (.aload_n 0, 1) := by decide +kernel
theorem dX11_nextToken_163 : decode cX11_nextToken 163 = .ok (.getfield 101, 3) := by decide +kernel
theorem dX11_nextToken_166 : decode cX11_nextToken 166 = .ok (.invokevirtual 104, 3) := by decide +kernel
theorem dX11_nextToken_169 : decode cX11_nextToken 169 = .ok (.invokestatic 121, 3) := by decide +kernel
theorem dX11_nextToken_172 : decode cX11_nextToken 172 = .ok (.ifCond .eq 51, 3) := by decide +kernel
theorem dX11_nextToken_175 : decode cX11_nextToken 175 = .ok (.aload_n 0, 1) := by decide +kernel
theorem dX11_nextToken_176 : decode cX11_nextToken 176 = .ok (.getfield 101, 3) := by decide +kernel
theorem dX11_nextToken_179 : decode cX11_nextToken 179 = .ok (.aload_n 0, 1) := by decide +kernel
theorem dX11_nextToken_180 : decode cX11_nextToken 180 = .ok (.getfield 108, 3) := by decide +kernel
theorem dX11_nextToken_183 : decode cX11_nextToken 183 = .ok (.isub, 1) := by decide +kernel
theorem dX11_nextToken_184 : decode cX11_nextToken 184 = .ok (.bipush 7, 2) := by decide +kernel
theorem dX11_nextToken_186 : decode cX11_nextToken 186 = .ok (.if_icmp .ge 24, 3) := by decide +kernel
theorem dX11_nextToken_189 : decode cX11_nextToken 189 = .ok (.aload_n 0, 1) := by decide +kernel
theorem dX11_nextToken_190 : decode cX11_nextToken 190 = .ok (.aload_n 0, 1) := by decide +kernel
theorem dX11_nextToken_191 : decode cX11_nextToken 191 = .ok (.getfield 124, 3) := by decide +kernel
theorem dX11_nextToken_194 : decode cX11_nextToken 194 = .ok (.bipush 8, 2) := by decide +kernel
theorem dX11_nextToken_196 : decode cX11_nextToken 196 = .ok (.lshl, 1) := by decide +kernel
theorem dX11_nextToken_197 : decode cX11_nextToken 197 = .ok (.aload_n 0, 1) := by decide +kernel
theorem dX11_nextToken_198 : decode cX11_nextToken 198 = .ok (.aload_n 0, 1) := by decide +kernel
theorem dX11_nextToken_199 : decode cX11_nextToken 199 = .ok (.getfield 101, 3) := by decide +kernel
theorem dX11_nextToken_202 : decode cX11_nextToken 202 = .ok (.invokevirtual 104, 3) := by decide +kernel
theorem dX11_nextToken_205 : decode cX11_nextToken 205 = .ok (.i2l, 1) := by decide +kernel
theorem dX11_nextToken_206 : decode cX11_nextToken 206 = .ok (.lor, 1) := by decide +kernel
theorem dX11_nextToken_207 : decode cX11_nextToken 207 = .ok (.putfield 124, 3) := by decide +kernel
theorem dX11_nextToken_210 : decode cX11_nextToken 210 = .ok (.aload_n 0, 1) := by decide +kernel
theorem dX11_nextToken_211 : decode cX11_nextToken 211 = .ok (.dup, 1) := by decide +kernel
theorem dX11_nextToken_212 : decode cX11_nextToken 212 = .ok (.getfield 101, 3) := by decide +kernel
theorem dX11_nextToken_215 : decode cX11_nextToken 215 = .ok (.iconst 1, 1) := by decide +kernel
theorem dX11_nextToken_216 : decode cX11_nextToken 216 = .ok (.iadd, 1) := by decide +kernel
theorem dX11_nextToken_217 : decode cX11_nextToken 217 = .ok (.putfield 101, 3) := by decide +kernel
theorem dX11_nextToken_220 : decode cX11_nextToken 220 = .ok (.goto (-59), 3) := by decide +kernel
theorem dX11_nextToken_223 : decode cX11_nextToken 223 = .ok (.aload_n 0, 1) := by decide +kernel
theorem dX11_nextToken_224 : decode cX11_nextToken 224 = .ok (.getfield 101, 3) := by decide +kernel
theorem dX11_nextToken_227 : decode cX11_nextToken 227 = .ok (.aload_n 0, 1) := by decide +kernel
theorem dX11_nextToken_228 : decode cX11_nextToken 228 = .ok (.getfield 108, 3) := by decide +kernel
theorem dX11_nextToken_231 : decode cX11_nextToken 231 = .ok (.isub, 1) := by decide +kernel
theorem dX11_nextToken_232 : decode cX11_nextToken 232 = .ok (.bipush 7, 2) := by decide +kernel
theorem dX11_nextToken_234 : decode cX11_nextToken 234 = .ok (.if_icmp .le 162, 3) := by decide +kernel
theorem dX11_nextToken_237 : decode cX11_nextToken 237 = .ok (.aload_n 0, 1) := by decide +kernel
theorem dX11_nextToken_238 : decode cX11_nextToken 238 = .ok (.lconst 0, 1) := by decide +kernel
theorem dX11_nextToken_239 : decode cX11_nextToken 239 = .ok (.putfield 124, 3) := by decide +kernel
theorem dX11_nextToken_242 : decode cX11_nextToken 242 = .ok (.goto 154, 3) := by decide +kernel
theorem dX11_nextToken_245 : decode cX11_nextToken 245 = .ok (.aload_n 0, 1) := by decide +kernel
theorem dX11_nextToken_246 : decode cX11_nextToken 246 = .ok (.dup, 1) := by decide +kernel
theorem dX11_nextToken_247 : decode cX11_nextToken 247 = .ok (.getfield 101, 3) := by decide +kernel
theorem dX11_nextToken_250 : decode cX11_nextToken 250 = .ok (.iconst 1, 1) := by decide +kernel
theorem dX11_nextToken_251 : decode cX11_nextToken 251 = .ok (.iadd, 1) := by decide +kernel
theorem dX11_nextToken_252 : decode cX11_nextToken 252 = .ok (.putfield 101, 3) := by decide +kernel
theorem dX11_nextToken_255 : decode cX11_nextToken 255 = .ok (.iload_n 1, 1) := by decide +kernel
theorem dX11_nextToken_256 : decode cX11_nextToken 256 = .ok (.bipush 60, 2) := by decide +kernel
theorem dX11_nextToken_258 : decode cX11_nextToken 258 = .ok (.if_icmp .eq 69, 3) := by decide +kernel
theorem dX11_nextToken_261 : decode cX11_nextToken 261 = .ok (.iload_n 1, 1) := by decide +kernel
theorem dX11_nextToken_262 : decode cX11_nextToken 262 = .ok (.bipush 62, 2) := by decide +kernel
theorem dX11_nextToken_264 : decode cX11_nextToken 264 = .ok (.if_icmp .eq 63, 3) := by decide +kernel
theorem dX11_nextToken_267 : decode cX11_nextToken 267 = .ok (.iload_n 1, 1) := by decide +kernel
theorem dX11_nextToken_268 : decode cX11_nextToken 268 = .ok (.bipush 61, 2) := by decide +kernel
theorem dX11_nextToken_270 : decode cX11_nextToken 270 = .ok (.if_icmp .eq 57, 3) := by decide +kernel
theorem dX11_nextToken_273 : decode cX11_nextToken 273 = .ok (.iload_n 1, 1) := by decide +kernel
theorem dX11_nextToken_274 : decode cX11_nextToken 274 = .ok (.bipush 35, 2) := by decide +kernel
theorem dX11_nextToken_276 : decode cX11_nextToken 276 = .ok (.if_icmp .eq 51, 3) := by decide +kernel
theorem dX11_nextToken_279 : decode cX11_nextToken 279 = .ok (.iload_n 1, 1) := by decide +kernel
theorem dX11_nextToken_280 : decode cX11_nextToken 280 = .ok (.bipush 43, 2) := by decide +kernel
theorem dX11_nextToken_282 : decode cX11_nextToken 282 = .ok (.if_icmp .eq 45, 3) := by decide +kernel
theorem dX11_nextToken_285 : decode cX11_nextToken 285 = .ok (.iload_n 1, 1) := by decide +kernel
theorem dX11_nextToken_286 : decode cX11_nextToken 286 = .ok (.bipush 45, 2) := by decide +kernel
theorem dX11_nextToken_288 : decode cX11_nextToken 288 = .ok (.if_icmp .eq 39, 3) := by decide +kernel
theorem dX11_nextToken_291 : decode cX11_nextToken 291 = .ok (.iload_n 1, 1) := by decide +kernel
theorem dX11_nextToken_292 : decode cX11_nextToken 292 = .ok (.bipush 42, 2) := by decide +kernel
theorem dX11_nextToken_294 : decode cX11_nextToken 294 = .ok (.if_icmp .eq 33, 3) := by decide +kernel
theorem dX11_nextToken_297 : decode cX11_nextToken 297 = .ok (.iload_n 1, 1) := by decide +kernel
theorem dX11_nextToken_298 : decode cX11_nextToken 298 = .ok (.bipush 47, 2) := by decide +kernel
theorem dX11_nextToken_300 : decode cX11_nextToken 300 = .ok (.if_icmp .eq 27, 3) := by decide +kernel
theorem dX11_nextToken_303 : decode cX11_nextToken 303 = .ok (.iload_n 1, 1) := by decide +kernel
