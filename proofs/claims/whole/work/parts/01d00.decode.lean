theorem dX0_init_0 : decode cX0_init 0 = .ok (.aload_n 0, 1) := by decide +kernel
theorem dX0_init_1 : decode cX0_init 1 = .ok (.invokespecial 3, 3) := by decide +kernel
theorem dX0_init_4 : decode cX0_init 4 = .ok (.aload_n 0, 1) := by decide +kernel
theorem dX0_init_5 : decode cX0_init 5 = .ok (.sipush 301, 3) := by decide +kernel
theorem dX0_init_8 : decode cX0_init 8 = .ok (.newarray .int, 2) := by decide +kernel
theorem dX0_init_10 : decode cX0_init 10 = .ok (.putfield 9, 3) := by decide +kernel
theorem dX0_init_13 : decode cX0_init 13 = .ok (.aload_n 0, 1) := by decide +kernel
theorem dX0_init_14 : decode cX0_init 14 = .ok (.sipush 301, 3) := by decide +kernel
theorem dX0_init_17 : decode cX0_init 17 = .ok (.newarray .int, 2) := by decide +kernel
theorem dX0_init_19 : decode cX0_init 19 = .ok (.putfield 15, 3) := by decide +kernel
theorem dX0_init_22 : decode cX0_init 22 = .ok (.aload_n 0, 1) := by decide +kernel
theorem dX0_init_23 : decode cX0_init 23 = .ok (.sipush 301, 3) := by decide +kernel
theorem dX0_init_26 : decode cX0_init 26 = .ok (.newarray .int, 2) := by decide +kernel
theorem dX0_init_28 : decode cX0_init 28 = .ok (.putfield 18, 3) := by decide +kernel
theorem dX0_init_31 : decode cX0_init 31 = .ok (.return_, 1) := by decide +kernel
theorem dX0_cut_0 : decode cX0_cut 0 = .ok (.aload_n 0, 1) := by decide +kernel
theorem dX0_cut_1 : decode cX0_cut 1 = .ok (.iconst 0, 1) := by decide +kernel
theorem dX0_cut_2 : decode cX0_cut 2 = .ok (.putfield 21, 3) := by decide +kernel
theorem dX0_cut_5 : decode cX0_cut 5 = .ok (.iconst 0, 1) := by decide +kernel
theorem dX0_cut_6 : decode cX0_cut 6 = .ok (.istore_n 2, 1) := by decide +kernel
theorem dX0_cut_7 : decode cX0_cut 7 = .ok (.iconst 0, 1) := by decide +kernel
theorem dX0_cut_8 : decode cX0_cut 8 = .ok (.istore_n 3, 1) := by decide +kernel
theorem dX0_cut_9 : decode cX0_cut 9 = .ok (.iload_n 3, 1) := by decide +kernel
theorem dX0_cut_10 : decode cX0_cut 10 = .ok (.sipush 300, 3) := by decide +kernel
theorem dX0_cut_13 : decode cX0_cut 13 = .ok (.if_icmp .ge 88, 3) := by decide +kernel
theorem dX0_cut_16 : decode cX0_cut 16 = .ok (.iload_n 2, 1) := by decide +kernel
theorem dX0_cut_17 : decode cX0_cut 17 = .ok (.aload_n 1, 1) := by decide +kernel
theorem dX0_cut_18 : decode cX0_cut 18 = .ok (.getfield 25, 3) := by decide +kernel
theorem dX0_cut_21 : decode cX0_cut 21 = .ok (.if_icmp .ge 80, 3) := by decide +kernel
theorem dX0_cut_24 : decode cX0_cut 24 = .ok (.aload_n 1, 1) := by decide +kernel
theorem dX0_cut_25 : decode cX0_cut 25 = .ok (.getfield 30, 3) := by decide +kernel
theorem dX0_cut_28 : decode cX0_cut 28 = .ok (.iload_n 2, 1) := by decide +kernel
theorem dX0_cut_29 : decode cX0_cut 29 = .ok (.iaload, 1) := by decide +kernel
theorem dX0_cut_30 : decode cX0_cut 30 = .ok (.istore 4, 2) := by decide +kernel
theorem dX0_cut_32 : decode cX0_cut 32 = .ok (.iload 4, 2) := by decide +kernel
theorem dX0_cut_34 : decode cX0_cut 34 = .ok (.bipush 32, 2) := by decide +kernel
theorem dX0_cut_36 : decode cX0_cut 36 = .ok (.if_icmp .eq 10, 3) := by decide +kernel
theorem dX0_cut_39 : decode cX0_cut 39 = .ok (.iload 4, 2) := by decide +kernel
theorem dX0_cut_41 : decode cX0_cut 41 = .ok (.bipush 10, 2) := by decide +kernel
theorem dX0_cut_43 : decode cX0_cut 43 = .ok (.if_icmp .ne 9, 3) := by decide +kernel
theorem dX0_cut_46 : decode cX0_cut 46 = .ok (.iinc 2 1, 3) := by decide +kernel
theorem dX0_cut_49 : decode cX0_cut 49 = .ok (.goto 46, 3) := by decide +kernel
theorem dX0_cut_52 : decode cX0_cut 52 = .ok (.iload 4, 2) := by decide +kernel
theorem dX0_cut_54 : decode cX0_cut 54 = .ok (.invokestatic 33, 3) := by decide +kernel
theorem dX0_cut_57 : decode cX0_cut 57 = .ok (.ifCond .eq 13, 3) := by decide +kernel
theorem dX0_cut_60 : decode cX0_cut 60 = .ok (.aload_n 0, 1) := by decide +kernel
theorem dX0_cut_61 : decode cX0_cut 61 = .ok (.aload_n 1, 1) := by decide +kernel
theorem dX0_cut_62 : decode cX0_cut 62 = .ok (.iload_n 2, 1) := by decide +kernel
theorem dX0_cut_63 : decode cX0_cut 63 = .ok (.invokevirtual 37, 3) := by decide +kernel
theorem dX0_cut_66 : decode cX0_cut 66 = .ok (.istore_n 2, 1) := by decide +kernel
theorem dX0_cut_67 : decode cX0_cut 67 = .ok (.goto 28, 3) := by decide +kernel
theorem dX0_cut_70 : decode cX0_cut 70 = .ok (.iload 4, 2) := by decide +kernel
theorem dX0_cut_72 : decode cX0_cut 72 = .ok (.invokestatic 41, 3) := by decide +kernel
theorem dX0_cut_75 : decode cX0_cut 75 = .ok (.ifCond .eq 13, 3) := by decide +kernel
theorem dX0_cut_78 : decode cX0_cut 78 = .ok (.aload_n 0, 1) := by decide +kernel
theorem dX0_cut_79 : decode cX0_cut 79 = .ok (.aload_n 1, 1) := by decide +kernel
theorem dX0_cut_80 : decode cX0_cut 80 = .ok (.iload_n 2, 1) := by decide +kernel
theorem dX0_cut_81 : decode cX0_cut 81 = .ok (.invokevirtual 44, 3) := by decide +kernel
theorem dX0_cut_84 : decode cX0_cut 84 = .ok (.istore_n 2, 1) := by decide +kernel
theorem dX0_cut_85 : decode cX0_cut 85 = .ok (.goto 10, 3) := by decide +kernel
theorem dX0_cut_88 : decode cX0_cut 88 = .ok (.aload_n 0, 1) := by decide +kernel
theorem dX0_cut_89 : decode cX0_cut 89 = .ok (.aload_n 1, 1) := by decide +kernel
theorem dX0_cut_90 : decode cX0_cut 90 = .ok (.iload_n 2, 1) := by decide +kernel
theorem dX0_cut_91 : decode cX0_cut 91 = .ok (.invokevirtual 47, 3) := by decide +kernel
theorem dX0_cut_94 : decode cX0_cut 94 = .ok (.istore_n 2, 1) := by decide +kernel
theorem dX0_cut_95 : decode cX0_cut 95 = .ok (.iinc 3 1, 3) := by decide +kernel
theorem dX0_cut_98 : decode cX0_cut 98 = .ok (.goto (-89), 3) := by decide +kernel
theorem dX0_cut_101 : decode cX0_cut 101 = .ok (.aload_n 0, 1) := by decide +kernel
theorem dX0_cut_102 : decode cX0_cut 102 = .ok (.bipush 39, 2) := by decide +kernel
theorem dX0_cut_104 : decode cX0_cut 104 = .ok (.aload_n 1, 1) := by decide +kernel
theorem dX0_cut_105 : decode cX0_cut 105 = .ok (.getfield 25, 3) := by decide +kernel
theorem dX0_cut_108 : decode cX0_cut 108 = .ok (.iconst 0, 1) := by decide +kernel
theorem dX0_cut_109 : decode cX0_cut 109 = .ok (.invokevirtual 50, 3) := by decide +kernel
theorem dX0_cut_112 : decode cX0_cut 112 = .ok (.return_, 1) := by decide +kernel
theorem dX0_add_0 : decode cX0_add 0 = .ok (.aload_n 0, 1) := by decide +kernel
theorem dX0_add_1 : decode cX0_add 1 = .ok (.getfield 21, 3) := by decide +kernel
theorem dX0_add_4 : decode cX0_add 4 = .ok (.aload_n 0, 1) := by decide +kernel
theorem dX0_add_5 : decode cX0_add 5 = .ok (.getfield 9, 3) := by decide +kernel
theorem dX0_add_8 : decode cX0_add 8 = .ok (.arraylength, 1) := by decide +kernel
theorem dX0_add_9 : decode cX0_add 9 = .ok (.if_icmp .ge 43, 3) := by decide +kernel
theorem dX0_add_12 : decode cX0_add 12 = .ok (.aload_n 0, 1) := by decide +kernel
theorem dX0_add_13 : decode cX0_add 13 = .ok (.getfield 9, 3) := by decide +kernel
theorem dX0_add_16 : decode cX0_add 16 = .ok (.aload_n 0, 1) := by decide +kernel
theorem dX0_add_17 : decode cX0_add 17 = .ok (.getfield 21, 3) := by decide +kernel
theorem dX0_add_20 : decode cX0_add 20 = .ok (.iload_n 1, 1) := by decide +kernel
theorem dX0_add_21 : decode cX0_add 21 = .ok (.iastore, 1) := by decide +kernel
theorem dX0_add_22 : decode cX0_add 22 = .ok (.aload_n 0, 1) := by decide +kernel
theorem dX0_add_23 : decode cX0_add 23 = .ok (.getfield 15, 3) := by decide +kernel
theorem dX0_add_26 : decode cX0_add 26 = .ok (.aload_n 0, 1) := by decide +kernel
theorem dX0_add_27 : decode cX0_add 27 = .ok (.getfield 21, 3) := by decide +kernel
theorem dX0_add_30 : decode cX0_add 30 = .ok (.iload_n 2, 1) := by decide +kernel
theorem dX0_add_31 : decode cX0_add 31 = .ok (.iastore, 1) := by decide +kernel
theorem dX0_add_32 : decode cX0_add 32 = .ok (.aload_n 0, 1) := by decide +kernel
theorem dX0_add_33 : decode cX0_add 33 = .ok (.getfield 18, 3) := by decide +kernel
theorem dX0_add_36 : decode cX0_add 36 = .ok (.aload_n 0, 1) := by decide +kernel
theorem dX0_add_37 : decode cX0_add 37 = .ok (.getfield 21, 3) := by decide +kernel
theorem dX0_add_40 : decode cX0_add 40 = .ok (.iload_n 3, 1) := by decide +kernel
theorem dX0_add_41 : decode cX0_add 41 = .ok (.iastore, 1) := by decide +kernel
theorem dX0_add_42 : decode cX0_add 42 = .ok (.aload_n 0, 1) := by decide +kernel
theorem dX0_add_43 : decode cX0_add 43 = .ok (.dup, 1) := by decide +kernel
theorem dX0_add_44 : decode cX0_add 44 = .ok (.getfield 21, 3) := by decide +kernel
theorem dX0_add_47 : decode cX0_add 47 = .ok (.iconst 1, 1) := by decide +kernel
theorem dX0_add_48 : decode cX0_add 48 = .ok (.iadd, 1) := by decide +kernel
theorem dX0_add_49 : decode cX0_add 49 = .ok (.putfield 21, 3) := by decide +kernel
theorem dX0_add_52 : decode cX0_add 52 = .ok (.return_, 1) := by decide +kernel
theorem dX0_cutWord_0 : decode cX0_cutWord 0 = .ok (.iload_n 2, 1) := by decide +kernel
theorem dX0_cutWord_1 : decode cX0_cutWord 1 = .ok (.istore_n 3, 1) := by decide +kernel
theorem dX0_cutWord_2 : decode cX0_cutWord 2 = .ok (.iload_n 3, 1) := by decide +kernel
theorem dX0_cutWord_3 : decode cX0_cutWord 3 = .ok (.aload_n 1, 1) := by decide +kernel
theorem dX0_cutWord_4 : decode cX0_cutWord 4 = .ok (.getfield 25, 3) := by decide +kernel
theorem dX0_cutWord_7 : decode cX0_cutWord 7 = .ok (.if_icmp .ge 21, 3) := by decide +kernel
theorem dX0_cutWord_10 : decode cX0_cutWord 10 = .ok (.aload_n 1, 1) := by decide +kernel
theorem dX0_cutWord_11 : decode cX0_cutWord 11 = .ok (.getfield 30, 3) := by decide +kernel
theorem dX0_cutWord_14 : decode cX0_cutWord 14 = .ok (.iload_n 3, 1) := by decide +kernel
theorem dX0_cutWord_15 : decode cX0_cutWord 15 = .ok (.iaload, 1) := by decide +kernel
theorem dX0_cutWord_16 : decode cX0_cutWord 16 = .ok (.invokestatic 33, 3) := by decide +kernel
theorem dX0_cutWord_19 : decode cX0_cutWord 19 = .ok (.ifCond .eq 9, 3) := by decide +kernel
theorem dX0_cutWord_22 : decode cX0_cutWord 22 = .ok (.iinc 3 1, 3) := by decide +kernel
theorem dX0_cutWord_25 : decode cX0_cutWord 25 = .ok (.goto (-23), 3) := by decide +kernel
theorem dX0_cutWord_28 : decode cX0_cutWord 28 = .ok (.aload_n 0, 1) := by decide +kernel
theorem dX0_cutWord_29 : decode cX0_cutWord 29 = .ok (.aload_n 1, 1) := by decide +kernel
theorem dX0_cutWord_30 : decode cX0_cutWord 30 = .ok (.iload_n 2, 1) := by decide +kernel
theorem dX0_cutWord_31 : decode cX0_cutWord 31 = .ok (.iload_n 3, 1) := by decide +kernel
theorem dX0_cutWord_32 : decode cX0_cutWord 32 = .ok (.invokestatic 54, 3) := by decide +kernel
theorem dX0_cutWord_35 : decode cX0_cutWord 35 = .ok (.iload_n 2, 1) := by decide +kernel
theorem dX0_cutWord_36 : decode cX0_cutWord 36 = .ok (.iconst 0, 1) := by decide +kernel
theorem dX0_cutWord_37 : decode cX0_cutWord 37 = .ok (.invokevirtual 50, 3) := by decide +kernel
theorem dX0_cutWord_40 : decode cX0_cutWord 40 = .ok (.iload_n 3, 1) := by decide +kernel
theorem dX0_cutWord_41 : decode cX0_cutWord 41 = .ok (.ireturn, 1) := by decide +kernel
theorem dX0_cutNumber_0 : decode cX0_cutNumber 0 = .ok (.iconst 0, 1) := by decide +kernel
theorem dX0_cutNumber_1 : decode cX0_cutNumber 1 = .ok (.istore_n 3, 1) := by decide +kernel
theorem dX0_cutNumber_2 : decode cX0_cutNumber 2 = .ok (.iload_n 2, 1) := by decide +kernel
theorem dX0_cutNumber_3 : decode cX0_cutNumber 3 = .ok (.istore 4, 2) := by decide +kernel
theorem dX0_cutNumber_5 : decode cX0_cutNumber 5 = .ok (.iload 4, 2) := by decide +kernel
theorem dX0_cutNumber_7 : decode cX0_cutNumber 7 = .ok (.aload_n 1, 1) := by decide +kernel
theorem dX0_cutNumber_8 : decode cX0_cutNumber 8 = .ok (.getfield 25, 3) := by decide +kernel
theorem dX0_cutNumber_11 : decode cX0_cutNumber 11 = .ok (.if_icmp .ge 44, 3) := by decide +kernel
theorem dX0_cutNumber_14 : decode cX0_cutNumber 14 = .ok (.aload_n 1, 1) := by decide +kernel
theorem dX0_cutNumber_15 : decode cX0_cutNumber 15 = .ok (.getfield 30, 3) := by decide +kernel
theorem dX0_cutNumber_18 : decode cX0_cutNumber 18 = .ok (.iload 4, 2) := by decide +kernel
theorem dX0_cutNumber_20 : decode cX0_cutNumber 20 = .ok (.iaload, 1) := by decide +kernel
theorem dX0_cutNumber_21 : decode cX0_cutNumber 21 = .ok (.invokestatic 41, 3) := by decide +kernel
theorem dX0_cutNumber_24 : decode cX0_cutNumber 24 = .ok (.ifCond .eq 31, 3) := by decide +kernel
theorem dX0_cutNumber_27 : decode cX0_cutNumber 27 = .ok (.iload_n 3, 1) := by decide +kernel
theorem dX0_cutNumber_28 : decode cX0_cutNumber 28 = .ok (.bipush 10, 2) := by decide +kernel
theorem dX0_cutNumber_30 : decode cX0_cutNumber 30 = .ok (.imul, 1) := by decide +kernel
theorem dX0_cutNumber_31 : decode cX0_cutNumber 31 = .ok (.aload_n 1, 1) := by decide +kernel
theorem dX0_cutNumber_32 : decode cX0_cutNumber 32 = .ok (.getfield 30, 3) := by decide +kernel
theorem dX0_cutNumber_35 : decode cX0_cutNumber 35 = .ok (.iload 4, 2) := by decide +kernel
theorem dX0_cutNumber_37 : decode cX0_cutNumber 37 = .ok (.iaload, 1) := by decide +kernel
theorem dX0_cutNumber_38 : decode cX0_cutNumber 38 = .ok (.iadd, 1) := by decide +kernel
theorem dX0_cutNumber_39 : decode cX0_cutNumber 39 = .ok (.bipush 48, 2) := by decide +kernel
theorem dX0_cutNumber_41 : decode cX0_cutNumber 41 = .ok (.isub, 1) := by decide +kernel
theorem dX0_cutNumber_42 : decode cX0_cutNumber 42 = .ok (.sipush 10000, 3) := by decide +kernel
theorem dX0_cutNumber_45 : decode cX0_cutNumber 45 = .ok (.invokestatic 58, 3) := by decide +kernel
theorem dX0_cutNumber_48 : decode cX0_cutNumber 48 = .ok (.istore_n 3, 1) := by decide +kernel
theorem dX0_cutNumber_49 : decode cX0_cutNumber 49 = .ok (.iinc 4 1, 3) := by decide +kernel
theorem dX0_cutNumber_52 : decode cX0_cutNumber 52 = .ok (.goto (-47), 3) := by decide +kernel
theorem dX0_cutNumber_55 : decode cX0_cutNumber 55 = .ok (.aload_n 0, 1) := by decide +kernel
theorem dX0_cutNumber_56 : decode cX0_cutNumber 56 = .ok (.bipush 38, 2) := by decide +kernel
theorem dX0_cutNumber_58 : decode cX0_cutNumber 58 = .ok (.iload_n 2, 1) := by decide +kernel
theorem dX0_cutNumber_59 : decode cX0_cutNumber 59 = .ok (.iload_n 3, 1) := by decide +kernel
theorem dX0_cutNumber_60 : decode cX0_cutNumber 60 = .ok (.invokevirtual 50, 3) := by decide +kernel
theorem dX0_cutNumber_63 : decode cX0_cutNumber 63 = .ok (.iload 4, 2) := by decide +kernel
theorem dX0_cutNumber_65 : decode cX0_cutNumber 65 = .ok (.ireturn, 1) := by decide +kernel
theorem dX0_cutSign_0 : decode cX0_cutSign 0 = .ok (.bipush 40, 2) := by decide +kernel
theorem dX0_cutSign_2 : decode cX0_cutSign 2 = .ok (.istore_n 3, 1) := by decide +kernel
theorem dX0_cutSign_3 : decode cX0_cutSign 3 = .ok (.iconst 0, 1) := by decide +kernel
theorem dX0_cutSign_4 : decode cX0_cutSign 4 = .ok (.istore 4, 2) := by decide +kernel
theorem dX0_cutSign_6 : decode cX0_cutSign 6 = .ok (.iload 4, 2) := by decide +kernel
theorem dX0_cutSign_8 : decode cX0_cutSign 8 = .ok (.ldc 64, 2) := by decide +kernel
theorem dX0_cutSign_10 : decode cX0_cutSign 10 = .ok (.invokevirtual 66, 3) := by decide +kernel
theorem dX0_cutSign_13 : decode cX0_cutSign 13 = .ok (.if_icmp .ge 31, 3) := by decide +kernel
theorem dX0_cutSign_16 : decode cX0_cutSign 16 = .ok (.ldc 64, 2) := by decide +kernel
theorem dX0_cutSign_18 : decode cX0_cutSign 18 = .ok (.iload 4, 2) := by decide +kernel
theorem dX0_cutSign_20 : decode cX0_cutSign 20 = .ok (.invokevirtual 71, 3) := by decide +kernel
theorem dX0_cutSign_23 : decode cX0_cutSign 23 = .ok (.aload_n 1, 1) := by decide +kernel
theorem dX0_cutSign_24 : decode cX0_cutSign 24 = .ok (.getfield 30, 3) := by decide +kernel
theorem dX0_cutSign_27 : decode cX0_cutSign 27 = .ok (.iload_n 2, 1) := by decide +kernel
theorem dX0_cutSign_28 : decode cX0_cutSign 28 = .ok (.iaload, 1) := by decide +kernel
theorem dX0_cutSign_29 : decode cX0_cutSign 29 = .ok (.if_icmp .ne 9, 3) := by decide +kernel
theorem dX0_cutSign_32 : decode cX0_cutSign 32 = .ok (.bipush 24, 2) := by decide +kernel
theorem dX0_cutSign_34 : decode cX0_cutSign 34 = .ok (.iload 4, 2) := by decide +kernel
theorem dX0_cutSign_36 : decode cX0_cutSign 36 = .ok (.iadd, 1) := by decide +kernel
theorem dX0_cutSign_37 : decode cX0_cutSign 37 = .ok (.istore_n 3, 1) := by decide +kernel
theorem dX0_cutSign_38 : decode cX0_cutSign 38 = .ok (.iinc 4 1, 3) := by decide +kernel
theorem dX0_cutSign_41 : decode cX0_cutSign 41 = .ok (.goto (-35), 3) := by decide +kernel
theorem dX0_cutSign_44 : decode cX0_cutSign 44 = .ok (.iload_n 2, 1) := by decide +kernel
theorem dX0_cutSign_45 : decode cX0_cutSign 45 = .ok (.iconst 1, 1) := by decide +kernel
theorem dX0_cutSign_46 : decode cX0_cutSign 46 = .ok (.iadd, 1) := by decide +kernel
theorem dX0_cutSign_47 : decode cX0_cutSign 47 = .ok (.istore 4, 2) := by decide +kernel
theorem dX0_cutSign_49 : decode cX0_cutSign 49 = .ok (.iload_n 3, 1) := by decide +kernel
theorem dX0_cutSign_50 : decode cX0_cutSign 50 = .ok (.bipush 24, 2) := by decide +kernel
theorem dX0_cutSign_52 : decode cX0_cutSign 52 = .ok (.if_icmp .eq 9, 3) := by decide +kernel
theorem dX0_cutSign_55 : decode cX0_cutSign 55 = .ok (.iload_n 3, 1) := by decide +kernel
theorem dX0_cutSign_56 : decode cX0_cutSign 56 = .ok (.bipush 25, 2) := by decide +kernel
theorem dX0_cutSign_58 : decode cX0_cutSign 58 = .ok (.if_icmp .ne 41, 3) := by decide +kernel
theorem dX0_cutSign_61 : decode cX0_cutSign 61 = .ok (.iload 4, 2) := by decide +kernel
theorem dX0_cutSign_63 : decode cX0_cutSign 63 = .ok (.aload_n 1, 1) := by decide +kernel
theorem dX0_cutSign_64 : decode cX0_cutSign 64 = .ok (.getfield 25, 3) := by decide +kernel
theorem dX0_cutSign_67 : decode cX0_cutSign 67 = .ok (.if_icmp .ge 32, 3) := by decide +kernel
theorem dX0_cutSign_70 : decode cX0_cutSign 70 = .ok (.aload_n 1, 1) := by decide +kernel
theorem dX0_cutSign_71 : decode cX0_cutSign 71 = .ok (.getfield 30, 3) := by decide +kernel
theorem dX0_cutSign_74 : decode cX0_cutSign 74 = .ok (.iload 4, 2) := by decide +kernel
theorem dX0_cutSign_76 : decode cX0_cutSign 76 = .ok (.iaload, 1) := by decide +kernel
theorem dX0_cutSign_77 : decode cX0_cutSign 77 = .ok (.bipush 61, 2) := by decide +kernel
theorem dX0_cutSign_79 : decode cX0_cutSign 79 = .ok (.if_icmp .ne 20, 3) := by decide +kernel
theorem dX0_cutSign_82 : decode cX0_cutSign 82 = .ok (.iload_n 3, 1) := by decide +kernel
theorem dX0_cutSign_83 : decode cX0_cutSign 83 = .ok (.bipush 24, 2) := by decide +kernel
theorem dX0_cutSign_85 : decode cX0_cutSign 85 = .ok (.if_icmp .ne 8, 3) := by decide +kernel
theorem dX0_cutSign_88 : decode cX0_cutSign 88 = .ok (.bipush 36, 2) := by decide +kernel
theorem dX0_cutSign_90 : decode cX0_cutSign 90 = .ok (.goto 5, 3) := by decide +kernel
theorem dX0_cutSign_93 : decode cX0_cutSign 93 = .ok (.bipush 37, 2) := by decide +kernel
theorem dX0_cutSign_95 : decode cX0_cutSign 95 = .ok (.istore_n 3, 1) := by decide +kernel
theorem dX0_cutSign_96 : decode cX0_cutSign 96 = .ok (.iinc 4 1, 3) := by decide +kernel
theorem dX0_cutSign_99 : decode cX0_cutSign 99 = .ok (.aload_n 0, 1) := by decide +kernel
theorem dX0_cutSign_100 : decode cX0_cutSign 100 = .ok (.iload_n 3, 1) := by decide +kernel
theorem dX0_cutSign_101 : decode cX0_cutSign 101 = .ok (.iload_n 2, 1) := by decide +kernel
theorem dX0_cutSign_102 : decode cX0_cutSign 102 = .ok (.iconst 0, 1) := by decide +kernel
theorem dX0_cutSign_103 : decode cX0_cutSign 103 = .ok (.invokevirtual 50, 3) := by decide +kernel
theorem dX0_cutSign_106 : decode cX0_cutSign 106 = .ok (.iload 4, 2) := by decide +kernel
theorem dX0_cutSign_108 : decode cX0_cutSign 108 = .ok (.ireturn, 1) := by decide +kernel
theorem dX0_wordOf_0 : decode cX0_wordOf 0 = .ok (.iconst 0, 1) := by decide +kernel
theorem dX0_wordOf_1 : decode cX0_wordOf 1 = .ok (.istore_n 3, 1) := by decide +kernel
theorem dX0_wordOf_2 : decode cX0_wordOf 2 = .ok (.iload_n 1, 1) := by decide +kernel
theorem dX0_wordOf_3 : decode cX0_wordOf 3 = .ok (.istore 4, 2) := by decide +kernel
theorem dX0_wordOf_5 : decode cX0_wordOf 5 = .ok (.iconst 0, 1) := by decide +kernel
theorem dX0_wordOf_6 : decode cX0_wordOf 6 = .ok (.istore 5, 2) := by decide +kernel
theorem dX0_wordOf_8 : decode cX0_wordOf 8 = .ok (.iload 5, 2) := by decide +kernel
theorem dX0_wordOf_10 : decode cX0_wordOf 10 = .ok (.ldc 75, 2) := by decide +kernel
theorem dX0_wordOf_12 : decode cX0_wordOf 12 = .ok (.invokevirtual 66, 3) := by decide +kernel
theorem dX0_wordOf_15 : decode cX0_wordOf 15 = .ok (.if_icmp .ge 76, 3) := by decide +kernel
theorem dX0_wordOf_18 : decode cX0_wordOf 18 = .ok (.ldc 75, 2) := by decide +kernel
theorem dX0_wordOf_20 : decode cX0_wordOf 20 = .ok (.iload 5, 2) := by decide +kernel
theorem dX0_wordOf_22 : decode cX0_wordOf 22 = .ok (.invokevirtual 71, 3) := by decide +kernel
theorem dX0_wordOf_25 : decode cX0_wordOf 25 = .ok (.istore 6, 2) := by decide +kernel
theorem dX0_wordOf_27 : decode cX0_wordOf 27 = .ok (.iload 6, 2) := by decide +kernel
theorem dX0_wordOf_29 : decode cX0_wordOf 29 = .ok (.bipush 32, 2) := by decide +kernel
theorem dX0_wordOf_31 : decode cX0_wordOf 31 = .ok (.if_icmp .ne 20, 3) := by decide +kernel
theorem dX0_wordOf_34 : decode cX0_wordOf 34 = .ok (.iload 4, 2) := by decide +kernel
theorem dX0_wordOf_36 : decode cX0_wordOf 36 = .ok (.iload_n 2, 1) := by decide +kernel
theorem dX0_wordOf_37 : decode cX0_wordOf 37 = .ok (.if_icmp .ne 5, 3) := by decide +kernel
theorem dX0_wordOf_40 : decode cX0_wordOf 40 = .ok (.iload_n 3, 1) := by decide +kernel
theorem dX0_wordOf_41 : decode cX0_wordOf 41 = .ok (.ireturn, 1) := by decide +kernel
theorem dX0_wordOf_42 : decode cX0_wordOf 42 = .ok (.iinc 3 1, 3) := by decide +kernel
theorem dX0_wordOf_45 : decode cX0_wordOf 45 = .ok (.iload_n 1, 1) := by decide +kernel
theorem dX0_wordOf_46 : decode cX0_wordOf 46 = .ok (.istore 4, 2) := by decide +kernel
theorem dX0_wordOf_48 : decode cX0_wordOf 48 = .ok (.goto 37, 3) := by decide +kernel
theorem dX0_wordOf_51 : decode cX0_wordOf 51 = .ok (.iload 4, 2) := by decide +kernel
theorem dX0_wordOf_53 : decode cX0_wordOf 53 = .ok (.iconst (-1), 1) := by decide +kernel
theorem dX0_wordOf_54 : decode cX0_wordOf 54 = .ok (.if_icmp .eq 31, 3) := by decide +kernel
theorem dX0_wordOf_57 : decode cX0_wordOf 57 = .ok (.iload 4, 2) := by decide +kernel
theorem dX0_wordOf_59 : decode cX0_wordOf 59 = .ok (.iload_n 2, 1) := by decide +kernel
theorem dX0_wordOf_60 : decode cX0_wordOf 60 = .ok (.if_icmp .ge 22, 3) := by decide +kernel
theorem dX0_wordOf_63 : decode cX0_wordOf 63 = .ok (.aload_n 0, 1) := by decide +kernel
theorem dX0_wordOf_64 : decode cX0_wordOf 64 = .ok (.getfield 30, 3) := by decide +kernel
theorem dX0_wordOf_67 : decode cX0_wordOf 67 = .ok (.iload 4, 2) := by decide +kernel
theorem dX0_wordOf_69 : decode cX0_wordOf 69 = .ok (.iaload, 1) := by decide +kernel
theorem dX0_wordOf_70 : decode cX0_wordOf 70 = .ok (.iload 6, 2) := by decide +kernel
theorem dX0_wordOf_72 : decode cX0_wordOf 72 = .ok (.if_icmp .ne 10, 3) := by decide +kernel
theorem dX0_wordOf_75 : decode cX0_wordOf 75 = .ok (.iload 4, 2) := by decide +kernel
theorem dX0_wordOf_77 : decode cX0_wordOf 77 = .ok (.iconst 1, 1) := by decide +kernel
theorem dX0_wordOf_78 : decode cX0_wordOf 78 = .ok (.iadd, 1) := by decide +kernel
theorem dX0_wordOf_79 : decode cX0_wordOf 79 = .ok (.goto 4, 3) := by decide +kernel
theorem dX0_wordOf_82 : decode cX0_wordOf 82 = .ok (.iconst (-1), 1) := by decide +kernel
theorem dX0_wordOf_83 : decode cX0_wordOf 83 = .ok (.istore 4, 2) := by decide +kernel
theorem dX0_wordOf_85 : decode cX0_wordOf 85 = .ok (.iinc 5 1, 3) := by decide +kernel
theorem dX0_wordOf_88 : decode cX0_wordOf 88 = .ok (.goto (-80), 3) := by decide +kernel
theorem dX0_wordOf_91 : decode cX0_wordOf 91 = .ok (.bipush 40, 2) := by decide +kernel
theorem dX0_wordOf_93 : decode cX0_wordOf 93 = .ok (.ireturn, 1) := by decide +kernel
theorem dX0_isLetter_0 : decode cX0_isLetter 0 = .ok (.iload_n 0, 1) := by decide +kernel
theorem dX0_isLetter_1 : decode cX0_isLetter 1 = .ok (.bipush 97, 2) := by decide +kernel
theorem dX0_isLetter_3 : decode cX0_isLetter 3 = .ok (.if_icmp .lt 9, 3) := by decide +kernel
theorem dX0_isLetter_6 : decode cX0_isLetter 6 = .ok (.iload_n 0, 1) := by decide +kernel
theorem dX0_isLetter_7 : decode cX0_isLetter 7 = .ok (.bipush 122, 2) := by decide +kernel
theorem dX0_isLetter_9 : decode cX0_isLetter 9 = .ok (.if_icmp .le 15, 3) := by decide +kernel
theorem dX0_isLetter_12 : decode cX0_isLetter 12 = .ok (.iload_n 0, 1) := by decide +kernel
theorem dX0_isLetter_13 : decode cX0_isLetter 13 = .ok (.bipush 65, 2) := by decide +kernel
theorem dX0_isLetter_15 : decode cX0_isLetter 15 = .ok (.if_icmp .lt 13, 3) := by decide +kernel
theorem dX0_isLetter_18 : decode cX0_isLetter 18 = .ok (.iload_n 0, 1) := by decide +kernel
theorem dX0_isLetter_19 : decode cX0_isLetter 19 = .ok (.bipush 90, 2) := by decide +kernel
theorem dX0_isLetter_21 : decode cX0_isLetter 21 = .ok (.if_icmp .gt 7, 3) := by decide +kernel
theorem dX0_isLetter_24 : decode cX0_isLetter 24 = .ok (.iconst 1, 1) := by decide +kernel
theorem dX0_isLetter_25 : decode cX0_isLetter 25 = .ok (.goto 4, 3) := by decide +kernel
theorem dX0_isLetter_28 : decode cX0_isLetter 28 = .ok (.iconst 0, 1) := by decide +kernel
theorem dX0_isLetter_29 : decode cX0_isLetter 29 = .ok (.ireturn, 1) := by decide +kernel
theorem dX0_isDigit_0 : decode cX0_isDigit 0 = .ok (.iload_n 0, 1) := by decide +kernel
theorem dX0_isDigit_1 : decode cX0_isDigit 1 = .ok (.bipush 48, 2) := by decide +kernel
theorem dX0_isDigit_3 : decode cX0_isDigit 3 = .ok (.if_icmp .lt 13, 3) := by decide +kernel
theorem dX0_isDigit_6 : decode cX0_isDigit 6 = .ok (.iload_n 0, 1) := by decide +kernel
theorem dX0_isDigit_7 : decode cX0_isDigit 7 = .ok (.bipush 57, 2) := by decide +kernel
theorem dX0_isDigit_9 : decode cX0_isDigit 9 = .ok (.if_icmp .gt 7, 3) := by decide +kernel
theorem dX0_isDigit_12 : decode cX0_isDigit 12 = .ok (.iconst 1, 1) := by decide +kernel
theorem dX0_isDigit_13 : decode cX0_isDigit 13 = .ok (.goto 4, 3) := by decide +kernel
theorem dX0_isDigit_16 : decode cX0_isDigit 16 = .ok (.iconst 0, 1) := by decide +kernel
theorem dX0_isDigit_17 : decode cX0_isDigit 17 = .ok (.ireturn, 1) := by decide +kernel
theorem dX1_init_0 : decode cX1_init 0 = .ok (.aload_n 0, 1) := by decide +kernel
theorem dX1_init_1 : decode cX1_init 1 = .ok (.invokespecial 3, 3) := by decide +kernel
theorem dX1_init_4 : decode cX1_init 4 = .ok (.aload_n 0, 1) := by decide +kernel
theorem dX1_init_5 : decode cX1_init 5 = .ok (.iload_n 1, 1) := by decide +kernel
theorem dX1_init_6 : decode cX1_init 6 = .ok (.putfield 9, 3) := by decide +kernel
theorem dX1_init_9 : decode cX1_init 9 = .ok (.aload_n 0, 1) := by decide +kernel
theorem dX1_init_10 : decode cX1_init 10 = .ok (.iload_n 2, 1) := by decide +kernel
theorem dX1_init_11 : decode cX1_init 11 = .ok (.putfield 15, 3) := by decide +kernel
theorem dX1_init_14 : decode cX1_init 14 = .ok (.aload_n 0, 1) := by decide +kernel
theorem dX1_init_15 : decode cX1_init 15 = .ok (.iload_n 1, 1) := by decide +kernel
theorem dX1_init_16 : decode cX1_init 16 = .ok (.iload_n 2, 1) := by decide +kernel
theorem dX1_init_17 : decode cX1_init 17 = .ok (.imul, 1) := by decide +kernel
theorem dX1_init_18 : decode cX1_init 18 = .ok (.putfield 18, 3) := by decide +kernel
theorem dX1_init_21 : decode cX1_init 21 = .ok (.aload_n 0, 1) := by decide +kernel
theorem dX1_init_22 : decode cX1_init 22 = .ok (.lconst 1, 1) := by decide +kernel
theorem dX1_init_23 : decode cX1_init 23 = .ok (.aload_n 0, 1) := by decide +kernel
theorem dX1_init_24 : decode cX1_init 24 = .ok (.getfield 18, 3) := by decide +kernel
theorem dX1_init_27 : decode cX1_init 27 = .ok (.lshl, 1) := by decide +kernel
theorem dX1_init_28 : decode cX1_init 28 = .ok (.lconst 1, 1) := by decide +kernel
theorem dX1_init_29 : decode cX1_init 29 = .ok (.lsub, 1) := by decide +kernel
theorem dX1_init_30 : decode cX1_init 30 = .ok (.putfield 21, 3) := by decide +kernel
theorem dX1_init_33 : decode cX1_init 33 = .ok (.lconst 0, 1) := by decide +kernel
theorem dX1_init_34 : decode cX1_init 34 = .ok (.lstore_n 3, 1) := by decide +kernel
theorem dX1_init_35 : decode cX1_init 35 = .ok (.iconst 0, 1) := by decide +kernel
theorem dX1_init_36 : decode cX1_init 36 = .ok (.istore 5, 2) := by decide +kernel
theorem dX1_init_38 : decode cX1_init 38 = .ok (.iload 5, 2) := by decide +kernel
theorem dX1_init_40 : decode cX1_init 40 = .ok (.iload_n 2, 1) := by decide +kernel
theorem dX1_init_41 : decode cX1_init 41 = .ok (.if_icmp .ge 18, 3) := by decide +kernel
theorem dX1_init_44 : decode cX1_init 44 = .ok (.lload_n 3, 1) := by decide +kernel
theorem dX1_init_45 : decode cX1_init 45 = .ok (.lconst 1, 1) := by decide +kernel
theorem dX1_init_46 : decode cX1_init 46 = .ok (.iload 5, 2) := by decide +kernel
theorem dX1_init_48 : decode cX1_init 48 = .ok (.iload_n 1, 1) := by decide +kernel
theorem dX1_init_49 : decode cX1_init 49 = .ok (.imul, 1) := by decide +kernel
theorem dX1_init_50 : decode cX1_init 50 = .ok (.lshl, 1) := by decide +kernel
theorem dX1_init_51 : decode cX1_init 51 = .ok (.lor, 1) := by decide +kernel
theorem dX1_init_52 : decode cX1_init 52 = .ok (.lstore_n 3, 1) := by decide +kernel
theorem dX1_init_53 : decode cX1_init 53 = .ok (.iinc 5 1, 3) := by decide +kernel
theorem dX1_init_56 : decode cX1_init 56 = .ok (.goto (-18), 3) := by decide +kernel
theorem dX1_init_59 : decode cX1_init 59 = .ok (.aload_n 0, 1) := by decide +kernel
theorem dX1_init_60 : decode cX1_init 60 = .ok (.lload_n 3, 1) := by decide +kernel
theorem dX1_init_61 : decode cX1_init 61 = .ok (.putfield 25, 3) := by decide +kernel
theorem dX1_init_64 : decode cX1_init 64 = .ok (.aload_n 0, 1) := by decide +kernel
theorem dX1_init_65 : decode cX1_init 65 = .ok (.lload_n 3, 1) := by decide +kernel
theorem dX1_init_66 : decode cX1_init 66 = .ok (.iload_n 1, 1) := by decide +kernel
theorem dX1_init_67 : decode cX1_init 67 = .ok (.iconst 1, 1) := by decide +kernel
theorem dX1_init_68 : decode cX1_init 68 = .ok (.isub, 1) := by decide +kernel
theorem dX1_init_69 : decode cX1_init 69 = .ok (.lshl, 1) := by decide +kernel
theorem dX1_init_70 : decode cX1_init 70 = .ok (.putfield 28, 3) := by decide +kernel
theorem dX1_init_73 : decode cX1_init 73 = .ok (.lconst 1, 1) := by decide +kernel
theorem dX1_init_74 : decode cX1_init 74 = .ok (.iload_n 1, 1) := by decide +kernel
theorem dX1_init_75 : decode cX1_init 75 = .ok (.lshl, 1) := by decide +kernel
theorem dX1_init_76 : decode cX1_init 76 = .ok (.lconst 1, 1) := by decide +kernel
theorem dX1_init_77 : decode cX1_init 77 = .ok (.lsub, 1) := by decide +kernel
theorem dX1_init_78 : decode cX1_init 78 = .ok (.lstore 5, 2) := by decide +kernel
theorem dX1_init_80 : decode cX1_init 80 = .ok (.aload_n 0, 1) := by decide +kernel
theorem dX1_init_81 : decode cX1_init 81 = .ok (.aload_n 0, 1) := by decide +kernel
theorem dX1_init_82 : decode cX1_init 82 = .ok (.getfield 25, 3) := by decide +kernel
theorem dX1_init_85 : decode cX1_init 85 = .ok (.aload_n 0, 1) := by decide +kernel
theorem dX1_init_86 : decode cX1_init 86 = .ok (.getfield 28, 3) := by decide +kernel
theorem dX1_init_89 : decode cX1_init 89 = .ok (.lor, 1) := by decide +kernel
theorem dX1_init_90 : decode cX1_init 90 = .ok (.lload 5, 2) := by decide +kernel
theorem dX1_init_92 : decode cX1_init 92 = .ok (.lor, 1) := by decide +kernel
theorem dX1_init_93 : decode cX1_init 93 = .ok (.lload 5, 2) := by decide +kernel
theorem dX1_init_95 : decode cX1_init 95 = .ok (.aload_n 0, 1) := by decide +kernel
theorem dX1_init_96 : decode cX1_init 96 = .ok (.getfield 18, 3) := by decide +kernel
theorem dX1_init_99 : decode cX1_init 99 = .ok (.iload_n 1, 1) := by decide +kernel
theorem dX1_init_100 : decode cX1_init 100 = .ok (.isub, 1) := by decide +kernel
theorem dX1_init_101 : decode cX1_init 101 = .ok (.lshl, 1) := by decide +kernel
theorem dX1_init_102 : decode cX1_init 102 = .ok (.lor, 1) := by decide +kernel
theorem dX1_init_103 : decode cX1_init 103 = .ok (.putfield 31, 3) := by decide +kernel
theorem dX1_init_106 : decode cX1_init 106 = .ok (.aload_n 0, 1) := by decide +kernel
theorem dX1_init_107 : decode cX1_init 107 = .ok (.aload_n 0, 1) := by decide +kernel
theorem dX1_init_108 : decode cX1_init 108 = .ok (.getfield 18, 3) := by decide +kernel
theorem dX1_init_111 : decode cX1_init 111 = .ok (.newarray .long, 2) := by decide +kernel
theorem dX1_init_113 : decode cX1_init 113 = .ok (.putfield 34, 3) := by decide +kernel
theorem dX1_init_116 : decode cX1_init 116 = .ok (.iconst 0, 1) := by decide +kernel
theorem dX1_init_117 : decode cX1_init 117 = .ok (.istore 7, 2) := by decide +kernel
theorem dX1_init_119 : decode cX1_init 119 = .ok (.iload 7, 2) := by decide +kernel
theorem dX1_init_121 : decode cX1_init 121 = .ok (.aload_n 0, 1) := by decide +kernel
theorem dX1_init_122 : decode cX1_init 122 = .ok (.getfield 18, 3) := by decide +kernel
theorem dX1_init_125 : decode cX1_init 125 = .ok (.if_icmp .ge 24, 3) := by decide +kernel
theorem dX1_init_128 : decode cX1_init 128 = .ok (.aload_n 0, 1) := by decide +kernel
theorem dX1_init_129 : decode cX1_init 129 = .ok (.getfield 34, 3) := by decide +kernel
theorem dX1_init_132 : decode cX1_init 132 = .ok (.iload 7, 2) := by decide +kernel
theorem dX1_init_134 : decode cX1_init 134 = .ok (.aload_n 0, 1) := by decide +kernel
theorem dX1_init_135 : decode cX1_init 135 = .ok (.lconst 1, 1) := by decide +kernel
theorem dX1_init_136 : decode cX1_init 136 = .ok (.iload 7, 2) := by decide +kernel
theorem dX1_init_138 : decode cX1_init 138 = .ok (.lshl, 1) := by decide +kernel
theorem dX1_init_139 : decode cX1_init 139 = .ok (.invokevirtual 38, 3) := by decide +kernel
theorem dX1_init_142 : decode cX1_init 142 = .ok (.lastore, 1) := by decide +kernel
theorem dX1_init_143 : decode cX1_init 143 = .ok (.iinc 7 1, 3) := by decide +kernel
theorem dX1_init_146 : decode cX1_init 146 = .ok (.goto (-27), 3) := by decide +kernel
theorem dX1_init_149 : decode cX1_init 149 = .ok (.return_, 1) := by decide +kernel
theorem dX1_holds_0 : decode cX1_holds 0 = .ok (.iload_n 1, 1) := by decide +kernel
theorem dX1_holds_1 : decode cX1_holds 1 = .ok (.ifCond .lt 15, 3) := by decide +kernel
theorem dX1_holds_4 : decode cX1_holds 4 = .ok (.iload_n 1, 1) := by decide +kernel
theorem dX1_holds_5 : decode cX1_holds 5 = .ok (.aload_n 0, 1) := by decide +kernel
theorem dX1_holds_6 : decode cX1_holds 6 = .ok (.getfield 18, 3) := by decide +kernel
theorem dX1_holds_9 : decode cX1_holds 9 = .ok (.if_icmp .ge 7, 3) := by decide +kernel
theorem dX1_holds_12 : decode cX1_holds 12 = .ok (.iconst 1, 1) := by decide +kernel
theorem dX1_holds_13 : decode cX1_holds 13 = .ok (.goto 4, 3) := by decide +kernel
theorem dX1_holds_16 : decode cX1_holds 16 = .ok (.iconst 0, 1) := by decide +kernel
theorem dX1_holds_17 : decode cX1_holds 17 = .ok (.ireturn, 1) := by decide +kernel
theorem dX1_cellAt_0 : decode cX1_cellAt 0 = .ok (.iload_n 1, 1) := by decide +kernel
theorem dX1_cellAt_1 : decode cX1_cellAt 1 = .ok (.ifCond .lt 34, 3) := by decide +kernel
theorem dX1_cellAt_4 : decode cX1_cellAt 4 = .ok (.iload_n 1, 1) := by decide +kernel
theorem dX1_cellAt_5 : decode cX1_cellAt 5 = .ok (.aload_n 0, 1) := by decide +kernel
theorem dX1_cellAt_6 : decode cX1_cellAt 6 = .ok (.getfield 9, 3) := by decide +kernel
theorem dX1_cellAt_9 : decode cX1_cellAt 9 = .ok (.if_icmp .ge 26, 3) := by decide +kernel
theorem dX1_cellAt_12 : decode cX1_cellAt 12 = .ok (.iload_n 2, 1) := by decide +kernel
theorem dX1_cellAt_13 : decode cX1_cellAt 13 = .ok (.ifCond .lt 22, 3) := by decide +kernel
theorem dX1_cellAt_16 : decode cX1_cellAt 16 = .ok (.iload_n 2, 1) := by decide +kernel
theorem dX1_cellAt_17 : decode cX1_cellAt 17 = .ok (.aload_n 0, 1) := by decide +kernel
theorem dX1_cellAt_18 : decode cX1_cellAt 18 = .ok (.getfield 15, 3) := by decide +kernel
theorem dX1_cellAt_21 : decode cX1_cellAt 21 = .ok (.if_icmp .ge 14, 3) := by decide +kernel
theorem dX1_cellAt_24 : decode cX1_cellAt 24 = .ok (.iload_n 1, 1) := by decide +kernel
theorem dX1_cellAt_25 : decode cX1_cellAt 25 = .ok (.aload_n 0, 1) := by decide +kernel
theorem dX1_cellAt_26 : decode cX1_cellAt 26 = .ok (.getfield 9, 3) := by decide +kernel
theorem dX1_cellAt_29 : decode cX1_cellAt 29 = .ok (.iload_n 2, 1) := by decide +kernel
theorem dX1_cellAt_30 : decode cX1_cellAt 30 = .ok (.imul, 1) := by decide +kernel
theorem dX1_cellAt_31 : decode cX1_cellAt 31 = .ok (.iadd, 1) := by decide +kernel
theorem dX1_cellAt_32 : decode cX1_cellAt 32 = .ok (.goto 4, 3) := by decide +kernel
theorem dX1_cellAt_35 : decode cX1_cellAt 35 = .ok (.iconst (-1), 1) := by decide +kernel
theorem dX1_cellAt_36 : decode cX1_cellAt 36 = .ok (.ireturn, 1) := by decide +kernel
theorem dX1_cellBeside_0 : decode cX1_cellBeside 0 = .ok (.aload_n 0, 1) := by decide +kernel
theorem dX1_cellBeside_1 : decode cX1_cellBeside 1 = .ok (.iload_n 1, 1) := by decide +kernel
theorem dX1_cellBeside_2 : decode cX1_cellBeside 2 = .ok (.aload_n 0, 1) := by decide +kernel
theorem dX1_cellBeside_3 : decode cX1_cellBeside 3 = .ok (.getfield 9, 3) := by decide +kernel
theorem dX1_cellBeside_6 : decode cX1_cellBeside 6 = .ok (.irem, 1) := by decide +kernel
theorem dX1_cellBeside_7 : decode cX1_cellBeside 7 = .ok (.iload_n 2, 1) := by decide +kernel
theorem dX1_cellBeside_8 : decode cX1_cellBeside 8 = .ok (.iadd, 1) := by decide +kernel
theorem dX1_cellBeside_9 : decode cX1_cellBeside 9 = .ok (.iload_n 1, 1) := by decide +kernel
theorem dX1_cellBeside_10 : decode cX1_cellBeside 10 = .ok (.aload_n 0, 1) := by decide +kernel
theorem dX1_cellBeside_11 : decode cX1_cellBeside 11 = .ok (.getfield 9, 3) := by decide +kernel
theorem dX1_cellBeside_14 : decode cX1_cellBeside 14 = .ok (.idiv, 1) := by decide +kernel
theorem dX1_cellBeside_15 : decode cX1_cellBeside 15 = .ok (.iload_n 3, 1) := by decide +kernel
theorem dX1_cellBeside_16 : decode cX1_cellBeside 16 = .ok (.iadd, 1) := by decide +kernel
theorem dX1_cellBeside_17 : decode cX1_cellBeside 17 = .ok (.invokevirtual 42, 3) := by decide +kernel
theorem dX1_cellBeside_20 : decode cX1_cellBeside 20 = .ok (.ireturn, 1) := by decide +kernel
theorem dX1_sidesOf_0 : decode cX1_sidesOf 0 = .ok (.lload_n 1, 1) := by decide +kernel
theorem dX1_sidesOf_1 : decode cX1_sidesOf 1 = .ok (.aload_n 0, 1) := by decide +kernel
theorem dX1_sidesOf_2 : decode cX1_sidesOf 2 = .ok (.getfield 28, 3) := by decide +kernel
theorem dX1_sidesOf_5 : decode cX1_sidesOf 5 = .ok (.ldc2_w 46, 3) := by decide +kernel
theorem dX1_sidesOf_8 : decode cX1_sidesOf 8 = .ok (.lxor, 1) := by decide +kernel
theorem dX1_sidesOf_9 : decode cX1_sidesOf 9 = .ok (.land, 1) := by decide +kernel
theorem dX1_sidesOf_10 : decode cX1_sidesOf 10 = .ok (.iconst 1, 1) := by decide +kernel
theorem dX1_sidesOf_11 : decode cX1_sidesOf 11 = .ok (.lshl, 1) := by decide +kernel
theorem dX1_sidesOf_12 : decode cX1_sidesOf 12 = .ok (.lload_n 1, 1) := by decide +kernel
theorem dX1_sidesOf_13 : decode cX1_sidesOf 13 = .ok (.aload_n 0, 1) := by decide +kernel
theorem dX1_sidesOf_14 : decode cX1_sidesOf 14 = .ok (.getfield 25, 3) := by decide +kernel
theorem dX1_sidesOf_17 : decode cX1_sidesOf 17 = .ok (.ldc2_w 46, 3) := by decide +kernel
theorem dX1_sidesOf_20 : decode cX1_sidesOf 20 = .ok (.lxor, 1) := by decide +kernel
theorem dX1_sidesOf_21 : decode cX1_sidesOf 21 = .ok (.land, 1) := by decide +kernel
theorem dX1_sidesOf_22 : decode cX1_sidesOf 22 = .ok (.iconst 1, 1) := by decide +kernel
theorem dX1_sidesOf_23 : decode cX1_sidesOf 23 = .ok (.lushr, 1) := by decide +kernel
theorem dX1_sidesOf_24 : decode cX1_sidesOf 24 = .ok (.lor, 1) := by decide +kernel
theorem dX1_sidesOf_25 : decode cX1_sidesOf 25 = .ok (.lstore_n 3, 1) := by decide +kernel
theorem dX1_sidesOf_26 : decode cX1_sidesOf 26 = .ok (.lload_n 3, 1) := by decide +kernel
theorem dX1_sidesOf_27 : decode cX1_sidesOf 27 = .ok (.lload_n 1, 1) := by decide +kernel
theorem dX1_sidesOf_28 : decode cX1_sidesOf 28 = .ok (.aload_n 0, 1) := by decide +kernel
theorem dX1_sidesOf_29 : decode cX1_sidesOf 29 = .ok (.getfield 9, 3) := by decide +kernel
theorem dX1_sidesOf_32 : decode cX1_sidesOf 32 = .ok (.lshl, 1) := by decide +kernel
theorem dX1_sidesOf_33 : decode cX1_sidesOf 33 = .ok (.lor, 1) := by decide +kernel
theorem dX1_sidesOf_34 : decode cX1_sidesOf 34 = .ok (.lload_n 1, 1) := by decide +kernel
theorem dX1_sidesOf_35 : decode cX1_sidesOf 35 = .ok (.aload_n 0, 1) := by decide +kernel
theorem dX1_sidesOf_36 : decode cX1_sidesOf 36 = .ok (.getfield 9, 3) := by decide +kernel
theorem dX1_sidesOf_39 : decode cX1_sidesOf 39 = .ok (.lushr, 1) := by decide +kernel
theorem dX1_sidesOf_40 : decode cX1_sidesOf 40 = .ok (.lor, 1) := by decide +kernel
theorem dX1_sidesOf_41 : decode cX1_sidesOf 41 = .ok (.aload_n 0, 1) := by decide +kernel
theorem dX1_sidesOf_42 : decode cX1_sidesOf 42 = .ok (.getfield 21, 3) := by decide +kernel
theorem dX1_sidesOf_45 : decode cX1_sidesOf 45 = .ok (.land, 1) := by decide +kernel
theorem dX1_sidesOf_46 : decode cX1_sidesOf 46 = .ok (.lreturn, 1) := by decide +kernel
theorem dX1_spread_0 : decode cX1_spread 0 = .ok (.lload_n 1, 1) := by decide +kernel
theorem dX1_spread_1 : decode cX1_spread 1 = .ok (.lload_n 3, 1) := by decide +kernel
theorem dX1_spread_2 : decode cX1_spread 2 = .ok (.land, 1) := by decide +kernel
theorem dX1_spread_3 : decode cX1_spread 3 = .ok (.lstore 5, 2) := by decide +kernel
theorem dX1_spread_5 : decode cX1_spread 5 = .ok (.iconst 0, 1) := by decide +kernel
theorem dX1_spread_6 : decode cX1_spread 6 = .ok (.istore 7, 2) := by decide +kernel
theorem dX1_spread_8 : decode cX1_spread 8 = .ok (.iload 7, 2) := by decide +kernel
theorem dX1_spread_10 : decode cX1_spread 10 = .ok (.aload_n 0, 1) := by decide +kernel
theorem dX1_spread_11 : decode cX1_spread 11 = .ok (.getfield 18, 3) := by decide +kernel
theorem dX1_spread_14 : decode cX1_spread 14 = .ok (.if_icmp .ge 37, 3) := by decide +kernel
theorem dX1_spread_17 : decode cX1_spread 17 = .ok (.lload 5, 2) := by decide +kernel
theorem dX1_spread_19 : decode cX1_spread 19 = .ok (.aload_n 0, 1) := by decide +kernel
theorem dX1_spread_20 : decode cX1_spread 20 = .ok (.lload 5, 2) := by decide +kernel
theorem dX1_spread_22 : decode cX1_spread 22 = .ok (.invokevirtual 38, 3) := by decide +kernel
theorem dX1_spread_25 : decode cX1_spread 25 = .ok (.lload_n 3, 1) := by decide +kernel
theorem dX1_spread_26 : decode cX1_spread 26 = .ok (.land, 1) := by decide +kernel
theorem dX1_spread_27 : decode cX1_spread 27 = .ok (.lor, 1) := by decide +kernel
theorem dX1_spread_28 : decode cX1_spread 28 = .ok (.lstore 8, 2) := by decide +kernel
theorem dX1_spread_30 : decode cX1_spread 30 = .ok (.lload 8, 2) := by decide +kernel
theorem dX1_spread_32 : decode cX1_spread 32 = .ok (.lload 5, 2) := by decide +kernel
theorem dX1_spread_34 : decode cX1_spread 34 = .ok (.lcmp, 1) := by decide +kernel
theorem dX1_spread_35 : decode cX1_spread 35 = .ok (.ifCond .ne 6, 3) := by decide +kernel
theorem dX1_spread_38 : decode cX1_spread 38 = .ok (.lload 5, 2) := by decide +kernel
theorem dX1_spread_40 : decode cX1_spread 40 = .ok (.lreturn, 1) := by decide +kernel
theorem dX1_spread_41 : decode cX1_spread 41 = .ok (.lload 8, 2) := by decide +kernel
theorem dX1_spread_43 : decode cX1_spread 43 = .ok (.lstore 5, 2) := by decide +kernel
theorem dX1_spread_45 : decode cX1_spread 45 = .ok (.iinc 7 1, 3) := by decide +kernel
theorem dX1_spread_48 : decode cX1_spread 48 = .ok (.goto (-40), 3) := by decide +kernel
theorem dX1_spread_51 : decode cX1_spread 51 = .ok (.lload 5, 2) := by decide +kernel
theorem dX1_spread_53 : decode cX1_spread 53 = .ok (.lreturn, 1) := by decide +kernel
theorem dX1_lowest_0 : decode cX1_lowest 0 = .ok (.lload_n 1, 1) := by decide +kernel
theorem dX1_lowest_1 : decode cX1_lowest 1 = .ok (.lconst 0, 1) := by decide +kernel
theorem dX1_lowest_2 : decode cX1_lowest 2 = .ok (.lcmp, 1) := by decide +kernel
theorem dX1_lowest_3 : decode cX1_lowest 3 = .ok (.ifCond .ne 7, 3) := by decide +kernel
theorem dX1_lowest_6 : decode cX1_lowest 6 = .ok (.iconst (-1), 1) := by decide +kernel
theorem dX1_lowest_7 : decode cX1_lowest 7 = .ok (.goto 12, 3) := by decide +kernel
theorem dX1_lowest_10 : decode cX1_lowest 10 = .ok (.lload_n 1, 1) := by decide +kernel
theorem dX1_lowest_11 : decode cX1_lowest 11 = .ok (.lload_n 1, 1) := by decide +kernel
theorem dX1_lowest_12 : decode cX1_lowest 12 = .ok (.lneg, 1) := by decide +kernel
theorem dX1_lowest_13 : decode cX1_lowest 13 = .ok (.land, 1) := by decide +kernel
theorem dX1_lowest_14 : decode cX1_lowest 14 = .ok (.lconst 1, 1) := by decide +kernel
theorem dX1_lowest_15 : decode cX1_lowest 15 = .ok (.lsub, 1) := by decide +kernel
theorem dX1_lowest_16 : decode cX1_lowest 16 = .ok (.invokestatic 48, 3) := by decide +kernel
theorem dX1_lowest_19 : decode cX1_lowest 19 = .ok (.ireturn, 1) := by decide +kernel
theorem dX2_init_0 : decode cX2_init 0 = .ok (.aload_n 0, 1) := by decide +kernel
theorem dX2_init_1 : decode cX2_init 1 = .ok (.invokespecial 3, 3) := by decide +kernel
theorem dX2_init_4 : decode cX2_init 4 = .ok (.aload_n 0, 1) := by decide +kernel
theorem dX2_init_5 : decode cX2_init 5 = .ok (.iconst 5, 1) := by decide +kernel
theorem dX2_init_6 : decode cX2_init 6 = .ok (.anewarray 9, 3) := by decide +kernel
theorem dX2_init_9 : decode cX2_init 9 = .ok (.putfield 11, 3) := by decide +kernel
theorem dX2_init_12 : decode cX2_init 12 = .ok (.aload_n 0, 1) := by decide +kernel
theorem dX2_init_13 : decode cX2_init 13 = .ok (.aload_n 1, 1) := by decide +kernel
theorem dX2_init_14 : decode cX2_init 14 = .ok (.putfield 17, 3) := by decide +kernel
theorem dX2_init_17 : decode cX2_init 17 = .ok (.aload_n 0, 1) := by decide +kernel
theorem dX2_init_18 : decode cX2_init 18 = .ok (.aload_n 2, 1) := by decide +kernel
theorem dX2_init_19 : decode cX2_init 19 = .ok (.putfield 21, 3) := by decide +kernel
theorem dX2_init_22 : decode cX2_init 22 = .ok (.aload_n 0, 1) := by decide +kernel
theorem dX2_init_23 : decode cX2_init 23 = .ok (.aload_n 3, 1) := by decide +kernel
theorem dX2_init_24 : decode cX2_init 24 = .ok (.putfield 25, 3) := by decide +kernel
theorem dX2_init_27 : decode cX2_init 27 = .ok (.iconst 0, 1) := by decide +kernel
theorem dX2_init_28 : decode cX2_init 28 = .ok (.istore 4, 2) := by decide +kernel
theorem dX2_init_30 : decode cX2_init 30 = .ok (.iload 4, 2) := by decide +kernel
theorem dX2_init_32 : decode cX2_init 32 = .ok (.iconst 4, 1) := by decide +kernel
theorem dX2_init_33 : decode cX2_init 33 = .ok (.if_icmp .gt 27, 3) := by decide +kernel
theorem dX2_init_36 : decode cX2_init 36 = .ok (.aload_n 0, 1) := by decide +kernel
theorem dX2_init_37 : decode cX2_init 37 = .ok (.getfield 11, 3) := by decide +kernel
theorem dX2_init_40 : decode cX2_init 40 = .ok (.iload 4, 2) := by decide +kernel
theorem dX2_init_42 : decode cX2_init 42 = .ok (.new 9, 3) := by decide +kernel
theorem dX2_init_45 : decode cX2_init 45 = .ok (.dup, 1) := by decide +kernel
theorem dX2_init_46 : decode cX2_init 46 = .ok (.aload_n 1, 1) := by decide +kernel
theorem dX2_init_47 : decode cX2_init 47 = .ok (.getfield 29, 3) := by decide +kernel
theorem dX2_init_50 : decode cX2_init 50 = .ok (.invokespecial 33, 3) := by decide +kernel
theorem dX2_init_53 : decode cX2_init 53 = .ok (.aastore, 1) := by decide +kernel
theorem dX2_init_54 : decode cX2_init 54 = .ok (.iinc 4 1, 3) := by decide +kernel
theorem dX2_init_57 : decode cX2_init 57 = .ok (.goto (-27), 3) := by decide +kernel
theorem dX2_init_60 : decode cX2_init 60 = .ok (.return_, 1) := by decide +kernel
theorem dX2_weightHad_0 : decode cX2_weightHad 0 = .ok (.aload_n 0, 1) := by decide +kernel
theorem dX2_weightHad_1 : decode cX2_weightHad 1 = .ok (.getfield 11, 3) := by decide +kernel
theorem dX2_weightHad_4 : decode cX2_weightHad 4 = .ok (.iconst 0, 1) := by decide +kernel
theorem dX2_weightHad_5 : decode cX2_weightHad 5 = .ok (.aaload, 1) := by decide +kernel
theorem dX2_weightHad_6 : decode cX2_weightHad 6 = .ok (.aload_n 0, 1) := by decide +kernel
theorem dX2_weightHad_7 : decode cX2_weightHad 7 = .ok (.getfield 17, 3) := by decide +kernel
theorem dX2_weightHad_10 : decode cX2_weightHad 10 = .ok (.invokevirtual 36, 3) := by decide +kernel
theorem dX2_weightHad_13 : decode cX2_weightHad 13 = .ok (.aload_n 0, 1) := by decide +kernel
theorem dX2_weightHad_14 : decode cX2_weightHad 14 = .ok (.iload_n 1, 1) := by decide +kernel
theorem dX2_weightHad_15 : decode cX2_weightHad 15 = .ok (.iload_n 2, 1) := by decide +kernel
theorem dX2_weightHad_16 : decode cX2_weightHad 16 = .ok (.invokevirtual 40, 3) := by decide +kernel
theorem dX2_weightHad_19 : decode cX2_weightHad 19 = .ok (.aload_n 0, 1) := by decide +kernel
theorem dX2_weightHad_20 : decode cX2_weightHad 20 = .ok (.iconst 0, 1) := by decide +kernel
theorem dX2_weightHad_21 : decode cX2_weightHad 21 = .ok (.iload_n 3, 1) := by decide +kernel
theorem dX2_weightHad_22 : decode cX2_weightHad 22 = .ok (.lconst 1, 1) := by decide +kernel
theorem dX2_weightHad_23 : decode cX2_weightHad 23 = .ok (.invokevirtual 44, 3) := by decide +kernel
theorem dX2_weightHad_26 : decode cX2_weightHad 26 = .ok (.aload_n 0, 1) := by decide +kernel
theorem dX2_weightHad_27 : decode cX2_weightHad 27 = .ok (.getfield 48, 3) := by decide +kernel
theorem dX2_weightHad_30 : decode cX2_weightHad 30 = .ok (.lreturn, 1) := by decide +kernel
theorem dX2_meanNow_0 : decode cX2_meanNow 0 = .ok (.aload_n 0, 1) := by decide +kernel
theorem dX2_meanNow_1 : decode cX2_meanNow 1 = .ok (.getfield 11, 3) := by decide +kernel
theorem dX2_meanNow_4 : decode cX2_meanNow 4 = .ok (.iconst 0, 1) := by decide +kernel
theorem dX2_meanNow_5 : decode cX2_meanNow 5 = .ok (.aaload, 1) := by decide +kernel
theorem dX2_meanNow_6 : decode cX2_meanNow 6 = .ok (.aload_n 0, 1) := by decide +kernel
theorem dX2_meanNow_7 : decode cX2_meanNow 7 = .ok (.getfield 17, 3) := by decide +kernel
theorem dX2_meanNow_10 : decode cX2_meanNow 10 = .ok (.invokevirtual 36, 3) := by decide +kernel
theorem dX2_meanNow_13 : decode cX2_meanNow 13 = .ok (.aload_n 0, 1) := by decide +kernel
theorem dX2_meanNow_14 : decode cX2_meanNow 14 = .ok (.iload_n 1, 1) := by decide +kernel
theorem dX2_meanNow_15 : decode cX2_meanNow 15 = .ok (.iload_n 2, 1) := by decide +kernel
theorem dX2_meanNow_16 : decode cX2_meanNow 16 = .ok (.invokevirtual 52, 3) := by decide +kernel
theorem dX2_meanNow_19 : decode cX2_meanNow 19 = .ok (.ireturn, 1) := by decide +kernel
theorem dX2_seekNight_0 : decode cX2_seekNight 0 = .ok (.aload_n 0, 1) := by decide +kernel
theorem dX2_seekNight_1 : decode cX2_seekNight 1 = .ok (.iconst (-1), 1) := by decide +kernel
theorem dX2_seekNight_2 : decode cX2_seekNight 2 = .ok (.putfield 56, 3) := by decide +kernel
theorem dX2_seekNight_5 : decode cX2_seekNight 5 = .ok (.aload_n 0, 1) := by decide +kernel
theorem dX2_seekNight_6 : decode cX2_seekNight 6 = .ok (.iconst (-1), 1) := by decide +kernel
theorem dX2_seekNight_7 : decode cX2_seekNight 7 = .ok (.putfield 60, 3) := by decide +kernel
theorem dX2_seekNight_10 : decode cX2_seekNight 10 = .ok (.aload_n 0, 1) := by decide +kernel
theorem dX2_seekNight_11 : decode cX2_seekNight 11 = .ok (.getfield 11, 3) := by decide +kernel
theorem dX2_seekNight_14 : decode cX2_seekNight 14 = .ok (.iconst 0, 1) := by decide +kernel
theorem dX2_seekNight_15 : decode cX2_seekNight 15 = .ok (.aaload, 1) := by decide +kernel
theorem dX2_seekNight_16 : decode cX2_seekNight 16 = .ok (.aload_n 0, 1) := by decide +kernel
theorem dX2_seekNight_17 : decode cX2_seekNight 17 = .ok (.getfield 17, 3) := by decide +kernel
theorem dX2_seekNight_20 : decode cX2_seekNight 20 = .ok (.invokevirtual 36, 3) := by decide +kernel
theorem dX2_seekNight_23 : decode cX2_seekNight 23 = .ok (.aload_n 0, 1) := by decide +kernel
theorem dX2_seekNight_24 : decode cX2_seekNight 24 = .ok (.aload_n 0, 1) := by decide +kernel
theorem dX2_seekNight_25 : decode cX2_seekNight 25 = .ok (.iload_n 1, 1) := by decide +kernel
theorem dX2_seekNight_26 : decode cX2_seekNight 26 = .ok (.iload_n 2, 1) := by decide +kernel
theorem dX2_seekNight_27 : decode cX2_seekNight 27 = .ok (.invokevirtual 52, 3) := by decide +kernel
theorem dX2_seekNight_30 : decode cX2_seekNight 30 = .ok (.putfield 63, 3) := by decide +kernel
theorem dX2_seekNight_33 : decode cX2_seekNight 33 = .ok (.iconst 0, 1) := by decide +kernel
theorem dX2_seekNight_34 : decode cX2_seekNight 34 = .ok (.istore_n 3, 1) := by decide +kernel
theorem dX2_seekNight_35 : decode cX2_seekNight 35 = .ok (.iload_n 3, 1) := by decide +kernel
theorem dX2_seekNight_36 : decode cX2_seekNight 36 = .ok (.aload_n 0, 1) := by decide +kernel
theorem dX2_seekNight_37 : decode cX2_seekNight 37 = .ok (.getfield 17, 3) := by decide +kernel
theorem dX2_seekNight_40 : decode cX2_seekNight 40 = .ok (.getfield 66, 3) := by decide +kernel
theorem dX2_seekNight_43 : decode cX2_seekNight 43 = .ok (.if_icmp .ge 80, 3) := by decide +kernel
theorem dX2_seekNight_46 : decode cX2_seekNight 46 = .ok (.iconst 0, 1) := by decide +kernel
theorem dX2_seekNight_47 : decode cX2_seekNight 47 = .ok (.istore 4, 2) := by decide +kernel
theorem dX2_seekNight_49 : decode cX2_seekNight 49 = .ok (.iload 4, 2) := by decide +kernel
theorem dX2_seekNight_51 : decode cX2_seekNight 51 = .ok (.iconst 4, 1) := by decide +kernel
theorem dX2_seekNight_52 : decode cX2_seekNight 52 = .ok (.if_icmp .ge 65, 3) := by decide +kernel
theorem dX2_seekNight_55 : decode cX2_seekNight 55 = .ok (.aload_n 0, 1) := by decide +kernel
theorem dX2_seekNight_56 : decode cX2_seekNight 56 = .ok (.getfield 17, 3) := by decide +kernel
theorem dX2_seekNight_59 : decode cX2_seekNight 59 = .ok (.iload_n 3, 1) := by decide +kernel
theorem dX2_seekNight_60 : decode cX2_seekNight 60 = .ok (.iload 4, 2) := by decide +kernel
theorem dX2_seekNight_62 : decode cX2_seekNight 62 = .ok (.invokevirtual 69, 3) := by decide +kernel
theorem dX2_seekNight_65 : decode cX2_seekNight 65 = .ok (.istore 5, 2) := by decide +kernel
theorem dX2_seekNight_67 : decode cX2_seekNight 67 = .ok (.iload 5, 2) := by decide +kernel
theorem dX2_seekNight_69 : decode cX2_seekNight 69 = .ok (.iconst (-1), 1) := by decide +kernel
theorem dX2_seekNight_70 : decode cX2_seekNight 70 = .ok (.if_icmp .eq 41, 3) := by decide +kernel
theorem dX2_seekNight_73 : decode cX2_seekNight 73 = .ok (.aload_n 0, 1) := by decide +kernel
theorem dX2_seekNight_74 : decode cX2_seekNight 74 = .ok (.getfield 11, 3) := by decide +kernel
theorem dX2_seekNight_77 : decode cX2_seekNight 77 = .ok (.iconst 0, 1) := by decide +kernel
theorem dX2_seekNight_78 : decode cX2_seekNight 78 = .ok (.aaload, 1) := by decide +kernel
theorem dX2_seekNight_79 : decode cX2_seekNight 79 = .ok (.aload_n 0, 1) := by decide +kernel
theorem dX2_seekNight_80 : decode cX2_seekNight 80 = .ok (.getfield 17, 3) := by decide +kernel
theorem dX2_seekNight_83 : decode cX2_seekNight 83 = .ok (.invokevirtual 36, 3) := by decide +kernel
theorem dX2_seekNight_86 : decode cX2_seekNight 86 = .ok (.aload_n 0, 1) := by decide +kernel
theorem dX2_seekNight_87 : decode cX2_seekNight 87 = .ok (.getfield 11, 3) := by decide +kernel
theorem dX2_seekNight_90 : decode cX2_seekNight 90 = .ok (.iconst 0, 1) := by decide +kernel
theorem dX2_seekNight_91 : decode cX2_seekNight 91 = .ok (.aaload, 1) := by decide +kernel
theorem dX2_seekNight_92 : decode cX2_seekNight 92 = .ok (.iload_n 3, 1) := by decide +kernel
theorem dX2_seekNight_93 : decode cX2_seekNight 93 = .ok (.iload 5, 2) := by decide +kernel
theorem dX2_seekNight_95 : decode cX2_seekNight 95 = .ok (.invokevirtual 72, 3) := by decide +kernel
theorem dX2_seekNight_98 : decode cX2_seekNight 98 = .ok (.aload_n 0, 1) := by decide +kernel
theorem dX2_seekNight_99 : decode cX2_seekNight 99 = .ok (.iload_n 3, 1) := by decide +kernel
theorem dX2_seekNight_100 : decode cX2_seekNight 100 = .ok (.iload 4, 2) := by decide +kernel
theorem dX2_seekNight_102 : decode cX2_seekNight 102 = .ok (.aload_n 0, 1) := by decide +kernel
theorem dX2_seekNight_103 : decode cX2_seekNight 103 = .ok (.iload_n 1, 1) := by decide +kernel
theorem dX2_seekNight_104 : decode cX2_seekNight 104 = .ok (.iload_n 2, 1) := by decide +kernel
theorem dX2_seekNight_105 : decode cX2_seekNight 105 = .ok (.invokevirtual 52, 3) := by decide +kernel
theorem dX2_seekNight_108 : decode cX2_seekNight 108 = .ok (.invokevirtual 75, 3) := by decide +kernel
theorem dX2_seekNight_111 : decode cX2_seekNight 111 = .ok (.iinc 4 1, 3) := by decide +kernel
theorem dX2_seekNight_114 : decode cX2_seekNight 114 = .ok (.goto (-65), 3) := by decide +kernel
theorem dX2_seekNight_117 : decode cX2_seekNight 117 = .ok (.iinc 3 1, 3) := by decide +kernel
theorem dX2_seekNight_120 : decode cX2_seekNight 120 = .ok (.goto (-85), 3) := by decide +kernel
theorem dX2_seekNight_123 : decode cX2_seekNight 123 = .ok (.return_, 1) := by decide +kernel
theorem dX2_keepIfBetter_0 : decode cX2_keepIfBetter 0 = .ok (.iload_n 3, 1) := by decide +kernel
theorem dX2_keepIfBetter_1 : decode cX2_keepIfBetter 1 = .ok (.aload_n 0, 1) := by decide +kernel
theorem dX2_keepIfBetter_2 : decode cX2_keepIfBetter 2 = .ok (.getfield 63, 3) := by decide +kernel
theorem dX2_keepIfBetter_5 : decode cX2_keepIfBetter 5 = .ok (.if_icmp .le 18, 3) := by decide +kernel
theorem dX2_keepIfBetter_8 : decode cX2_keepIfBetter 8 = .ok (.aload_n 0, 1) := by decide +kernel
theorem dX2_keepIfBetter_9 : decode cX2_keepIfBetter 9 = .ok (.iload_n 1, 1) := by decide +kernel
theorem dX2_keepIfBetter_10 : decode cX2_keepIfBetter 10 = .ok (.putfield 56, 3) := by decide +kernel
theorem dX2_keepIfBetter_13 : decode cX2_keepIfBetter 13 = .ok (.aload_n 0, 1) := by decide +kernel
theorem dX2_keepIfBetter_14 : decode cX2_keepIfBetter 14 = .ok (.iload_n 2, 1) := by decide +kernel
theorem dX2_keepIfBetter_15 : decode cX2_keepIfBetter 15 = .ok (.putfield 60, 3) := by decide +kernel
theorem dX2_keepIfBetter_18 : decode cX2_keepIfBetter 18 = .ok (.aload_n 0, 1) := by decide +kernel
theorem dX2_keepIfBetter_19 : decode cX2_keepIfBetter 19 = .ok (.iload_n 3, 1) := by decide +kernel
theorem dX2_keepIfBetter_20 : decode cX2_keepIfBetter 20 = .ok (.putfield 63, 3) := by decide +kernel
theorem dX2_keepIfBetter_23 : decode cX2_keepIfBetter 23 = .ok (.return_, 1) := by decide +kernel
theorem dX2_meanOfTried_0 : decode cX2_meanOfTried 0 = .ok (.aload_n 0, 1) := by decide +kernel
theorem dX2_meanOfTried_1 : decode cX2_meanOfTried 1 = .ok (.getfield 21, 3) := by decide +kernel
theorem dX2_meanOfTried_4 : decode cX2_meanOfTried 4 = .ok (.iload_n 2, 1) := by decide +kernel
theorem dX2_meanOfTried_5 : decode cX2_meanOfTried 5 = .ok (.invokevirtual 79, 3) := by decide +kernel
theorem dX2_meanOfTried_8 : decode cX2_meanOfTried 8 = .ok (.lstore_n 3, 1) := by decide +kernel
theorem dX2_meanOfTried_9 : decode cX2_meanOfTried 9 = .ok (.lload_n 3, 1) := by decide +kernel
theorem dX2_meanOfTried_10 : decode cX2_meanOfTried 10 = .ok (.lconst 0, 1) := by decide +kernel
theorem dX2_meanOfTried_11 : decode cX2_meanOfTried 11 = .ok (.lcmp, 1) := by decide +kernel
theorem dX2_meanOfTried_12 : decode cX2_meanOfTried 12 = .ok (.ifCond .ne 5, 3) := by decide +kernel
theorem dX2_meanOfTried_15 : decode cX2_meanOfTried 15 = .ok (.iconst 0, 1) := by decide +kernel
theorem dX2_meanOfTried_16 : decode cX2_meanOfTried 16 = .ok (.ireturn, 1) := by decide +kernel
theorem dX2_meanOfTried_17 : decode cX2_meanOfTried 17 = .ok (.aload_n 0, 1) := by decide +kernel
theorem dX2_meanOfTried_18 : decode cX2_meanOfTried 18 = .ok (.iload_n 1, 1) := by decide +kernel
theorem dX2_meanOfTried_19 : decode cX2_meanOfTried 19 = .ok (.iconst 0, 1) := by decide +kernel
theorem dX2_meanOfTried_20 : decode cX2_meanOfTried 20 = .ok (.invokevirtual 40, 3) := by decide +kernel
theorem dX2_meanOfTried_23 : decode cX2_meanOfTried 23 = .ok (.aload_n 0, 1) := by decide +kernel
theorem dX2_meanOfTried_24 : decode cX2_meanOfTried 24 = .ok (.iconst 0, 1) := by decide +kernel
theorem dX2_meanOfTried_25 : decode cX2_meanOfTried 25 = .ok (.iload_n 2, 1) := by decide +kernel
theorem dX2_meanOfTried_26 : decode cX2_meanOfTried 26 = .ok (.lconst 1, 1) := by decide +kernel
theorem dX2_meanOfTried_27 : decode cX2_meanOfTried 27 = .ok (.invokevirtual 44, 3) := by decide +kernel
theorem dX2_meanOfTried_30 : decode cX2_meanOfTried 30 = .ok (.aload_n 0, 1) := by decide +kernel
theorem dX2_meanOfTried_31 : decode cX2_meanOfTried 31 = .ok (.getfield 85, 3) := by decide +kernel
theorem dX2_meanOfTried_34 : decode cX2_meanOfTried 34 = .ok (.ldc2_w 88, 3) := by decide +kernel
theorem dX2_meanOfTried_37 : decode cX2_meanOfTried 37 = .ok (.lmul, 1) := by decide +kernel
theorem dX2_meanOfTried_38 : decode cX2_meanOfTried 38 = .ok (.lload_n 3, 1) := by decide +kernel
theorem dX2_meanOfTried_39 : decode cX2_meanOfTried 39 = .ok (.ldiv, 1) := by decide +kernel
theorem dX2_meanOfTried_40 : decode cX2_meanOfTried 40 = .ok (.l2i, 1) := by decide +kernel
theorem dX2_meanOfTried_41 : decode cX2_meanOfTried 41 = .ok (.ireturn, 1) := by decide +kernel
theorem dX2_aim_0 : decode cX2_aim 0 = .ok (.aload_n 0, 1) := by decide +kernel
theorem dX2_aim_1 : decode cX2_aim 1 = .ok (.iload_n 1, 1) := by decide +kernel
theorem dX2_aim_2 : decode cX2_aim 2 = .ok (.putfield 90, 3) := by decide +kernel
theorem dX2_aim_5 : decode cX2_aim 5 = .ok (.aload_n 0, 1) := by decide +kernel
theorem dX2_aim_6 : decode cX2_aim 6 = .ok (.iload_n 2, 1) := by decide +kernel
theorem dX2_aim_7 : decode cX2_aim 7 = .ok (.putfield 93, 3) := by decide +kernel
theorem dX2_aim_10 : decode cX2_aim 10 = .ok (.aload_n 0, 1) := by decide +kernel
theorem dX2_aim_11 : decode cX2_aim 11 = .ok (.lconst 0, 1) := by decide +kernel
theorem dX2_aim_12 : decode cX2_aim 12 = .ok (.putfield 48, 3) := by decide +kernel
theorem dX2_aim_15 : decode cX2_aim 15 = .ok (.aload_n 0, 1) := by decide +kernel
theorem dX2_aim_16 : decode cX2_aim 16 = .ok (.lconst 0, 1) := by decide +kernel
theorem dX2_aim_17 : decode cX2_aim 17 = .ok (.putfield 85, 3) := by decide +kernel
theorem dX2_aim_20 : decode cX2_aim 20 = .ok (.return_, 1) := by decide +kernel
theorem dX2_gather_0 : decode cX2_gather 0 = .ok (.aload_n 0, 1) := by decide +kernel
theorem dX2_gather_1 : decode cX2_gather 1 = .ok (.getfield 11, 3) := by decide +kernel
theorem dX2_gather_4 : decode cX2_gather 4 = .ok (.iload_n 1, 1) := by decide +kernel
theorem dX2_gather_5 : decode cX2_gather 5 = .ok (.aaload, 1) := by decide +kernel
theorem dX2_gather_6 : decode cX2_gather 6 = .ok (.astore 5, 2) := by decide +kernel
theorem dX2_gather_8 : decode cX2_gather 8 = .ok (.iload_n 1, 1) := by decide +kernel
theorem dX2_gather_9 : decode cX2_gather 9 = .ok (.iload_n 2, 1) := by decide +kernel
theorem dX2_gather_10 : decode cX2_gather 10 = .ok (.if_icmp .ge 8, 3) := by decide +kernel
theorem dX2_gather_13 : decode cX2_gather 13 = .ok (.iload_n 1, 1) := by decide +kernel
theorem dX2_gather_14 : decode cX2_gather 14 = .ok (.iconst 4, 1) := by decide +kernel
theorem dX2_gather_15 : decode cX2_gather 15 = .ok (.if_icmp .lt 62, 3) := by decide +kernel
theorem dX2_gather_18 : decode cX2_gather 18 = .ok (.aload 5, 2) := by decide +kernel
theorem dX2_gather_20 : decode cX2_gather 20 = .ok (.aload_n 0, 1) := by decide +kernel
theorem dX2_gather_21 : decode cX2_gather 21 = .ok (.getfield 90, 3) := by decide +kernel
theorem dX2_gather_24 : decode cX2_gather 24 = .ok (.invokevirtual 96, 3) := by decide +kernel
theorem dX2_gather_27 : decode cX2_gather 27 = .ok (.lstore 6, 2) := by decide +kernel
theorem dX2_gather_29 : decode cX2_gather 29 = .ok (.aload_n 0, 1) := by decide +kernel
theorem dX2_gather_30 : decode cX2_gather 30 = .ok (.dup, 1) := by decide +kernel
theorem dX2_gather_31 : decode cX2_gather 31 = .ok (.getfield 48, 3) := by decide +kernel
theorem dX2_gather_34 : decode cX2_gather 34 = .ok (.lload 6, 2) := by decide +kernel
theorem dX2_gather_36 : decode cX2_gather 36 = .ok (.aload_n 0, 1) := by decide +kernel
theorem dX2_gather_37 : decode cX2_gather 37 = .ok (.getfield 93, 3) := by decide +kernel
theorem dX2_gather_40 : decode cX2_gather 40 = .ok (.lushr, 1) := by decide +kernel
theorem dX2_gather_41 : decode cX2_gather 41 = .ok (.lconst 1, 1) := by decide +kernel
theorem dX2_gather_42 : decode cX2_gather 42 = .ok (.land, 1) := by decide +kernel
theorem dX2_gather_43 : decode cX2_gather 43 = .ok (.lconst 0, 1) := by decide +kernel
theorem dX2_gather_44 : decode cX2_gather 44 = .ok (.lcmp, 1) := by decide +kernel
theorem dX2_gather_45 : decode cX2_gather 45 = .ok (.ifCond .eq 7, 3) := by decide +kernel
theorem dX2_gather_48 : decode cX2_gather 48 = .ok (.lload_n 3, 1) := by decide +kernel
theorem dX2_gather_49 : decode cX2_gather 49 = .ok (.goto 4, 3) := by decide +kernel
theorem dX2_gather_52 : decode cX2_gather 52 = .ok (.lconst 0, 1) := by decide +kernel
theorem dX2_gather_53 : decode cX2_gather 53 = .ok (.ladd, 1) := by decide +kernel
theorem dX2_gather_54 : decode cX2_gather 54 = .ok (.putfield 48, 3) := by decide +kernel
theorem dX2_gather_57 : decode cX2_gather 57 = .ok (.aload_n 0, 1) := by decide +kernel
theorem dX2_gather_58 : decode cX2_gather 58 = .ok (.dup, 1) := by decide +kernel
theorem dX2_gather_59 : decode cX2_gather 59 = .ok (.getfield 85, 3) := by decide +kernel
theorem dX2_gather_62 : decode cX2_gather 62 = .ok (.lload_n 3, 1) := by decide +kernel
theorem dX2_gather_63 : decode cX2_gather 63 = .ok (.aload 5, 2) := by decide +kernel
theorem dX2_gather_65 : decode cX2_gather 65 = .ok (.lload 6, 2) := by decide +kernel
theorem dX2_gather_67 : decode cX2_gather 67 = .ok (.invokevirtual 99, 3) := by decide +kernel
theorem dX2_gather_70 : decode cX2_gather 70 = .ok (.i2l, 1) := by decide +kernel
theorem dX2_gather_71 : decode cX2_gather 71 = .ok (.lmul, 1) := by decide +kernel
theorem dX2_gather_72 : decode cX2_gather 72 = .ok (.ladd, 1) := by decide +kernel
theorem dX2_gather_73 : decode cX2_gather 73 = .ok (.putfield 85, 3) := by decide +kernel
theorem dX2_gather_76 : decode cX2_gather 76 = .ok (.return_, 1) := by decide +kernel
theorem dX2_gather_77 : decode cX2_gather 77 = .ok (.iconst 0, 1) := by decide +kernel
theorem dX2_gather_78 : decode cX2_gather 78 = .ok (.istore 6, 2) := by decide +kernel
theorem dX2_gather_80 : decode cX2_gather 80 = .ok (.iload 6, 2) := by decide +kernel
theorem dX2_gather_82 : decode cX2_gather 82 = .ok (.aload_n 0, 1) := by decide +kernel
theorem dX2_gather_83 : decode cX2_gather 83 = .ok (.getfield 21, 3) := by decide +kernel
theorem dX2_gather_86 : decode cX2_gather 86 = .ok (.getfield 103, 3) := by decide +kernel
theorem dX2_gather_89 : decode cX2_gather 89 = .ok (.if_icmp .ge 74, 3) := by decide +kernel
theorem dX2_gather_92 : decode cX2_gather 92 = .ok (.aload_n 0, 1) := by decide +kernel
theorem dX2_gather_93 : decode cX2_gather 93 = .ok (.getfield 21, 3) := by decide +kernel
theorem dX2_gather_96 : decode cX2_gather 96 = .ok (.getfield 106, 3) := by decide +kernel
theorem dX2_gather_99 : decode cX2_gather 99 = .ok (.iload 6, 2) := by decide +kernel
theorem dX2_gather_101 : decode cX2_gather 101 = .ok (.iaload, 1) := by decide +kernel
theorem dX2_gather_102 : decode cX2_gather 102 = .ok (.ifCond .le 55, 3) := by decide +kernel
theorem dX2_gather_105 : decode cX2_gather 105 = .ok (.aload_n 0, 1) := by decide +kernel
theorem dX2_gather_106 : decode cX2_gather 106 = .ok (.getfield 11, 3) := by decide +kernel
theorem dX2_gather_109 : decode cX2_gather 109 = .ok (.iload_n 1, 1) := by decide +kernel
theorem dX2_gather_110 : decode cX2_gather 110 = .ok (.iconst 1, 1) := by decide +kernel
theorem dX2_gather_111 : decode cX2_gather 111 = .ok (.iadd, 1) := by decide +kernel
theorem dX2_gather_112 : decode cX2_gather 112 = .ok (.aaload, 1) := by decide +kernel
theorem dX2_gather_113 : decode cX2_gather 113 = .ok (.aload 5, 2) := by decide +kernel
theorem dX2_gather_115 : decode cX2_gather 115 = .ok (.invokevirtual 36, 3) := by decide +kernel
theorem dX2_gather_118 : decode cX2_gather 118 = .ok (.aload_n 0, 1) := by decide +kernel
theorem dX2_gather_119 : decode cX2_gather 119 = .ok (.getfield 25, 3) := by decide +kernel
theorem dX2_gather_122 : decode cX2_gather 122 = .ok (.aload_n 0, 1) := by decide +kernel
theorem dX2_gather_123 : decode cX2_gather 123 = .ok (.getfield 11, 3) := by decide +kernel
theorem dX2_gather_126 : decode cX2_gather 126 = .ok (.iload_n 1, 1) := by decide +kernel
theorem dX2_gather_127 : decode cX2_gather 127 = .ok (.iconst 1, 1) := by decide +kernel
theorem dX2_gather_128 : decode cX2_gather 128 = .ok (.iadd, 1) := by decide +kernel
theorem dX2_gather_129 : decode cX2_gather 129 = .ok (.aaload, 1) := by decide +kernel
theorem dX2_gather_130 : decode cX2_gather 130 = .ok (.iload 6, 2) := by decide +kernel
theorem dX2_gather_132 : decode cX2_gather 132 = .ok (.invokevirtual 110, 3) := by decide +kernel
theorem dX2_gather_135 : decode cX2_gather 135 = .ok (.pop, 1) := by decide +kernel
theorem dX2_gather_136 : decode cX2_gather 136 = .ok (.aload_n 0, 1) := by decide +kernel
theorem dX2_gather_137 : decode cX2_gather 137 = .ok (.iload_n 1, 1) := by decide +kernel
theorem dX2_gather_138 : decode cX2_gather 138 = .ok (.iconst 1, 1) := by decide +kernel
theorem dX2_gather_139 : decode cX2_gather 139 = .ok (.iadd, 1) := by decide +kernel
theorem dX2_gather_140 : decode cX2_gather 140 = .ok (.iload_n 2, 1) := by decide +kernel
theorem dX2_gather_141 : decode cX2_gather 141 = .ok (.lload_n 3, 1) := by decide +kernel
theorem dX2_gather_142 : decode cX2_gather 142 = .ok (.aload_n 0, 1) := by decide +kernel
theorem dX2_gather_143 : decode cX2_gather 143 = .ok (.getfield 21, 3) := by decide +kernel
theorem dX2_gather_146 : decode cX2_gather 146 = .ok (.getfield 106, 3) := by decide +kernel
theorem dX2_gather_149 : decode cX2_gather 149 = .ok (.iload 6, 2) := by decide +kernel
theorem dX2_gather_151 : decode cX2_gather 151 = .ok (.iaload, 1) := by decide +kernel
theorem dX2_gather_152 : decode cX2_gather 152 = .ok (.i2l, 1) := by decide +kernel
theorem dX2_gather_153 : decode cX2_gather 153 = .ok (.lmul, 1) := by decide +kernel
theorem dX2_gather_154 : decode cX2_gather 154 = .ok (.invokevirtual 44, 3) := by decide +kernel
theorem dX2_gather_157 : decode cX2_gather 157 = .ok (.iinc 6 1, 3) := by decide +kernel
theorem dX2_gather_160 : decode cX2_gather 160 = .ok (.goto (-80), 3) := by decide +kernel
theorem dX2_gather_163 : decode cX2_gather 163 = .ok (.return_, 1) := by decide +kernel
theorem dX2_goOn_0 : decode cX2_goOn 0 = .ok (.aload_n 0, 1) := by decide +kernel
theorem dX2_goOn_1 : decode cX2_goOn 1 = .ok (.getfield 21, 3) := by decide +kernel
theorem dX2_goOn_4 : decode cX2_goOn 4 = .ok (.aload_n 0, 1) := by decide +kernel
theorem dX2_goOn_5 : decode cX2_goOn 5 = .ok (.getfield 21, 3) := by decide +kernel
theorem dX2_goOn_8 : decode cX2_goOn 8 = .ok (.getfield 116, 3) := by decide +kernel
theorem dX2_goOn_11 : decode cX2_goOn 11 = .ok (.iload_n 1, 1) := by decide +kernel
theorem dX2_goOn_12 : decode cX2_goOn 12 = .ok (.iaload, 1) := by decide +kernel
theorem dX2_goOn_13 : decode cX2_goOn 13 = .ok (.invokevirtual 119, 3) := by decide +kernel
theorem dX2_goOn_16 : decode cX2_goOn 16 = .ok (.ifCond .eq 28, 3) := by decide +kernel
theorem dX2_goOn_19 : decode cX2_goOn 19 = .ok (.aload_n 0, 1) := by decide +kernel
theorem dX2_goOn_20 : decode cX2_goOn 20 = .ok (.getfield 25, 3) := by decide +kernel
theorem dX2_goOn_23 : decode cX2_goOn 23 = .ok (.aload_n 0, 1) := by decide +kernel
theorem dX2_goOn_24 : decode cX2_goOn 24 = .ok (.getfield 11, 3) := by decide +kernel
theorem dX2_goOn_27 : decode cX2_goOn 27 = .ok (.iconst 0, 1) := by decide +kernel
theorem dX2_goOn_28 : decode cX2_goOn 28 = .ok (.aaload, 1) := by decide +kernel
theorem dX2_goOn_29 : decode cX2_goOn 29 = .ok (.aload_n 0, 1) := by decide +kernel
theorem dX2_goOn_30 : decode cX2_goOn 30 = .ok (.getfield 21, 3) := by decide +kernel
theorem dX2_goOn_33 : decode cX2_goOn 33 = .ok (.getfield 116, 3) := by decide +kernel
theorem dX2_goOn_36 : decode cX2_goOn 36 = .ok (.iload_n 1, 1) := by decide +kernel
theorem dX2_goOn_37 : decode cX2_goOn 37 = .ok (.iaload, 1) := by decide +kernel
theorem dX2_goOn_38 : decode cX2_goOn 38 = .ok (.invokevirtual 110, 3) := by decide +kernel
theorem dX2_goOn_41 : decode cX2_goOn 41 = .ok (.goto 4, 3) := by decide +kernel
theorem dX2_goOn_44 : decode cX2_goOn 44 = .ok (.iconst 0, 1) := by decide +kernel
theorem dX2_goOn_45 : decode cX2_goOn 45 = .ok (.ireturn, 1) := by decide +kernel
theorem dX2_firstSowing_0 : decode cX2_firstSowing 0 = .ok (.aload_n 0, 1) := by decide +kernel
theorem dX2_firstSowing_1 : decode cX2_firstSowing 1 = .ok (.getfield 17, 3) := by decide +kernel
theorem dX2_firstSowing_4 : decode cX2_firstSowing 4 = .ok (.iload_n 1, 1) := by decide +kernel
theorem dX2_firstSowing_5 : decode cX2_firstSowing 5 = .ok (.iload_n 2, 1) := by decide +kernel
theorem dX2_firstSowing_6 : decode cX2_firstSowing 6 = .ok (.invokevirtual 123, 3) := by decide +kernel
theorem dX2_firstSowing_9 : decode cX2_firstSowing 9 = .ok (.ifCond .eq 7, 3) := by decide +kernel
theorem dX2_firstSowing_12 : decode cX2_firstSowing 12 = .ok (.lconst 1, 1) := by decide +kernel
theorem dX2_firstSowing_13 : decode cX2_firstSowing 13 = .ok (.goto 4, 3) := by decide +kernel
theorem dX2_firstSowing_16 : decode cX2_firstSowing 16 = .ok (.lconst 0, 1) := by decide +kernel
theorem dX2_firstSowing_17 : decode cX2_firstSowing 17 = .ok (.lstore 4, 2) := by decide +kernel
theorem dX2_firstSowing_19 : decode cX2_firstSowing 19 = .ok (.aload_n 0, 1) := by decide +kernel
theorem dX2_firstSowing_20 : decode cX2_firstSowing 20 = .ok (.getfield 11, 3) := by decide +kernel
theorem dX2_firstSowing_23 : decode cX2_firstSowing 23 = .ok (.iconst 0, 1) := by decide +kernel
theorem dX2_firstSowing_24 : decode cX2_firstSowing 24 = .ok (.aaload, 1) := by decide +kernel
theorem dX2_firstSowing_25 : decode cX2_firstSowing 25 = .ok (.aload_n 0, 1) := by decide +kernel
theorem dX2_firstSowing_26 : decode cX2_firstSowing 26 = .ok (.getfield 17, 3) := by decide +kernel
theorem dX2_firstSowing_29 : decode cX2_firstSowing 29 = .ok (.invokevirtual 36, 3) := by decide +kernel
theorem dX2_firstSowing_32 : decode cX2_firstSowing 32 = .ok (.iconst 0, 1) := by decide +kernel
theorem dX2_firstSowing_33 : decode cX2_firstSowing 33 = .ok (.istore 6, 2) := by decide +kernel
theorem dX2_firstSowing_35 : decode cX2_firstSowing 35 = .ok (.iload 6, 2) := by decide +kernel
theorem dX2_firstSowing_37 : decode cX2_firstSowing 37 = .ok (.bipush 40, 2) := by decide +kernel
theorem dX2_firstSowing_39 : decode cX2_firstSowing 39 = .ok (.if_icmp .ge 45, 3) := by decide +kernel
theorem dX2_firstSowing_42 : decode cX2_firstSowing 42 = .ok (.aload_n 0, 1) := by decide +kernel
theorem dX2_firstSowing_43 : decode cX2_firstSowing 43 = .ok (.iload 6, 2) := by decide +kernel
theorem dX2_firstSowing_45 : decode cX2_firstSowing 45 = .ok (.invokevirtual 127, 3) := by decide +kernel
theorem dX2_firstSowing_48 : decode cX2_firstSowing 48 = .ok (.pop, 1) := by decide +kernel
theorem dX2_firstSowing_49 : decode cX2_firstSowing 49 = .ok (.lload 4, 2) := by decide +kernel
theorem dX2_firstSowing_51 : decode cX2_firstSowing 51 = .ok (.aload_n 0, 1) := by decide +kernel
theorem dX2_firstSowing_52 : decode cX2_firstSowing 52 = .ok (.getfield 11, 3) := by decide +kernel
theorem dX2_firstSowing_55 : decode cX2_firstSowing 55 = .ok (.iconst 0, 1) := by decide +kernel
theorem dX2_firstSowing_56 : decode cX2_firstSowing 56 = .ok (.aaload, 1) := by decide +kernel
theorem dX2_firstSowing_57 : decode cX2_firstSowing 57 = .ok (.iload_n 1, 1) := by decide +kernel
theorem dX2_firstSowing_58 : decode cX2_firstSowing 58 = .ok (.iload_n 2, 1) := by decide +kernel
theorem dX2_firstSowing_59 : decode cX2_firstSowing 59 = .ok (.invokevirtual 123, 3) := by decide +kernel
theorem dX2_firstSowing_62 : decode cX2_firstSowing 62 = .ok (.ifCond .eq 12, 3) := by decide +kernel
theorem dX2_firstSowing_65 : decode cX2_firstSowing 65 = .ok (.lconst 1, 1) := by decide +kernel
theorem dX2_firstSowing_66 : decode cX2_firstSowing 66 = .ok (.iload 6, 2) := by decide +kernel
theorem dX2_firstSowing_68 : decode cX2_firstSowing 68 = .ok (.iconst 1, 1) := by decide +kernel
theorem dX2_firstSowing_69 : decode cX2_firstSowing 69 = .ok (.iadd, 1) := by decide +kernel
theorem dX2_firstSowing_70 : decode cX2_firstSowing 70 = .ok (.lshl, 1) := by decide +kernel
theorem dX2_firstSowing_71 : decode cX2_firstSowing 71 = .ok (.goto 4, 3) := by decide +kernel
theorem dX2_firstSowing_74 : decode cX2_firstSowing 74 = .ok (.lconst 0, 1) := by decide +kernel
theorem dX2_firstSowing_75 : decode cX2_firstSowing 75 = .ok (.lor, 1) := by decide +kernel
theorem dX2_firstSowing_76 : decode cX2_firstSowing 76 = .ok (.lstore 4, 2) := by decide +kernel
theorem dX2_firstSowing_78 : decode cX2_firstSowing 78 = .ok (.iinc 6 1, 3) := by decide +kernel
theorem dX2_firstSowing_81 : decode cX2_firstSowing 81 = .ok (.goto (-46), 3) := by decide +kernel
theorem dX2_firstSowing_84 : decode cX2_firstSowing 84 = .ok (.iconst 0, 1) := by decide +kernel
theorem dX2_firstSowing_85 : decode cX2_firstSowing 85 = .ok (.istore 6, 2) := by decide +kernel
theorem dX2_firstSowing_87 : decode cX2_firstSowing 87 = .ok (.iload 6, 2) := by decide +kernel
theorem dX2_firstSowing_89 : decode cX2_firstSowing 89 = .ok (.iload_n 3, 1) := by decide +kernel
theorem dX2_firstSowing_90 : decode cX2_firstSowing 90 = .ok (.iadd, 1) := by decide +kernel
theorem dX2_firstSowing_91 : decode cX2_firstSowing 91 = .ok (.bipush 40, 2) := by decide +kernel
theorem dX2_firstSowing_93 : decode cX2_firstSowing 93 = .ok (.if_icmp .gt 32, 3) := by decide +kernel
theorem dX2_firstSowing_96 : decode cX2_firstSowing 96 = .ok (.lload 4, 2) := by decide +kernel
theorem dX2_firstSowing_98 : decode cX2_firstSowing 98 = .ok (.iload 6, 2) := by decide +kernel
theorem dX2_firstSowing_100 : decode cX2_firstSowing 100 = .ok (.lushr, 1) := by decide +kernel
theorem dX2_firstSowing_101 : decode cX2_firstSowing 101 = .ok (.lload 4, 2) := by decide +kernel
theorem dX2_firstSowing_103 : decode cX2_firstSowing 103 = .ok (.iload 6, 2) := by decide +kernel
theorem dX2_firstSowing_105 : decode cX2_firstSowing 105 = .ok (.iload_n 3, 1) := by decide +kernel
theorem dX2_firstSowing_106 : decode cX2_firstSowing 106 = .ok (.iadd, 1) := by decide +kernel
theorem dX2_firstSowing_107 : decode cX2_firstSowing 107 = .ok (.lushr, 1) := by decide +kernel
theorem dX2_firstSowing_108 : decode cX2_firstSowing 108 = .ok (.land, 1) := by decide +kernel
theorem dX2_firstSowing_109 : decode cX2_firstSowing 109 = .ok (.lconst 1, 1) := by decide +kernel
theorem dX2_firstSowing_110 : decode cX2_firstSowing 110 = .ok (.land, 1) := by decide +kernel
theorem dX2_firstSowing_111 : decode cX2_firstSowing 111 = .ok (.lconst 0, 1) := by decide +kernel
theorem dX2_firstSowing_112 : decode cX2_firstSowing 112 = .ok (.lcmp, 1) := by decide +kernel
theorem dX2_firstSowing_113 : decode cX2_firstSowing 113 = .ok (.ifCond .eq 6, 3) := by decide +kernel
theorem dX2_firstSowing_116 : decode cX2_firstSowing 116 = .ok (.iload 6, 2) := by decide +kernel
theorem dX2_firstSowing_118 : decode cX2_firstSowing 118 = .ok (.ireturn, 1) := by decide +kernel
theorem dX2_firstSowing_119 : decode cX2_firstSowing 119 = .ok (.iinc 6 1, 3) := by decide +kernel
theorem dX2_firstSowing_122 : decode cX2_firstSowing 122 = .ok (.goto (-35), 3) := by decide +kernel
theorem dX2_firstSowing_125 : decode cX2_firstSowing 125 = .ok (.iconst (-1), 1) := by decide +kernel
theorem dX2_firstSowing_126 : decode cX2_firstSowing 126 = .ok (.ireturn, 1) := by decide +kernel
theorem dX2_leastMore_0 : decode cX2_leastMore 0 = .ok (.aload_n 0, 1) := by decide +kernel
theorem dX2_leastMore_1 : decode cX2_leastMore 1 = .ok (.getfield 17, 3) := by decide +kernel
theorem dX2_leastMore_4 : decode cX2_leastMore 4 = .ok (.getfield 131, 3) := by decide +kernel
theorem dX2_leastMore_7 : decode cX2_leastMore 7 = .ok (.iload_n 3, 1) := by decide +kernel
theorem dX2_leastMore_8 : decode cX2_leastMore 8 = .ok (.iaload, 1) := by decide +kernel
theorem dX2_leastMore_9 : decode cX2_leastMore 9 = .ok (.istore 5, 2) := by decide +kernel
theorem dX2_leastMore_11 : decode cX2_leastMore 11 = .ok (.iload 5, 2) := by decide +kernel
theorem dX2_leastMore_13 : decode cX2_leastMore 13 = .ok (.bipush 99, 2) := by decide +kernel
theorem dX2_leastMore_15 : decode cX2_leastMore 15 = .ok (.if_icmp .gt 59, 3) := by decide +kernel
theorem dX2_leastMore_18 : decode cX2_leastMore 18 = .ok (.aload_n 0, 1) := by decide +kernel
theorem dX2_leastMore_19 : decode cX2_leastMore 19 = .ok (.getfield 11, 3) := by decide +kernel
theorem dX2_leastMore_22 : decode cX2_leastMore 22 = .ok (.iconst 0, 1) := by decide +kernel
theorem dX2_leastMore_23 : decode cX2_leastMore 23 = .ok (.aaload, 1) := by decide +kernel
theorem dX2_leastMore_24 : decode cX2_leastMore 24 = .ok (.aload_n 0, 1) := by decide +kernel
theorem dX2_leastMore_25 : decode cX2_leastMore 25 = .ok (.getfield 17, 3) := by decide +kernel
theorem dX2_leastMore_28 : decode cX2_leastMore 28 = .ok (.invokevirtual 36, 3) := by decide +kernel
theorem dX2_leastMore_31 : decode cX2_leastMore 31 = .ok (.aload_n 0, 1) := by decide +kernel
theorem dX2_leastMore_32 : decode cX2_leastMore 32 = .ok (.getfield 11, 3) := by decide +kernel
theorem dX2_leastMore_35 : decode cX2_leastMore 35 = .ok (.iconst 0, 1) := by decide +kernel
theorem dX2_leastMore_36 : decode cX2_leastMore 36 = .ok (.aaload, 1) := by decide +kernel
theorem dX2_leastMore_37 : decode cX2_leastMore 37 = .ok (.getfield 131, 3) := by decide +kernel
theorem dX2_leastMore_40 : decode cX2_leastMore 40 = .ok (.iload_n 3, 1) := by decide +kernel
theorem dX2_leastMore_41 : decode cX2_leastMore 41 = .ok (.iload 5, 2) := by decide +kernel
theorem dX2_leastMore_43 : decode cX2_leastMore 43 = .ok (.iastore, 1) := by decide +kernel
theorem dX2_leastMore_44 : decode cX2_leastMore 44 = .ok (.aload_n 0, 1) := by decide +kernel
theorem dX2_leastMore_45 : decode cX2_leastMore 45 = .ok (.iload_n 1, 1) := by decide +kernel
theorem dX2_leastMore_46 : decode cX2_leastMore 46 = .ok (.iload_n 2, 1) := by decide +kernel
theorem dX2_leastMore_47 : decode cX2_leastMore 47 = .ok (.iload 4, 2) := by decide +kernel
theorem dX2_leastMore_49 : decode cX2_leastMore 49 = .ok (.invokevirtual 134, 3) := by decide +kernel
theorem dX2_leastMore_52 : decode cX2_leastMore 52 = .ok (.ifCond .eq 16, 3) := by decide +kernel
theorem dX2_leastMore_55 : decode cX2_leastMore 55 = .ok (.iload 5, 2) := by decide +kernel
theorem dX2_leastMore_57 : decode cX2_leastMore 57 = .ok (.aload_n 0, 1) := by decide +kernel
theorem dX2_leastMore_58 : decode cX2_leastMore 58 = .ok (.getfield 17, 3) := by decide +kernel
theorem dX2_leastMore_61 : decode cX2_leastMore 61 = .ok (.getfield 131, 3) := by decide +kernel
theorem dX2_leastMore_64 : decode cX2_leastMore 64 = .ok (.iload_n 3, 1) := by decide +kernel
theorem dX2_leastMore_65 : decode cX2_leastMore 65 = .ok (.iaload, 1) := by decide +kernel
theorem dX2_leastMore_66 : decode cX2_leastMore 66 = .ok (.isub, 1) := by decide +kernel
theorem dX2_leastMore_67 : decode cX2_leastMore 67 = .ok (.ireturn, 1) := by decide +kernel
theorem dX2_leastMore_68 : decode cX2_leastMore 68 = .ok (.iinc 5 1, 3) := by decide +kernel
theorem dX2_leastMore_71 : decode cX2_leastMore 71 = .ok (.goto (-60), 3) := by decide +kernel
theorem dX2_leastMore_74 : decode cX2_leastMore 74 = .ok (.iconst (-1), 1) := by decide +kernel
theorem dX2_leastMore_75 : decode cX2_leastMore 75 = .ok (.ireturn, 1) := by decide +kernel
theorem dX2_isKept_0 : decode cX2_isKept 0 = .ok (.iconst 0, 1) := by decide +kernel
theorem dX2_isKept_1 : decode cX2_isKept 1 = .ok (.istore 4, 2) := by decide +kernel
theorem dX2_isKept_3 : decode cX2_isKept 3 = .ok (.iload 4, 2) := by decide +kernel
theorem dX2_isKept_5 : decode cX2_isKept 5 = .ok (.iload_n 3, 1) := by decide +kernel
theorem dX2_isKept_6 : decode cX2_isKept 6 = .ok (.if_icmp .ge 32, 3) := by decide +kernel
theorem dX2_isKept_9 : decode cX2_isKept 9 = .ok (.aload_n 0, 1) := by decide +kernel
theorem dX2_isKept_10 : decode cX2_isKept 10 = .ok (.iload 4, 2) := by decide +kernel
theorem dX2_isKept_12 : decode cX2_isKept 12 = .ok (.invokevirtual 127, 3) := by decide +kernel
theorem dX2_isKept_15 : decode cX2_isKept 15 = .ok (.pop, 1) := by decide +kernel
theorem dX2_isKept_16 : decode cX2_isKept 16 = .ok (.aload_n 0, 1) := by decide +kernel
theorem dX2_isKept_17 : decode cX2_isKept 17 = .ok (.getfield 11, 3) := by decide +kernel
theorem dX2_isKept_20 : decode cX2_isKept 20 = .ok (.iconst 0, 1) := by decide +kernel
theorem dX2_isKept_21 : decode cX2_isKept 21 = .ok (.aaload, 1) := by decide +kernel
theorem dX2_isKept_22 : decode cX2_isKept 22 = .ok (.iload_n 1, 1) := by decide +kernel
theorem dX2_isKept_23 : decode cX2_isKept 23 = .ok (.iload_n 2, 1) := by decide +kernel
theorem dX2_isKept_24 : decode cX2_isKept 24 = .ok (.invokevirtual 123, 3) := by decide +kernel
theorem dX2_isKept_27 : decode cX2_isKept 27 = .ok (.ifCond .ne 5, 3) := by decide +kernel
theorem dX2_isKept_30 : decode cX2_isKept 30 = .ok (.iconst 0, 1) := by decide +kernel
theorem dX2_isKept_31 : decode cX2_isKept 31 = .ok (.ireturn, 1) := by decide +kernel
theorem dX2_isKept_32 : decode cX2_isKept 32 = .ok (.iinc 4 1, 3) := by decide +kernel
theorem dX2_isKept_35 : decode cX2_isKept 35 = .ok (.goto (-32), 3) := by decide +kernel
theorem dX2_isKept_38 : decode cX2_isKept 38 = .ok (.iconst 1, 1) := by decide +kernel
theorem dX2_isKept_39 : decode cX2_isKept 39 = .ok (.ireturn, 1) := by decide +kernel
theorem dX2_calmHours_0 : decode cX2_calmHours 0 = .ok (.aload_n 0, 1) := by decide +kernel
theorem dX2_calmHours_1 : decode cX2_calmHours 1 = .ok (.getfield 11, 3) := by decide +kernel
theorem dX2_calmHours_4 : decode cX2_calmHours 4 = .ok (.iconst 0, 1) := by decide +kernel
theorem dX2_calmHours_5 : decode cX2_calmHours 5 = .ok (.aaload, 1) := by decide +kernel
theorem dX2_calmHours_6 : decode cX2_calmHours 6 = .ok (.aload_n 0, 1) := by decide +kernel
theorem dX2_calmHours_7 : decode cX2_calmHours 7 = .ok (.getfield 17, 3) := by decide +kernel
theorem dX2_calmHours_10 : decode cX2_calmHours 10 = .ok (.invokevirtual 36, 3) := by decide +kernel
theorem dX2_calmHours_13 : decode cX2_calmHours 13 = .ok (.iconst 0, 1) := by decide +kernel
theorem dX2_calmHours_14 : decode cX2_calmHours 14 = .ok (.istore_n 1, 1) := by decide +kernel
theorem dX2_calmHours_15 : decode cX2_calmHours 15 = .ok (.iload_n 1, 1) := by decide +kernel
theorem dX2_calmHours_16 : decode cX2_calmHours 16 = .ok (.bipush 40, 2) := by decide +kernel
theorem dX2_calmHours_18 : decode cX2_calmHours 18 = .ok (.if_icmp .ge 19, 3) := by decide +kernel
theorem dX2_calmHours_21 : decode cX2_calmHours 21 = .ok (.aload_n 0, 1) := by decide +kernel
theorem dX2_calmHours_22 : decode cX2_calmHours 22 = .ok (.iload_n 1, 1) := by decide +kernel
theorem dX2_calmHours_23 : decode cX2_calmHours 23 = .ok (.invokevirtual 127, 3) := by decide +kernel
theorem dX2_calmHours_26 : decode cX2_calmHours 26 = .ok (.ifCond .le 5, 3) := by decide +kernel
theorem dX2_calmHours_29 : decode cX2_calmHours 29 = .ok (.iload_n 1, 1) := by decide +kernel
theorem dX2_calmHours_30 : decode cX2_calmHours 30 = .ok (.ireturn, 1) := by decide +kernel
theorem dX2_calmHours_31 : decode cX2_calmHours 31 = .ok (.iinc 1 1, 3) := by decide +kernel
theorem dX2_calmHours_34 : decode cX2_calmHours 34 = .ok (.goto (-19), 3) := by decide +kernel
theorem dX2_calmHours_37 : decode cX2_calmHours 37 = .ok (.bipush 40, 2) := by decide +kernel
theorem dX2_calmHours_39 : decode cX2_calmHours 39 = .ok (.ireturn, 1) := by decide +kernel
theorem dX2_disputedBehind_0 : decode cX2_disputedBehind 0 = .ok (.iconst 0, 1) := by decide +kernel
theorem dX2_disputedBehind_1 : decode cX2_disputedBehind 1 = .ok (.istore_n 2, 1) := by decide +kernel
theorem dX2_disputedBehind_2 : decode cX2_disputedBehind 2 = .ok (.aload_n 0, 1) := by decide +kernel
theorem dX2_disputedBehind_3 : decode cX2_disputedBehind 3 = .ok (.getfield 11, 3) := by decide +kernel
theorem dX2_disputedBehind_6 : decode cX2_disputedBehind 6 = .ok (.iconst 0, 1) := by decide +kernel
theorem dX2_disputedBehind_7 : decode cX2_disputedBehind 7 = .ok (.aaload, 1) := by decide +kernel
theorem dX2_disputedBehind_8 : decode cX2_disputedBehind 8 = .ok (.aload_n 0, 1) := by decide +kernel
theorem dX2_disputedBehind_9 : decode cX2_disputedBehind 9 = .ok (.getfield 17, 3) := by decide +kernel
theorem dX2_disputedBehind_12 : decode cX2_disputedBehind 12 = .ok (.invokevirtual 36, 3) := by decide +kernel
theorem dX2_disputedBehind_15 : decode cX2_disputedBehind 15 = .ok (.iconst 0, 1) := by decide +kernel
theorem dX2_disputedBehind_16 : decode cX2_disputedBehind 16 = .ok (.istore_n 3, 1) := by decide +kernel
theorem dX2_disputedBehind_17 : decode cX2_disputedBehind 17 = .ok (.iload_n 3, 1) := by decide +kernel
theorem dX2_disputedBehind_18 : decode cX2_disputedBehind 18 = .ok (.iload_n 1, 1) := by decide +kernel
theorem dX2_disputedBehind_19 : decode cX2_disputedBehind 19 = .ok (.if_icmp .ge 27, 3) := by decide +kernel
theorem dX2_disputedBehind_22 : decode cX2_disputedBehind 22 = .ok (.aload_n 0, 1) := by decide +kernel
theorem dX2_disputedBehind_23 : decode cX2_disputedBehind 23 = .ok (.iload_n 3, 1) := by decide +kernel
theorem dX2_disputedBehind_24 : decode cX2_disputedBehind 24 = .ok (.invokevirtual 127, 3) := by decide +kernel
theorem dX2_disputedBehind_27 : decode cX2_disputedBehind 27 = .ok (.pop, 1) := by decide +kernel
theorem dX2_disputedBehind_28 : decode cX2_disputedBehind 28 = .ok (.iload_n 2, 1) := by decide +kernel
theorem dX2_disputedBehind_29 : decode cX2_disputedBehind 29 = .ok (.aload_n 0, 1) := by decide +kernel
theorem dX2_disputedBehind_30 : decode cX2_disputedBehind 30 = .ok (.getfield 11, 3) := by decide +kernel
theorem dX2_disputedBehind_33 : decode cX2_disputedBehind 33 = .ok (.iconst 0, 1) := by decide +kernel
theorem dX2_disputedBehind_34 : decode cX2_disputedBehind 34 = .ok (.aaload, 1) := by decide +kernel
theorem dX2_disputedBehind_35 : decode cX2_disputedBehind 35 = .ok (.invokevirtual 138, 3) := by decide +kernel
theorem dX2_disputedBehind_38 : decode cX2_disputedBehind 38 = .ok (.iadd, 1) := by decide +kernel
theorem dX2_disputedBehind_39 : decode cX2_disputedBehind 39 = .ok (.istore_n 2, 1) := by decide +kernel
theorem dX2_disputedBehind_40 : decode cX2_disputedBehind 40 = .ok (.iinc 3 1, 3) := by decide +kernel
theorem dX2_disputedBehind_43 : decode cX2_disputedBehind 43 = .ok (.goto (-26), 3) := by decide +kernel
theorem dX2_disputedBehind_46 : decode cX2_disputedBehind 46 = .ok (.iload_n 2, 1) := by decide +kernel
theorem dX2_disputedBehind_47 : decode cX2_disputedBehind 47 = .ok (.ireturn, 1) := by decide +kernel
theorem dX2_makers_0 : decode cX2_makers 0 = .ok (.iconst 0, 1) := by decide +kernel
theorem dX2_makers_1 : decode cX2_makers 1 = .ok (.istore_n 1, 1) := by decide +kernel
theorem dX2_makers_2 : decode cX2_makers 2 = .ok (.iconst 0, 1) := by decide +kernel
theorem dX2_makers_3 : decode cX2_makers 3 = .ok (.istore_n 2, 1) := by decide +kernel
theorem dX2_makers_4 : decode cX2_makers 4 = .ok (.iload_n 2, 1) := by decide +kernel
theorem dX2_makers_5 : decode cX2_makers 5 = .ok (.aload_n 0, 1) := by decide +kernel
theorem dX2_makers_6 : decode cX2_makers 6 = .ok (.getfield 21, 3) := by decide +kernel
theorem dX2_makers_9 : decode cX2_makers 9 = .ok (.getfield 103, 3) := by decide +kernel
theorem dX2_makers_12 : decode cX2_makers 12 = .ok (.if_icmp .ge 60, 3) := by decide +kernel
theorem dX2_makers_15 : decode cX2_makers 15 = .ok (.aload_n 0, 1) := by decide +kernel
theorem dX2_makers_16 : decode cX2_makers 16 = .ok (.getfield 11, 3) := by decide +kernel
theorem dX2_makers_19 : decode cX2_makers 19 = .ok (.iconst 0, 1) := by decide +kernel
theorem dX2_makers_20 : decode cX2_makers 20 = .ok (.aaload, 1) := by decide +kernel
theorem dX2_makers_21 : decode cX2_makers 21 = .ok (.aload_n 0, 1) := by decide +kernel
theorem dX2_makers_22 : decode cX2_makers 22 = .ok (.getfield 17, 3) := by decide +kernel
theorem dX2_makers_25 : decode cX2_makers 25 = .ok (.invokevirtual 36, 3) := by decide +kernel
theorem dX2_makers_28 : decode cX2_makers 28 = .ok (.aload_n 0, 1) := by decide +kernel
theorem dX2_makers_29 : decode cX2_makers 29 = .ok (.getfield 25, 3) := by decide +kernel
theorem dX2_makers_32 : decode cX2_makers 32 = .ok (.aload_n 0, 1) := by decide +kernel
theorem dX2_makers_33 : decode cX2_makers 33 = .ok (.getfield 11, 3) := by decide +kernel
theorem dX2_makers_36 : decode cX2_makers 36 = .ok (.iconst 0, 1) := by decide +kernel
theorem dX2_makers_37 : decode cX2_makers 37 = .ok (.aaload, 1) := by decide +kernel
theorem dX2_makers_38 : decode cX2_makers 38 = .ok (.iload_n 2, 1) := by decide +kernel
theorem dX2_makers_39 : decode cX2_makers 39 = .ok (.invokevirtual 110, 3) := by decide +kernel
theorem dX2_makers_42 : decode cX2_makers 42 = .ok (.pop, 1) := by decide +kernel
theorem dX2_makers_43 : decode cX2_makers 43 = .ok (.iload_n 1, 1) := by decide +kernel
theorem dX2_makers_44 : decode cX2_makers 44 = .ok (.aload_n 0, 1) := by decide +kernel
theorem dX2_makers_45 : decode cX2_makers 45 = .ok (.aload_n 0, 1) := by decide +kernel
theorem dX2_makers_46 : decode cX2_makers 46 = .ok (.getfield 11, 3) := by decide +kernel
theorem dX2_makers_49 : decode cX2_makers 49 = .ok (.iconst 0, 1) := by decide +kernel
theorem dX2_makers_50 : decode cX2_makers 50 = .ok (.aaload, 1) := by decide +kernel
theorem dX2_makers_51 : decode cX2_makers 51 = .ok (.invokevirtual 142, 3) := by decide +kernel
theorem dX2_makers_54 : decode cX2_makers 54 = .ok (.ifCond .eq 9, 3) := by decide +kernel
theorem dX2_makers_57 : decode cX2_makers 57 = .ok (.iconst 1, 1) := by decide +kernel
theorem dX2_makers_58 : decode cX2_makers 58 = .ok (.iload_n 2, 1) := by decide +kernel
theorem dX2_makers_59 : decode cX2_makers 59 = .ok (.ishl, 1) := by decide +kernel
theorem dX2_makers_60 : decode cX2_makers 60 = .ok (.goto 4, 3) := by decide +kernel
theorem dX2_makers_63 : decode cX2_makers 63 = .ok (.iconst 0, 1) := by decide +kernel
theorem dX2_makers_64 : decode cX2_makers 64 = .ok (.ior, 1) := by decide +kernel
theorem dX2_makers_65 : decode cX2_makers 65 = .ok (.istore_n 1, 1) := by decide +kernel
theorem dX2_makers_66 : decode cX2_makers 66 = .ok (.iinc 2 1, 3) := by decide +kernel
theorem dX2_makers_69 : decode cX2_makers 69 = .ok (.goto (-65), 3) := by decide +kernel
theorem dX2_makers_72 : decode cX2_makers 72 = .ok (.iload_n 1, 1) := by decide +kernel
theorem dX2_makers_73 : decode cX2_makers 73 = .ok (.ireturn, 1) := by decide +kernel
theorem dX2_isMapped_0 : decode cX2_isMapped 0 = .ok (.iconst 0, 1) := by decide +kernel
theorem dX2_isMapped_1 : decode cX2_isMapped 1 = .ok (.istore_n 2, 1) := by decide +kernel
theorem dX2_isMapped_2 : decode cX2_isMapped 2 = .ok (.iload_n 2, 1) := by decide +kernel
theorem dX2_isMapped_3 : decode cX2_isMapped 3 = .ok (.aload_n 1, 1) := by decide +kernel
theorem dX2_isMapped_4 : decode cX2_isMapped 4 = .ok (.getfield 66, 3) := by decide +kernel
theorem dX2_isMapped_7 : decode cX2_isMapped 7 = .ok (.if_icmp .ge 42, 3) := by decide +kernel
theorem dX2_isMapped_10 : decode cX2_isMapped 10 = .ok (.aload_n 0, 1) := by decide +kernel
theorem dX2_isMapped_11 : decode cX2_isMapped 11 = .ok (.getfield 21, 3) := by decide +kernel
theorem dX2_isMapped_14 : decode cX2_isMapped 14 = .ok (.getfield 146, 3) := by decide +kernel
theorem dX2_isMapped_17 : decode cX2_isMapped 17 = .ok (.iload_n 2, 1) := by decide +kernel
theorem dX2_isMapped_18 : decode cX2_isMapped 18 = .ok (.iaload, 1) := by decide +kernel
theorem dX2_isMapped_19 : decode cX2_isMapped 19 = .ok (.iconst (-1), 1) := by decide +kernel
theorem dX2_isMapped_20 : decode cX2_isMapped 20 = .ok (.if_icmp .eq 23, 3) := by decide +kernel
theorem dX2_isMapped_23 : decode cX2_isMapped 23 = .ok (.aload_n 0, 1) := by decide +kernel
theorem dX2_isMapped_24 : decode cX2_isMapped 24 = .ok (.getfield 21, 3) := by decide +kernel
theorem dX2_isMapped_27 : decode cX2_isMapped 27 = .ok (.getfield 146, 3) := by decide +kernel
theorem dX2_isMapped_30 : decode cX2_isMapped 30 = .ok (.iload_n 2, 1) := by decide +kernel
theorem dX2_isMapped_31 : decode cX2_isMapped 31 = .ok (.iaload, 1) := by decide +kernel
theorem dX2_isMapped_32 : decode cX2_isMapped 32 = .ok (.aload_n 1, 1) := by decide +kernel
theorem dX2_isMapped_33 : decode cX2_isMapped 33 = .ok (.getfield 149, 3) := by decide +kernel
theorem dX2_isMapped_36 : decode cX2_isMapped 36 = .ok (.iload_n 2, 1) := by decide +kernel
theorem dX2_isMapped_37 : decode cX2_isMapped 37 = .ok (.iaload, 1) := by decide +kernel
theorem dX2_isMapped_38 : decode cX2_isMapped 38 = .ok (.if_icmp .eq 5, 3) := by decide +kernel
theorem dX2_isMapped_41 : decode cX2_isMapped 41 = .ok (.iconst 0, 1) := by decide +kernel
theorem dX2_isMapped_42 : decode cX2_isMapped 42 = .ok (.ireturn, 1) := by decide +kernel
theorem dX2_isMapped_43 : decode cX2_isMapped 43 = .ok (.iinc 2 1, 3) := by decide +kernel
theorem dX2_isMapped_46 : decode cX2_isMapped 46 = .ok (.goto (-44), 3) := by decide +kernel
theorem dX2_isMapped_49 : decode cX2_isMapped 49 = .ok (.iconst 1, 1) := by decide +kernel
theorem dX2_isMapped_50 : decode cX2_isMapped 50 = .ok (.ireturn, 1) := by decide +kernel
theorem dX3_init_0 : decode cX3_init 0 = .ok (.aload_n 0, 1) := by decide +kernel
theorem dX3_init_1 : decode cX3_init 1 = .ok (.invokespecial 3, 3) := by decide +kernel
theorem dX3_init_4 : decode cX3_init 4 = .ok (.aload_n 0, 1) := by decide +kernel
theorem dX3_init_5 : decode cX3_init 5 = .ok (.bipush 24, 2) := by decide +kernel
theorem dX3_init_7 : decode cX3_init 7 = .ok (.newarray .int, 2) := by decide +kernel
theorem dX3_init_9 : decode cX3_init 9 = .ok (.putfield 9, 3) := by decide +kernel
theorem dX3_init_12 : decode cX3_init 12 = .ok (.aload_n 0, 1) := by decide +kernel
theorem dX3_init_13 : decode cX3_init 13 = .ok (.bipush 24, 2) := by decide +kernel
theorem dX3_init_15 : decode cX3_init 15 = .ok (.newarray .int, 2) := by decide +kernel
theorem dX3_init_17 : decode cX3_init 17 = .ok (.putfield 15, 3) := by decide +kernel
theorem dX3_init_20 : decode cX3_init 20 = .ok (.aload_n 0, 1) := by decide +kernel
theorem dX3_init_21 : decode cX3_init 21 = .ok (.bipush 24, 2) := by decide +kernel
theorem dX3_init_23 : decode cX3_init 23 = .ok (.newarray .int, 2) := by decide +kernel
theorem dX3_init_25 : decode cX3_init 25 = .ok (.putfield 18, 3) := by decide +kernel
theorem dX3_init_28 : decode cX3_init 28 = .ok (.aload_n 0, 1) := by decide +kernel
theorem dX3_init_29 : decode cX3_init 29 = .ok (.bipush 6, 2) := by decide +kernel
theorem dX3_init_31 : decode cX3_init 31 = .ok (.newarray .int, 2) := by decide +kernel
theorem dX3_init_33 : decode cX3_init 33 = .ok (.putfield 21, 3) := by decide +kernel
theorem dX3_init_36 : decode cX3_init 36 = .ok (.aload_n 0, 1) := by decide +kernel
theorem dX3_init_37 : decode cX3_init 37 = .ok (.bipush 6, 2) := by decide +kernel
theorem dX3_init_39 : decode cX3_init 39 = .ok (.newarray .int, 2) := by decide +kernel
theorem dX3_init_41 : decode cX3_init 41 = .ok (.putfield 24, 3) := by decide +kernel
theorem dX3_init_44 : decode cX3_init 44 = .ok (.aload_n 0, 1) := by decide +kernel
theorem dX3_init_45 : decode cX3_init 45 = .ok (.aload_n 1, 1) := by decide +kernel
theorem dX3_init_46 : decode cX3_init 46 = .ok (.putfield 27, 3) := by decide +kernel
theorem dX3_init_49 : decode cX3_init 49 = .ok (.aload_n 0, 1) := by decide +kernel
theorem dX3_init_50 : decode cX3_init 50 = .ok (.aload_n 1, 1) := by decide +kernel
theorem dX3_init_51 : decode cX3_init 51 = .ok (.getfield 31, 3) := by decide +kernel
theorem dX3_init_54 : decode cX3_init 54 = .ok (.newarray .int, 2) := by decide +kernel
theorem dX3_init_56 : decode cX3_init 56 = .ok (.putfield 36, 3) := by decide +kernel
theorem dX3_init_59 : decode cX3_init 59 = .ok (.aload_n 0, 1) := by decide +kernel
theorem dX3_init_60 : decode cX3_init 60 = .ok (.getfield 36, 3) := by decide +kernel
theorem dX3_init_63 : decode cX3_init 63 = .ok (.iconst (-1), 1) := by decide +kernel
theorem dX3_init_64 : decode cX3_init 64 = .ok (.invokestatic 39, 3) := by decide +kernel
theorem dX3_init_67 : decode cX3_init 67 = .ok (.aload_n 0, 1) := by decide +kernel
theorem dX3_init_68 : decode cX3_init 68 = .ok (.getfield 21, 3) := by decide +kernel
theorem dX3_init_71 : decode cX3_init 71 = .ok (.iconst (-1), 1) := by decide +kernel
theorem dX3_init_72 : decode cX3_init 72 = .ok (.invokestatic 39, 3) := by decide +kernel
theorem dX3_init_75 : decode cX3_init 75 = .ok (.return_, 1) := by decide +kernel
theorem dX3_copyFrom_0 : decode cX3_copyFrom 0 = .ok (.aload_n 1, 1) := by decide +kernel
theorem dX3_copyFrom_1 : decode cX3_copyFrom 1 = .ok (.getfield 9, 3) := by decide +kernel
theorem dX3_copyFrom_4 : decode cX3_copyFrom 4 = .ok (.iconst 0, 1) := by decide +kernel
theorem dX3_copyFrom_5 : decode cX3_copyFrom 5 = .ok (.aload_n 0, 1) := by decide +kernel
theorem dX3_copyFrom_6 : decode cX3_copyFrom 6 = .ok (.getfield 9, 3) := by decide +kernel
theorem dX3_copyFrom_9 : decode cX3_copyFrom 9 = .ok (.iconst 0, 1) := by decide +kernel
theorem dX3_copyFrom_10 : decode cX3_copyFrom 10 = .ok (.bipush 24, 2) := by decide +kernel
theorem dX3_copyFrom_12 : decode cX3_copyFrom 12 = .ok (.invokestatic 45, 3) := by decide +kernel
theorem dX3_copyFrom_15 : decode cX3_copyFrom 15 = .ok (.aload_n 1, 1) := by decide +kernel
theorem dX3_copyFrom_16 : decode cX3_copyFrom 16 = .ok (.getfield 15, 3) := by decide +kernel
theorem dX3_copyFrom_19 : decode cX3_copyFrom 19 = .ok (.iconst 0, 1) := by decide +kernel
theorem dX3_copyFrom_20 : decode cX3_copyFrom 20 = .ok (.aload_n 0, 1) := by decide +kernel
theorem dX3_copyFrom_21 : decode cX3_copyFrom 21 = .ok (.getfield 15, 3) := by decide +kernel
theorem dX3_copyFrom_24 : decode cX3_copyFrom 24 = .ok (.iconst 0, 1) := by decide +kernel
theorem dX3_copyFrom_25 : decode cX3_copyFrom 25 = .ok (.bipush 24, 2) := by decide +kernel
theorem dX3_copyFrom_27 : decode cX3_copyFrom 27 = .ok (.invokestatic 45, 3) := by decide +kernel
theorem dX3_copyFrom_30 : decode cX3_copyFrom 30 = .ok (.aload_n 1, 1) := by decide +kernel
theorem dX3_copyFrom_31 : decode cX3_copyFrom 31 = .ok (.getfield 18, 3) := by decide +kernel
theorem dX3_copyFrom_34 : decode cX3_copyFrom 34 = .ok (.iconst 0, 1) := by decide +kernel
theorem dX3_copyFrom_35 : decode cX3_copyFrom 35 = .ok (.aload_n 0, 1) := by decide +kernel
theorem dX3_copyFrom_36 : decode cX3_copyFrom 36 = .ok (.getfield 18, 3) := by decide +kernel
theorem dX3_copyFrom_39 : decode cX3_copyFrom 39 = .ok (.iconst 0, 1) := by decide +kernel
theorem dX3_copyFrom_40 : decode cX3_copyFrom 40 = .ok (.bipush 24, 2) := by decide +kernel
theorem dX3_copyFrom_42 : decode cX3_copyFrom 42 = .ok (.invokestatic 45, 3) := by decide +kernel
theorem dX3_copyFrom_45 : decode cX3_copyFrom 45 = .ok (.aload_n 1, 1) := by decide +kernel
theorem dX3_copyFrom_46 : decode cX3_copyFrom 46 = .ok (.getfield 21, 3) := by decide +kernel
theorem dX3_copyFrom_49 : decode cX3_copyFrom 49 = .ok (.iconst 0, 1) := by decide +kernel
theorem dX3_copyFrom_50 : decode cX3_copyFrom 50 = .ok (.aload_n 0, 1) := by decide +kernel
theorem dX3_copyFrom_51 : decode cX3_copyFrom 51 = .ok (.getfield 21, 3) := by decide +kernel
theorem dX3_copyFrom_54 : decode cX3_copyFrom 54 = .ok (.iconst 0, 1) := by decide +kernel
theorem dX3_copyFrom_55 : decode cX3_copyFrom 55 = .ok (.bipush 6, 2) := by decide +kernel
theorem dX3_copyFrom_57 : decode cX3_copyFrom 57 = .ok (.invokestatic 45, 3) := by decide +kernel
theorem dX3_copyFrom_60 : decode cX3_copyFrom 60 = .ok (.aload_n 1, 1) := by decide +kernel
theorem dX3_copyFrom_61 : decode cX3_copyFrom 61 = .ok (.getfield 24, 3) := by decide +kernel
theorem dX3_copyFrom_64 : decode cX3_copyFrom 64 = .ok (.iconst 0, 1) := by decide +kernel
theorem dX3_copyFrom_65 : decode cX3_copyFrom 65 = .ok (.aload_n 0, 1) := by decide +kernel
theorem dX3_copyFrom_66 : decode cX3_copyFrom 66 = .ok (.getfield 24, 3) := by decide +kernel
theorem dX3_copyFrom_69 : decode cX3_copyFrom 69 = .ok (.iconst 0, 1) := by decide +kernel
theorem dX3_copyFrom_70 : decode cX3_copyFrom 70 = .ok (.bipush 6, 2) := by decide +kernel
theorem dX3_copyFrom_72 : decode cX3_copyFrom 72 = .ok (.invokestatic 45, 3) := by decide +kernel
theorem dX3_copyFrom_75 : decode cX3_copyFrom 75 = .ok (.aload_n 1, 1) := by decide +kernel
theorem dX3_copyFrom_76 : decode cX3_copyFrom 76 = .ok (.getfield 36, 3) := by decide +kernel
theorem dX3_copyFrom_79 : decode cX3_copyFrom 79 = .ok (.iconst 0, 1) := by decide +kernel
theorem dX3_copyFrom_80 : decode cX3_copyFrom 80 = .ok (.aload_n 0, 1) := by decide +kernel
theorem dX3_copyFrom_81 : decode cX3_copyFrom 81 = .ok (.getfield 36, 3) := by decide +kernel
theorem dX3_copyFrom_84 : decode cX3_copyFrom 84 = .ok (.iconst 0, 1) := by decide +kernel
theorem dX3_copyFrom_85 : decode cX3_copyFrom 85 = .ok (.aload_n 0, 1) := by decide +kernel
theorem dX3_copyFrom_86 : decode cX3_copyFrom 86 = .ok (.getfield 36, 3) := by decide +kernel
theorem dX3_copyFrom_89 : decode cX3_copyFrom 89 = .ok (.arraylength, 1) := by decide +kernel
theorem dX3_copyFrom_90 : decode cX3_copyFrom 90 = .ok (.aload_n 1, 1) := by decide +kernel
theorem dX3_copyFrom_91 : decode cX3_copyFrom 91 = .ok (.getfield 36, 3) := by decide +kernel
theorem dX3_copyFrom_94 : decode cX3_copyFrom 94 = .ok (.arraylength, 1) := by decide +kernel
theorem dX3_copyFrom_95 : decode cX3_copyFrom 95 = .ok (.invokestatic 51, 3) := by decide +kernel
theorem dX3_copyFrom_98 : decode cX3_copyFrom 98 = .ok (.invokestatic 45, 3) := by decide +kernel
theorem dX3_copyFrom_101 : decode cX3_copyFrom 101 = .ok (.aload_n 0, 1) := by decide +kernel
theorem dX3_copyFrom_102 : decode cX3_copyFrom 102 = .ok (.aload_n 1, 1) := by decide +kernel
theorem dX3_copyFrom_103 : decode cX3_copyFrom 103 = .ok (.getfield 57, 3) := by decide +kernel
theorem dX3_copyFrom_106 : decode cX3_copyFrom 106 = .ok (.putfield 57, 3) := by decide +kernel
theorem dX3_copyFrom_109 : decode cX3_copyFrom 109 = .ok (.aload_n 0, 1) := by decide +kernel
theorem dX3_copyFrom_110 : decode cX3_copyFrom 110 = .ok (.aload_n 1, 1) := by decide +kernel
theorem dX3_copyFrom_111 : decode cX3_copyFrom 111 = .ok (.getfield 60, 3) := by decide +kernel
theorem dX3_copyFrom_114 : decode cX3_copyFrom 114 = .ok (.putfield 60, 3) := by decide +kernel
theorem dX3_copyFrom_117 : decode cX3_copyFrom 117 = .ok (.aload_n 0, 1) := by decide +kernel
theorem dX3_copyFrom_118 : decode cX3_copyFrom 118 = .ok (.aload_n 1, 1) := by decide +kernel
theorem dX3_copyFrom_119 : decode cX3_copyFrom 119 = .ok (.getfield 63, 3) := by decide +kernel
theorem dX3_copyFrom_122 : decode cX3_copyFrom 122 = .ok (.putfield 63, 3) := by decide +kernel
theorem dX3_copyFrom_125 : decode cX3_copyFrom 125 = .ok (.aload_n 0, 1) := by decide +kernel
theorem dX3_copyFrom_126 : decode cX3_copyFrom 126 = .ok (.aload_n 1, 1) := by decide +kernel
theorem dX3_copyFrom_127 : decode cX3_copyFrom 127 = .ok (.getfield 67, 3) := by decide +kernel
theorem dX3_copyFrom_130 : decode cX3_copyFrom 130 = .ok (.putfield 67, 3) := by decide +kernel
theorem dX3_copyFrom_133 : decode cX3_copyFrom 133 = .ok (.aload_n 0, 1) := by decide +kernel
theorem dX3_copyFrom_134 : decode cX3_copyFrom 134 = .ok (.aload_n 1, 1) := by decide +kernel
theorem dX3_copyFrom_135 : decode cX3_copyFrom 135 = .ok (.getfield 70, 3) := by decide +kernel
theorem dX3_copyFrom_138 : decode cX3_copyFrom 138 = .ok (.putfield 70, 3) := by decide +kernel
theorem dX3_copyFrom_141 : decode cX3_copyFrom 141 = .ok (.return_, 1) := by decide +kernel
theorem dX3_isBone_0 : decode cX3_isBone 0 = .ok (.iload_n 1, 1) := by decide +kernel
theorem dX3_isBone_1 : decode cX3_isBone 1 = .ok (.ifCond .lt 15, 3) := by decide +kernel
theorem dX3_isBone_4 : decode cX3_isBone 4 = .ok (.iload_n 1, 1) := by decide +kernel
theorem dX3_isBone_5 : decode cX3_isBone 5 = .ok (.aload_n 0, 1) := by decide +kernel
theorem dX3_isBone_6 : decode cX3_isBone 6 = .ok (.getfield 57, 3) := by decide +kernel
theorem dX3_isBone_9 : decode cX3_isBone 9 = .ok (.if_icmp .ge 7, 3) := by decide +kernel
theorem dX3_isBone_12 : decode cX3_isBone 12 = .ok (.iconst 1, 1) := by decide +kernel
theorem dX3_isBone_13 : decode cX3_isBone 13 = .ok (.goto 4, 3) := by decide +kernel
theorem dX3_isBone_16 : decode cX3_isBone 16 = .ok (.iconst 0, 1) := by decide +kernel
theorem dX3_isBone_17 : decode cX3_isBone 17 = .ok (.ireturn, 1) := by decide +kernel
theorem dX3_isOpen_0 : decode cX3_isOpen 0 = .ok (.aload_n 0, 1) := by decide +kernel
theorem dX3_isOpen_1 : decode cX3_isOpen 1 = .ok (.getfield 27, 3) := by decide +kernel
theorem dX3_isOpen_4 : decode cX3_isOpen 4 = .ok (.iload_n 1, 1) := by decide +kernel
theorem dX3_isOpen_5 : decode cX3_isOpen 5 = .ok (.invokevirtual 73, 3) := by decide +kernel
theorem dX3_isOpen_8 : decode cX3_isOpen 8 = .ok (.ifCond .eq 25, 3) := by decide +kernel
theorem dX3_isOpen_11 : decode cX3_isOpen 11 = .ok (.aload_n 0, 1) := by decide +kernel
theorem dX3_isOpen_12 : decode cX3_isOpen 12 = .ok (.getfield 67, 3) := by decide +kernel
theorem dX3_isOpen_15 : decode cX3_isOpen 15 = .ok (.aload_n 0, 1) := by decide +kernel
theorem dX3_isOpen_16 : decode cX3_isOpen 16 = .ok (.getfield 70, 3) := by decide +kernel
theorem dX3_isOpen_19 : decode cX3_isOpen 19 = .ok (.lor, 1) := by decide +kernel
theorem dX3_isOpen_20 : decode cX3_isOpen 20 = .ok (.iload_n 1, 1) := by decide +kernel
theorem dX3_isOpen_21 : decode cX3_isOpen 21 = .ok (.lushr, 1) := by decide +kernel
theorem dX3_isOpen_22 : decode cX3_isOpen 22 = .ok (.lconst 1, 1) := by decide +kernel
theorem dX3_isOpen_23 : decode cX3_isOpen 23 = .ok (.land, 1) := by decide +kernel
theorem dX3_isOpen_24 : decode cX3_isOpen 24 = .ok (.lconst 0, 1) := by decide +kernel
theorem dX3_isOpen_25 : decode cX3_isOpen 25 = .ok (.lcmp, 1) := by decide +kernel
theorem dX3_isOpen_26 : decode cX3_isOpen 26 = .ok (.ifCond .ne 7, 3) := by decide +kernel
theorem dX3_isOpen_29 : decode cX3_isOpen 29 = .ok (.iconst 1, 1) := by decide +kernel
theorem dX3_isOpen_30 : decode cX3_isOpen 30 = .ok (.goto 4, 3) := by decide +kernel
theorem dX3_isOpen_33 : decode cX3_isOpen 33 = .ok (.iconst 0, 1) := by decide +kernel
theorem dX3_isOpen_34 : decode cX3_isOpen 34 = .ok (.ireturn, 1) := by decide +kernel
theorem dX3_addBone_0 : decode cX3_addBone 0 = .ok (.iload_n 2, 1) := by decide +kernel
theorem dX3_addBone_1 : decode cX3_addBone 1 = .ok (.iconst 1, 1) := by decide +kernel
theorem dX3_addBone_2 : decode cX3_addBone 2 = .ok (.if_icmp .lt 26, 3) := by decide +kernel
theorem dX3_addBone_5 : decode cX3_addBone 5 = .ok (.iload_n 2, 1) := by decide +kernel
theorem dX3_addBone_6 : decode cX3_addBone 6 = .ok (.bipush 99, 2) := by decide +kernel
theorem dX3_addBone_8 : decode cX3_addBone 8 = .ok (.if_icmp .gt 20, 3) := by decide +kernel
theorem dX3_addBone_11 : decode cX3_addBone 11 = .ok (.aload_n 0, 1) := by decide +kernel
theorem dX3_addBone_12 : decode cX3_addBone 12 = .ok (.getfield 57, 3) := by decide +kernel
theorem dX3_addBone_15 : decode cX3_addBone 15 = .ok (.bipush 24, 2) := by decide +kernel
theorem dX3_addBone_17 : decode cX3_addBone 17 = .ok (.if_icmp .ge 11, 3) := by decide +kernel
theorem dX3_addBone_20 : decode cX3_addBone 20 = .ok (.aload_n 0, 1) := by decide +kernel
theorem dX3_addBone_21 : decode cX3_addBone 21 = .ok (.iload_n 1, 1) := by decide +kernel
theorem dX3_addBone_22 : decode cX3_addBone 22 = .ok (.invokevirtual 77, 3) := by decide +kernel
theorem dX3_addBone_25 : decode cX3_addBone 25 = .ok (.ifCond .ne 5, 3) := by decide +kernel
theorem dX3_addBone_28 : decode cX3_addBone 28 = .ok (.iconst (-1), 1) := by decide +kernel
theorem dX3_addBone_29 : decode cX3_addBone 29 = .ok (.ireturn, 1) := by decide +kernel
theorem dX3_addBone_30 : decode cX3_addBone 30 = .ok (.aload_n 0, 1) := by decide +kernel
theorem dX3_addBone_31 : decode cX3_addBone 31 = .ok (.getfield 57, 3) := by decide +kernel
theorem dX3_addBone_34 : decode cX3_addBone 34 = .ok (.istore_n 3, 1) := by decide +kernel
theorem dX3_addBone_35 : decode cX3_addBone 35 = .ok (.aload_n 0, 1) := by decide +kernel
theorem dX3_addBone_36 : decode cX3_addBone 36 = .ok (.dup, 1) := by decide +kernel
theorem dX3_addBone_37 : decode cX3_addBone 37 = .ok (.getfield 57, 3) := by decide +kernel
theorem dX3_addBone_40 : decode cX3_addBone 40 = .ok (.iconst 1, 1) := by decide +kernel
theorem dX3_addBone_41 : decode cX3_addBone 41 = .ok (.iadd, 1) := by decide +kernel
theorem dX3_addBone_42 : decode cX3_addBone 42 = .ok (.putfield 57, 3) := by decide +kernel
theorem dX3_addBone_45 : decode cX3_addBone 45 = .ok (.aload_n 0, 1) := by decide +kernel
theorem dX3_addBone_46 : decode cX3_addBone 46 = .ok (.getfield 9, 3) := by decide +kernel
theorem dX3_addBone_49 : decode cX3_addBone 49 = .ok (.iload_n 3, 1) := by decide +kernel
theorem dX3_addBone_50 : decode cX3_addBone 50 = .ok (.iload_n 1, 1) := by decide +kernel
theorem dX3_addBone_51 : decode cX3_addBone 51 = .ok (.iastore, 1) := by decide +kernel
theorem dX3_addBone_52 : decode cX3_addBone 52 = .ok (.aload_n 0, 1) := by decide +kernel
theorem dX3_addBone_53 : decode cX3_addBone 53 = .ok (.getfield 15, 3) := by decide +kernel
theorem dX3_addBone_56 : decode cX3_addBone 56 = .ok (.iload_n 3, 1) := by decide +kernel
theorem dX3_addBone_57 : decode cX3_addBone 57 = .ok (.iload_n 2, 1) := by decide +kernel
theorem dX3_addBone_58 : decode cX3_addBone 58 = .ok (.iastore, 1) := by decide +kernel
theorem dX3_addBone_59 : decode cX3_addBone 59 = .ok (.aload_n 0, 1) := by decide +kernel
theorem dX3_addBone_60 : decode cX3_addBone 60 = .ok (.getfield 18, 3) := by decide +kernel
theorem dX3_addBone_63 : decode cX3_addBone 63 = .ok (.iload_n 3, 1) := by decide +kernel
theorem dX3_addBone_64 : decode cX3_addBone 64 = .ok (.iconst 0, 1) := by decide +kernel
theorem dX3_addBone_65 : decode cX3_addBone 65 = .ok (.iastore, 1) := by decide +kernel
theorem dX3_addBone_66 : decode cX3_addBone 66 = .ok (.aload_n 0, 1) := by decide +kernel
theorem dX3_addBone_67 : decode cX3_addBone 67 = .ok (.dup, 1) := by decide +kernel
theorem dX3_addBone_68 : decode cX3_addBone 68 = .ok (.getfield 67, 3) := by decide +kernel
theorem dX3_addBone_71 : decode cX3_addBone 71 = .ok (.lconst 1, 1) := by decide +kernel
theorem dX3_addBone_72 : decode cX3_addBone 72 = .ok (.iload_n 1, 1) := by decide +kernel
theorem dX3_addBone_73 : decode cX3_addBone 73 = .ok (.lshl, 1) := by decide +kernel
theorem dX3_addBone_74 : decode cX3_addBone 74 = .ok (.lor, 1) := by decide +kernel
theorem dX3_addBone_75 : decode cX3_addBone 75 = .ok (.putfield 67, 3) := by decide +kernel
theorem dX3_addBone_78 : decode cX3_addBone 78 = .ok (.aload_n 0, 1) := by decide +kernel
theorem dX3_addBone_79 : decode cX3_addBone 79 = .ok (.getfield 36, 3) := by decide +kernel
theorem dX3_addBone_82 : decode cX3_addBone 82 = .ok (.iload_n 1, 1) := by decide +kernel
theorem dX3_addBone_83 : decode cX3_addBone 83 = .ok (.iconst (-1), 1) := by decide +kernel
theorem dX3_addBone_84 : decode cX3_addBone 84 = .ok (.iastore, 1) := by decide +kernel
theorem dX3_addBone_85 : decode cX3_addBone 85 = .ok (.iload_n 3, 1) := by decide +kernel
theorem dX3_addBone_86 : decode cX3_addBone 86 = .ok (.ireturn, 1) := by decide +kernel
theorem dX3_setStake_0 : decode cX3_setStake 0 = .ok (.iload_n 1, 1) := by decide +kernel
theorem dX3_setStake_1 : decode cX3_setStake 1 = .ok (.invokestatic 80, 3) := by decide +kernel
theorem dX3_setStake_4 : decode cX3_setStake 4 = .ok (.ifCond .ne 5, 3) := by decide +kernel
theorem dX3_setStake_7 : decode cX3_setStake 7 = .ok (.iconst 0, 1) := by decide +kernel
theorem dX3_setStake_8 : decode cX3_setStake 8 = .ok (.ireturn, 1) := by decide +kernel
theorem dX3_setStake_9 : decode cX3_setStake 9 = .ok (.iload_n 2, 1) := by decide +kernel
theorem dX3_setStake_10 : decode cX3_setStake 10 = .ok (.iconst (-1), 1) := by decide +kernel
theorem dX3_setStake_11 : decode cX3_setStake 11 = .ok (.if_icmp .eq 29, 3) := by decide +kernel
theorem dX3_setStake_14 : decode cX3_setStake 14 = .ok (.aload_n 0, 1) := by decide +kernel
theorem dX3_setStake_15 : decode cX3_setStake 15 = .ok (.getfield 27, 3) := by decide +kernel
theorem dX3_setStake_18 : decode cX3_setStake 18 = .ok (.iload_n 2, 1) := by decide +kernel
theorem dX3_setStake_19 : decode cX3_setStake 19 = .ok (.invokevirtual 73, 3) := by decide +kernel
theorem dX3_setStake_22 : decode cX3_setStake 22 = .ok (.ifCond .eq 16, 3) := by decide +kernel
theorem dX3_setStake_25 : decode cX3_setStake 25 = .ok (.aload_n 0, 1) := by decide +kernel
theorem dX3_setStake_26 : decode cX3_setStake 26 = .ok (.getfield 67, 3) := by decide +kernel
theorem dX3_setStake_29 : decode cX3_setStake 29 = .ok (.iload_n 2, 1) := by decide +kernel
theorem dX3_setStake_30 : decode cX3_setStake 30 = .ok (.lushr, 1) := by decide +kernel
theorem dX3_setStake_31 : decode cX3_setStake 31 = .ok (.lconst 1, 1) := by decide +kernel
theorem dX3_setStake_32 : decode cX3_setStake 32 = .ok (.land, 1) := by decide +kernel
theorem dX3_setStake_33 : decode cX3_setStake 33 = .ok (.lconst 0, 1) := by decide +kernel
theorem dX3_setStake_34 : decode cX3_setStake 34 = .ok (.lcmp, 1) := by decide +kernel
theorem dX3_setStake_35 : decode cX3_setStake 35 = .ok (.ifCond .eq 5, 3) := by decide +kernel
theorem dX3_setStake_38 : decode cX3_setStake 38 = .ok (.iconst 0, 1) := by decide +kernel
theorem dX3_setStake_39 : decode cX3_setStake 39 = .ok (.ireturn, 1) := by decide +kernel
theorem dX3_setStake_40 : decode cX3_setStake 40 = .ok (.aload_n 0, 1) := by decide +kernel
theorem dX3_setStake_41 : decode cX3_setStake 41 = .ok (.getfield 21, 3) := by decide +kernel
theorem dX3_setStake_44 : decode cX3_setStake 44 = .ok (.iload_n 1, 1) := by decide +kernel
theorem dX3_setStake_45 : decode cX3_setStake 45 = .ok (.iload_n 2, 1) := by decide +kernel
theorem dX3_setStake_46 : decode cX3_setStake 46 = .ok (.iastore, 1) := by decide +kernel
theorem dX3_setStake_47 : decode cX3_setStake 47 = .ok (.aload_n 0, 1) := by decide +kernel
theorem dX3_setStake_48 : decode cX3_setStake 48 = .ok (.lconst 0, 1) := by decide +kernel
theorem dX3_setStake_49 : decode cX3_setStake 49 = .ok (.putfield 70, 3) := by decide +kernel
theorem dX3_setStake_52 : decode cX3_setStake 52 = .ok (.iconst 0, 1) := by decide +kernel
theorem dX3_setStake_53 : decode cX3_setStake 53 = .ok (.istore_n 3, 1) := by decide +kernel
theorem dX3_setStake_54 : decode cX3_setStake 54 = .ok (.iload_n 3, 1) := by decide +kernel
theorem dX3_setStake_55 : decode cX3_setStake 55 = .ok (.bipush 6, 2) := by decide +kernel
theorem dX3_setStake_57 : decode cX3_setStake 57 = .ok (.if_icmp .ge 40, 3) := by decide +kernel
theorem dX3_setStake_60 : decode cX3_setStake 60 = .ok (.aload_n 0, 1) := by decide +kernel
theorem dX3_setStake_61 : decode cX3_setStake 61 = .ok (.dup, 1) := by decide +kernel
theorem dX3_setStake_62 : decode cX3_setStake 62 = .ok (.getfield 70, 3) := by decide +kernel
theorem dX3_setStake_65 : decode cX3_setStake 65 = .ok (.aload_n 0, 1) := by decide +kernel
theorem dX3_setStake_66 : decode cX3_setStake 66 = .ok (.getfield 21, 3) := by decide +kernel
theorem dX3_setStake_69 : decode cX3_setStake 69 = .ok (.iload_n 3, 1) := by decide +kernel
theorem dX3_setStake_70 : decode cX3_setStake 70 = .ok (.iaload, 1) := by decide +kernel
theorem dX3_setStake_71 : decode cX3_setStake 71 = .ok (.iconst (-1), 1) := by decide +kernel
theorem dX3_setStake_72 : decode cX3_setStake 72 = .ok (.if_icmp .ne 7, 3) := by decide +kernel
theorem dX3_setStake_75 : decode cX3_setStake 75 = .ok (.lconst 0, 1) := by decide +kernel
theorem dX3_setStake_76 : decode cX3_setStake 76 = .ok (.goto 11, 3) := by decide +kernel
theorem dX3_setStake_79 : decode cX3_setStake 79 = .ok (.lconst 1, 1) := by decide +kernel
theorem dX3_setStake_80 : decode cX3_setStake 80 = .ok (.aload_n 0, 1) := by decide +kernel
theorem dX3_setStake_81 : decode cX3_setStake 81 = .ok (.getfield 21, 3) := by decide +kernel
theorem dX3_setStake_84 : decode cX3_setStake 84 = .ok (.iload_n 3, 1) := by decide +kernel
theorem dX3_setStake_85 : decode cX3_setStake 85 = .ok (.iaload, 1) := by decide +kernel
theorem dX3_setStake_86 : decode cX3_setStake 86 = .ok (.lshl, 1) := by decide +kernel
theorem dX3_setStake_87 : decode cX3_setStake 87 = .ok (.lor, 1) := by decide +kernel
theorem dX3_setStake_88 : decode cX3_setStake 88 = .ok (.putfield 70, 3) := by decide +kernel
theorem dX3_setStake_91 : decode cX3_setStake 91 = .ok (.iinc 3 1, 3) := by decide +kernel
theorem dX3_setStake_94 : decode cX3_setStake 94 = .ok (.goto (-40), 3) := by decide +kernel
theorem dX3_setStake_97 : decode cX3_setStake 97 = .ok (.iconst 1, 1) := by decide +kernel
theorem dX3_setStake_98 : decode cX3_setStake 98 = .ok (.ireturn, 1) := by decide +kernel
theorem dX3_clearOff_0 : decode cX3_clearOff 0 = .ok (.aload_n 0, 1) := by decide +kernel
theorem dX3_clearOff_1 : decode cX3_clearOff 1 = .ok (.iconst 0, 1) := by decide +kernel
theorem dX3_clearOff_2 : decode cX3_clearOff 2 = .ok (.putfield 57, 3) := by decide +kernel
theorem dX3_clearOff_5 : decode cX3_clearOff 5 = .ok (.aload_n 0, 1) := by decide +kernel
theorem dX3_clearOff_6 : decode cX3_clearOff 6 = .ok (.lconst 0, 1) := by decide +kernel
theorem dX3_clearOff_7 : decode cX3_clearOff 7 = .ok (.putfield 67, 3) := by decide +kernel
theorem dX3_clearOff_10 : decode cX3_clearOff 10 = .ok (.aload_n 0, 1) := by decide +kernel
theorem dX3_clearOff_11 : decode cX3_clearOff 11 = .ok (.lconst 0, 1) := by decide +kernel
theorem dX3_clearOff_12 : decode cX3_clearOff 12 = .ok (.putfield 70, 3) := by decide +kernel
theorem dX3_clearOff_15 : decode cX3_clearOff 15 = .ok (.aload_n 0, 1) := by decide +kernel
theorem dX3_clearOff_16 : decode cX3_clearOff 16 = .ok (.getfield 21, 3) := by decide +kernel
theorem dX3_clearOff_19 : decode cX3_clearOff 19 = .ok (.iconst (-1), 1) := by decide +kernel
theorem dX3_clearOff_20 : decode cX3_clearOff 20 = .ok (.invokestatic 39, 3) := by decide +kernel
theorem dX3_clearOff_23 : decode cX3_clearOff 23 = .ok (.aload_n 0, 1) := by decide +kernel
theorem dX3_clearOff_24 : decode cX3_clearOff 24 = .ok (.getfield 36, 3) := by decide +kernel
theorem dX3_clearOff_27 : decode cX3_clearOff 27 = .ok (.iconst (-1), 1) := by decide +kernel
theorem dX3_clearOff_28 : decode cX3_clearOff 28 = .ok (.invokestatic 39, 3) := by decide +kernel
theorem dX3_clearOff_31 : decode cX3_clearOff 31 = .ok (.return_, 1) := by decide +kernel
theorem dX3_drawnBy_0 : decode cX3_drawnBy 0 = .ok (.iconst 0, 1) := by decide +kernel
theorem dX3_drawnBy_1 : decode cX3_drawnBy 1 = .ok (.istore_n 2, 1) := by decide +kernel
theorem dX3_drawnBy_2 : decode cX3_drawnBy 2 = .ok (.iload_n 2, 1) := by decide +kernel
theorem dX3_drawnBy_3 : decode cX3_drawnBy 3 = .ok (.aload_n 1, 1) := by decide +kernel
theorem dX3_drawnBy_4 : decode cX3_drawnBy 4 = .ok (.getfield 83, 3) := by decide +kernel
theorem dX3_drawnBy_7 : decode cX3_drawnBy 7 = .ok (.if_icmp .ge 120, 3) := by decide +kernel
theorem dX3_drawnBy_10 : decode cX3_drawnBy 10 = .ok (.iload_n 2, 1) := by decide +kernel
theorem dX3_drawnBy_11 : decode cX3_drawnBy 11 = .ok (.bipush 20, 2) := by decide +kernel
theorem dX3_drawnBy_13 : decode cX3_drawnBy 13 = .ok (.if_icmp .ge 114, 3) := by decide +kernel
theorem dX3_drawnBy_16 : decode cX3_drawnBy 16 = .ok (.aload_n 1, 1) := by decide +kernel
theorem dX3_drawnBy_17 : decode cX3_drawnBy 17 = .ok (.getfield 88, 3) := by decide +kernel
theorem dX3_drawnBy_20 : decode cX3_drawnBy 20 = .ok (.iload_n 2, 1) := by decide +kernel
theorem dX3_drawnBy_21 : decode cX3_drawnBy 21 = .ok (.iaload, 1) := by decide +kernel
theorem dX3_drawnBy_22 : decode cX3_drawnBy 22 = .ok (.istore_n 3, 1) := by decide +kernel
theorem dX3_drawnBy_23 : decode cX3_drawnBy 23 = .ok (.iload_n 3, 1) := by decide +kernel
theorem dX3_drawnBy_24 : decode cX3_drawnBy 24 = .ok (.bipush 22, 2) := by decide +kernel
theorem dX3_drawnBy_26 : decode cX3_drawnBy 26 = .ok (.if_icmp .eq 9, 3) := by decide +kernel
theorem dX3_drawnBy_29 : decode cX3_drawnBy 29 = .ok (.iload_n 3, 1) := by decide +kernel
theorem dX3_drawnBy_30 : decode cX3_drawnBy 30 = .ok (.bipush 23, 2) := by decide +kernel
theorem dX3_drawnBy_32 : decode cX3_drawnBy 32 = .ok (.if_icmp .ne 89, 3) := by decide +kernel
theorem dX3_drawnBy_35 : decode cX3_drawnBy 35 = .ok (.aload_n 0, 1) := by decide +kernel
theorem dX3_drawnBy_36 : decode cX3_drawnBy 36 = .ok (.getfield 27, 3) := by decide +kernel
theorem dX3_drawnBy_39 : decode cX3_drawnBy 39 = .ok (.aload_n 1, 1) := by decide +kernel
theorem dX3_drawnBy_40 : decode cX3_drawnBy 40 = .ok (.getfield 91, 3) := by decide +kernel
theorem dX3_drawnBy_43 : decode cX3_drawnBy 43 = .ok (.iload_n 2, 1) := by decide +kernel
theorem dX3_drawnBy_44 : decode cX3_drawnBy 44 = .ok (.iaload, 1) := by decide +kernel
theorem dX3_drawnBy_45 : decode cX3_drawnBy 45 = .ok (.aload_n 1, 1) := by decide +kernel
theorem dX3_drawnBy_46 : decode cX3_drawnBy 46 = .ok (.getfield 94, 3) := by decide +kernel
theorem dX3_drawnBy_49 : decode cX3_drawnBy 49 = .ok (.iload_n 2, 1) := by decide +kernel
theorem dX3_drawnBy_50 : decode cX3_drawnBy 50 = .ok (.iaload, 1) := by decide +kernel
theorem dX3_drawnBy_51 : decode cX3_drawnBy 51 = .ok (.invokevirtual 97, 3) := by decide +kernel
theorem dX3_drawnBy_54 : decode cX3_drawnBy 54 = .ok (.istore 4, 2) := by decide +kernel
theorem dX3_drawnBy_56 : decode cX3_drawnBy 56 = .ok (.iload_n 3, 1) := by decide +kernel
theorem dX3_drawnBy_57 : decode cX3_drawnBy 57 = .ok (.bipush 22, 2) := by decide +kernel
theorem dX3_drawnBy_59 : decode cX3_drawnBy 59 = .ok (.if_icmp .ne 27, 3) := by decide +kernel
theorem dX3_drawnBy_62 : decode cX3_drawnBy 62 = .ok (.aload_n 0, 1) := by decide +kernel
theorem dX3_drawnBy_63 : decode cX3_drawnBy 63 = .ok (.iload 4, 2) := by decide +kernel
theorem dX3_drawnBy_65 : decode cX3_drawnBy 65 = .ok (.aload_n 1, 1) := by decide +kernel
theorem dX3_drawnBy_66 : decode cX3_drawnBy 66 = .ok (.getfield 100, 3) := by decide +kernel
theorem dX3_drawnBy_69 : decode cX3_drawnBy 69 = .ok (.iload_n 2, 1) := by decide +kernel
theorem dX3_drawnBy_70 : decode cX3_drawnBy 70 = .ok (.iaload, 1) := by decide +kernel
theorem dX3_drawnBy_71 : decode cX3_drawnBy 71 = .ok (.invokevirtual 103, 3) := by decide +kernel
theorem dX3_drawnBy_74 : decode cX3_drawnBy 74 = .ok (.iconst (-1), 1) := by decide +kernel
theorem dX3_drawnBy_75 : decode cX3_drawnBy 75 = .ok (.if_icmp .eq 7, 3) := by decide +kernel
theorem dX3_drawnBy_78 : decode cX3_drawnBy 78 = .ok (.iconst 1, 1) := by decide +kernel
theorem dX3_drawnBy_79 : decode cX3_drawnBy 79 = .ok (.goto 33, 3) := by decide +kernel
theorem dX3_drawnBy_82 : decode cX3_drawnBy 82 = .ok (.iconst 0, 1) := by decide +kernel
theorem dX3_drawnBy_83 : decode cX3_drawnBy 83 = .ok (.goto 29, 3) := by decide +kernel
theorem dX3_drawnBy_86 : decode cX3_drawnBy 86 = .ok (.iload 4, 2) := by decide +kernel
theorem dX3_drawnBy_88 : decode cX3_drawnBy 88 = .ok (.iconst (-1), 1) := by decide +kernel
theorem dX3_drawnBy_89 : decode cX3_drawnBy 89 = .ok (.if_icmp .eq 22, 3) := by decide +kernel
theorem dX3_drawnBy_92 : decode cX3_drawnBy 92 = .ok (.aload_n 0, 1) := by decide +kernel
theorem dX3_drawnBy_93 : decode cX3_drawnBy 93 = .ok (.aload_n 1, 1) := by decide +kernel
theorem dX3_drawnBy_94 : decode cX3_drawnBy 94 = .ok (.getfield 100, 3) := by decide +kernel
theorem dX3_drawnBy_97 : decode cX3_drawnBy 97 = .ok (.iload_n 2, 1) := by decide +kernel
theorem dX3_drawnBy_98 : decode cX3_drawnBy 98 = .ok (.iaload, 1) := by decide +kernel
theorem dX3_drawnBy_99 : decode cX3_drawnBy 99 = .ok (.iload 4, 2) := by decide +kernel
theorem dX3_drawnBy_101 : decode cX3_drawnBy 101 = .ok (.invokevirtual 106, 3) := by decide +kernel
theorem dX3_drawnBy_104 : decode cX3_drawnBy 104 = .ok (.ifCond .eq 7, 3) := by decide +kernel
theorem dX3_drawnBy_107 : decode cX3_drawnBy 107 = .ok (.iconst 1, 1) := by decide +kernel
theorem dX3_drawnBy_108 : decode cX3_drawnBy 108 = .ok (.goto 4, 3) := by decide +kernel
theorem dX3_drawnBy_111 : decode cX3_drawnBy 111 = .ok (.iconst 0, 1) := by decide +kernel
theorem dX3_drawnBy_112 : decode cX3_drawnBy 112 = .ok (.istore 5, 2) := by decide +kernel
theorem dX3_drawnBy_114 : decode cX3_drawnBy 114 = .ok (.iload 5, 2) := by decide +kernel
theorem dX3_drawnBy_116 : decode cX3_drawnBy 116 = .ok (.ifCond .ne 5, 3) := by decide +kernel
theorem dX3_drawnBy_119 : decode cX3_drawnBy 119 = .ok (.iload_n 2, 1) := by decide +kernel
theorem dX3_drawnBy_120 : decode cX3_drawnBy 120 = .ok (.ireturn, 1) := by decide +kernel
theorem dX3_drawnBy_121 : decode cX3_drawnBy 121 = .ok (.iinc 2 1, 3) := by decide +kernel
theorem dX3_drawnBy_124 : decode cX3_drawnBy 124 = .ok (.goto (-122), 3) := by decide +kernel
theorem dX3_drawnBy_127 : decode cX3_drawnBy 127 = .ok (.iconst (-1), 1) := by decide +kernel
theorem dX3_drawnBy_128 : decode cX3_drawnBy 128 = .ok (.ireturn, 1) := by decide +kernel
theorem dX3_nightCell_0 : decode cX3_nightCell 0 = .ok (.aload_n 0, 1) := by decide +kernel
theorem dX3_nightCell_1 : decode cX3_nightCell 1 = .ok (.iload_n 1, 1) := by decide +kernel
theorem dX3_nightCell_2 : decode cX3_nightCell 2 = .ok (.invokevirtual 110, 3) := by decide +kernel
theorem dX3_nightCell_5 : decode cX3_nightCell 5 = .ok (.ifCond .eq 12, 3) := by decide +kernel
theorem dX3_nightCell_8 : decode cX3_nightCell 8 = .ok (.iload_n 2, 1) := by decide +kernel
theorem dX3_nightCell_9 : decode cX3_nightCell 9 = .ok (.ifCond .lt 8, 3) := by decide +kernel
theorem dX3_nightCell_12 : decode cX3_nightCell 12 = .ok (.iload_n 2, 1) := by decide +kernel
theorem dX3_nightCell_13 : decode cX3_nightCell 13 = .ok (.iconst 3, 1) := by decide +kernel
theorem dX3_nightCell_14 : decode cX3_nightCell 14 = .ok (.if_icmp .le 5, 3) := by decide +kernel
theorem dX3_nightCell_17 : decode cX3_nightCell 17 = .ok (.iconst (-1), 1) := by decide +kernel
theorem dX3_nightCell_18 : decode cX3_nightCell 18 = .ok (.ireturn, 1) := by decide +kernel
theorem dX3_nightCell_19 : decode cX3_nightCell 19 = .ok (.iload_n 2, 1) := by decide +kernel
theorem dX3_nightCell_20 : decode cX3_nightCell 20 = .ok (.iconst 1, 1) := by decide +kernel
theorem dX3_nightCell_21 : decode cX3_nightCell 21 = .ok (.if_icmp .ne 7, 3) := by decide +kernel
theorem dX3_nightCell_24 : decode cX3_nightCell 24 = .ok (.iconst 1, 1) := by decide +kernel
theorem dX3_nightCell_25 : decode cX3_nightCell 25 = .ok (.goto 13, 3) := by decide +kernel
theorem dX3_nightCell_28 : decode cX3_nightCell 28 = .ok (.iload_n 2, 1) := by decide +kernel
theorem dX3_nightCell_29 : decode cX3_nightCell 29 = .ok (.iconst 3, 1) := by decide +kernel
theorem dX3_nightCell_30 : decode cX3_nightCell 30 = .ok (.if_icmp .ne 7, 3) := by decide +kernel
theorem dX3_nightCell_33 : decode cX3_nightCell 33 = .ok (.iconst (-1), 1) := by decide +kernel
theorem dX3_nightCell_34 : decode cX3_nightCell 34 = .ok (.goto 4, 3) := by decide +kernel
theorem dX3_nightCell_37 : decode cX3_nightCell 37 = .ok (.iconst 0, 1) := by decide +kernel
theorem dX3_nightCell_38 : decode cX3_nightCell 38 = .ok (.istore_n 3, 1) := by decide +kernel
theorem dX3_nightCell_39 : decode cX3_nightCell 39 = .ok (.iload_n 2, 1) := by decide +kernel
theorem dX3_nightCell_40 : decode cX3_nightCell 40 = .ok (.iconst 2, 1) := by decide +kernel
theorem dX3_nightCell_41 : decode cX3_nightCell 41 = .ok (.if_icmp .ne 7, 3) := by decide +kernel
theorem dX3_nightCell_44 : decode cX3_nightCell 44 = .ok (.iconst 1, 1) := by decide +kernel
theorem dX3_nightCell_45 : decode cX3_nightCell 45 = .ok (.goto 12, 3) := by decide +kernel
theorem dX3_nightCell_48 : decode cX3_nightCell 48 = .ok (.iload_n 2, 1) := by decide +kernel
theorem dX3_nightCell_49 : decode cX3_nightCell 49 = .ok (.ifCond .ne 7, 3) := by decide +kernel
theorem dX3_nightCell_52 : decode cX3_nightCell 52 = .ok (.iconst (-1), 1) := by decide +kernel
theorem dX3_nightCell_53 : decode cX3_nightCell 53 = .ok (.goto 4, 3) := by decide +kernel
theorem dX3_nightCell_56 : decode cX3_nightCell 56 = .ok (.iconst 0, 1) := by decide +kernel
theorem dX3_nightCell_57 : decode cX3_nightCell 57 = .ok (.istore 4, 2) := by decide +kernel
theorem dX3_nightCell_59 : decode cX3_nightCell 59 = .ok (.aload_n 0, 1) := by decide +kernel
theorem dX3_nightCell_60 : decode cX3_nightCell 60 = .ok (.getfield 27, 3) := by decide +kernel
theorem dX3_nightCell_63 : decode cX3_nightCell 63 = .ok (.aload_n 0, 1) := by decide +kernel
theorem dX3_nightCell_64 : decode cX3_nightCell 64 = .ok (.getfield 9, 3) := by decide +kernel
theorem dX3_nightCell_67 : decode cX3_nightCell 67 = .ok (.iload_n 1, 1) := by decide +kernel
theorem dX3_nightCell_68 : decode cX3_nightCell 68 = .ok (.iaload, 1) := by decide +kernel
theorem dX3_nightCell_69 : decode cX3_nightCell 69 = .ok (.iload_n 3, 1) := by decide +kernel
theorem dX3_nightCell_70 : decode cX3_nightCell 70 = .ok (.iload 4, 2) := by decide +kernel
theorem dX3_nightCell_72 : decode cX3_nightCell 72 = .ok (.invokevirtual 113, 3) := by decide +kernel
theorem dX3_nightCell_75 : decode cX3_nightCell 75 = .ok (.istore 5, 2) := by decide +kernel
theorem dX3_nightCell_77 : decode cX3_nightCell 77 = .ok (.aload_n 0, 1) := by decide +kernel
theorem dX3_nightCell_78 : decode cX3_nightCell 78 = .ok (.iload 5, 2) := by decide +kernel
theorem dX3_nightCell_80 : decode cX3_nightCell 80 = .ok (.invokevirtual 77, 3) := by decide +kernel
theorem dX3_nightCell_83 : decode cX3_nightCell 83 = .ok (.ifCond .eq 8, 3) := by decide +kernel
theorem dX3_nightCell_86 : decode cX3_nightCell 86 = .ok (.iload 5, 2) := by decide +kernel
theorem dX3_nightCell_88 : decode cX3_nightCell 88 = .ok (.goto 4, 3) := by decide +kernel
theorem dX3_nightCell_91 : decode cX3_nightCell 91 = .ok (.iconst (-1), 1) := by decide +kernel
theorem dX3_nightCell_92 : decode cX3_nightCell 92 = .ok (.ireturn, 1) := by decide +kernel
theorem dX3_shift_0 : decode cX3_shift 0 = .ok (.aload_n 0, 1) := by decide +kernel
theorem dX3_shift_1 : decode cX3_shift 1 = .ok (.aload_n 0, 1) := by decide +kernel
theorem dX3_shift_2 : decode cX3_shift 2 = .ok (.getfield 67, 3) := by decide +kernel
theorem dX3_shift_5 : decode cX3_shift 5 = .ok (.lconst 1, 1) := by decide +kernel
theorem dX3_shift_6 : decode cX3_shift 6 = .ok (.aload_n 0, 1) := by decide +kernel
theorem dX3_shift_7 : decode cX3_shift 7 = .ok (.getfield 9, 3) := by decide +kernel
theorem dX3_shift_10 : decode cX3_shift 10 = .ok (.iload_n 1, 1) := by decide +kernel
theorem dX3_shift_11 : decode cX3_shift 11 = .ok (.iaload, 1) := by decide +kernel
theorem dX3_shift_12 : decode cX3_shift 12 = .ok (.lshl, 1) := by decide +kernel
theorem dX3_shift_13 : decode cX3_shift 13 = .ok (.ldc2_w 117, 3) := by decide +kernel
theorem dX3_shift_16 : decode cX3_shift 16 = .ok (.lxor, 1) := by decide +kernel
theorem dX3_shift_17 : decode cX3_shift 17 = .ok (.land, 1) := by decide +kernel
theorem dX3_shift_18 : decode cX3_shift 18 = .ok (.lconst 1, 1) := by decide +kernel
theorem dX3_shift_19 : decode cX3_shift 19 = .ok (.iload_n 2, 1) := by decide +kernel
theorem dX3_shift_20 : decode cX3_shift 20 = .ok (.lshl, 1) := by decide +kernel
theorem dX3_shift_21 : decode cX3_shift 21 = .ok (.lor, 1) := by decide +kernel
theorem dX3_shift_22 : decode cX3_shift 22 = .ok (.putfield 67, 3) := by decide +kernel
theorem dX3_shift_25 : decode cX3_shift 25 = .ok (.aload_n 0, 1) := by decide +kernel
theorem dX3_shift_26 : decode cX3_shift 26 = .ok (.getfield 9, 3) := by decide +kernel
theorem dX3_shift_29 : decode cX3_shift 29 = .ok (.iload_n 1, 1) := by decide +kernel
theorem dX3_shift_30 : decode cX3_shift 30 = .ok (.iload_n 2, 1) := by decide +kernel
theorem dX3_shift_31 : decode cX3_shift 31 = .ok (.iastore, 1) := by decide +kernel
theorem dX3_shift_32 : decode cX3_shift 32 = .ok (.aload_n 0, 1) := by decide +kernel
theorem dX3_shift_33 : decode cX3_shift 33 = .ok (.getfield 18, 3) := by decide +kernel
theorem dX3_shift_36 : decode cX3_shift 36 = .ok (.iload_n 1, 1) := by decide +kernel
theorem dX3_shift_37 : decode cX3_shift 37 = .ok (.iconst 0, 1) := by decide +kernel
theorem dX3_shift_38 : decode cX3_shift 38 = .ok (.iastore, 1) := by decide +kernel
theorem dX3_shift_39 : decode cX3_shift 39 = .ok (.aload_n 0, 1) := by decide +kernel
theorem dX3_shift_40 : decode cX3_shift 40 = .ok (.getfield 36, 3) := by decide +kernel
theorem dX3_shift_43 : decode cX3_shift 43 = .ok (.iload_n 2, 1) := by decide +kernel
theorem dX3_shift_44 : decode cX3_shift 44 = .ok (.iconst (-1), 1) := by decide +kernel
theorem dX3_shift_45 : decode cX3_shift 45 = .ok (.iastore, 1) := by decide +kernel
theorem dX3_shift_46 : decode cX3_shift 46 = .ok (.return_, 1) := by decide +kernel
theorem dX3_fieldAt_0 : decode cX3_fieldAt 0 = .ok (.aload_n 0, 1) := by decide +kernel
theorem dX3_fieldAt_1 : decode cX3_fieldAt 1 = .ok (.getfield 27, 3) := by decide +kernel
theorem dX3_fieldAt_4 : decode cX3_fieldAt 4 = .ok (.lconst 1, 1) := by decide +kernel
theorem dX3_fieldAt_5 : decode cX3_fieldAt 5 = .ok (.iload_n 1, 1) := by decide +kernel
theorem dX3_fieldAt_6 : decode cX3_fieldAt 6 = .ok (.lshl, 1) := by decide +kernel
theorem dX3_fieldAt_7 : decode cX3_fieldAt 7 = .ok (.aload_n 0, 1) := by decide +kernel
theorem dX3_fieldAt_8 : decode cX3_fieldAt 8 = .ok (.getfield 67, 3) := by decide +kernel
theorem dX3_fieldAt_11 : decode cX3_fieldAt 11 = .ok (.ldc2_w 117, 3) := by decide +kernel
theorem dX3_fieldAt_14 : decode cX3_fieldAt 14 = .ok (.lxor, 1) := by decide +kernel
theorem dX3_fieldAt_15 : decode cX3_fieldAt 15 = .ok (.invokevirtual 119, 3) := by decide +kernel
theorem dX3_fieldAt_18 : decode cX3_fieldAt 18 = .ok (.lreturn, 1) := by decide +kernel
theorem dX3_fieldHad_0 : decode cX3_fieldHad 0 = .ok (.aload_n 0, 1) := by decide +kernel
theorem dX3_fieldHad_1 : decode cX3_fieldHad 1 = .ok (.getfield 21, 3) := by decide +kernel
theorem dX3_fieldHad_4 : decode cX3_fieldHad 4 = .ok (.iload_n 1, 1) := by decide +kernel
theorem dX3_fieldHad_5 : decode cX3_fieldHad 5 = .ok (.iaload, 1) := by decide +kernel
theorem dX3_fieldHad_6 : decode cX3_fieldHad 6 = .ok (.iconst (-1), 1) := by decide +kernel
theorem dX3_fieldHad_7 : decode cX3_fieldHad 7 = .ok (.if_icmp .ne 7, 3) := by decide +kernel
theorem dX3_fieldHad_10 : decode cX3_fieldHad 10 = .ok (.lconst 0, 1) := by decide +kernel
theorem dX3_fieldHad_11 : decode cX3_fieldHad 11 = .ok (.goto 26, 3) := by decide +kernel
theorem dX3_fieldHad_14 : decode cX3_fieldHad 14 = .ok (.aload_n 0, 1) := by decide +kernel
theorem dX3_fieldHad_15 : decode cX3_fieldHad 15 = .ok (.getfield 27, 3) := by decide +kernel
theorem dX3_fieldHad_18 : decode cX3_fieldHad 18 = .ok (.lconst 1, 1) := by decide +kernel
theorem dX3_fieldHad_19 : decode cX3_fieldHad 19 = .ok (.aload_n 0, 1) := by decide +kernel
theorem dX3_fieldHad_20 : decode cX3_fieldHad 20 = .ok (.getfield 21, 3) := by decide +kernel
theorem dX3_fieldHad_23 : decode cX3_fieldHad 23 = .ok (.iload_n 1, 1) := by decide +kernel
theorem dX3_fieldHad_24 : decode cX3_fieldHad 24 = .ok (.iaload, 1) := by decide +kernel
theorem dX3_fieldHad_25 : decode cX3_fieldHad 25 = .ok (.lshl, 1) := by decide +kernel
theorem dX3_fieldHad_26 : decode cX3_fieldHad 26 = .ok (.aload_n 0, 1) := by decide +kernel
theorem dX3_fieldHad_27 : decode cX3_fieldHad 27 = .ok (.getfield 67, 3) := by decide +kernel
theorem dX3_fieldHad_30 : decode cX3_fieldHad 30 = .ok (.ldc2_w 117, 3) := by decide +kernel
theorem dX3_fieldHad_33 : decode cX3_fieldHad 33 = .ok (.lxor, 1) := by decide +kernel
theorem dX3_fieldHad_34 : decode cX3_fieldHad 34 = .ok (.invokevirtual 119, 3) := by decide +kernel
theorem dX3_fieldHad_37 : decode cX3_fieldHad 37 = .ok (.lreturn, 1) := by decide +kernel
theorem dX3_isHad_0 : decode cX3_isHad 0 = .ok (.aload_n 0, 1) := by decide +kernel
theorem dX3_isHad_1 : decode cX3_isHad 1 = .ok (.iload_n 1, 1) := by decide +kernel
theorem dX3_isHad_2 : decode cX3_isHad 2 = .ok (.invokevirtual 123, 3) := by decide +kernel
theorem dX3_isHad_5 : decode cX3_isHad 5 = .ok (.iload_n 2, 1) := by decide +kernel
theorem dX3_isHad_6 : decode cX3_isHad 6 = .ok (.lushr, 1) := by decide +kernel
theorem dX3_isHad_7 : decode cX3_isHad 7 = .ok (.lconst 1, 1) := by decide +kernel
theorem dX3_isHad_8 : decode cX3_isHad 8 = .ok (.land, 1) := by decide +kernel
theorem dX3_isHad_9 : decode cX3_isHad 9 = .ok (.lconst 0, 1) := by decide +kernel
theorem dX3_isHad_10 : decode cX3_isHad 10 = .ok (.lcmp, 1) := by decide +kernel
theorem dX3_isHad_11 : decode cX3_isHad 11 = .ok (.ifCond .eq 7, 3) := by decide +kernel
theorem dX3_isHad_14 : decode cX3_isHad 14 = .ok (.iconst 1, 1) := by decide +kernel
theorem dX3_isHad_15 : decode cX3_isHad 15 = .ok (.goto 4, 3) := by decide +kernel
theorem dX3_isHad_18 : decode cX3_isHad 18 = .ok (.iconst 0, 1) := by decide +kernel
theorem dX3_isHad_19 : decode cX3_isHad 19 = .ok (.ireturn, 1) := by decide +kernel
theorem dX3_holders_0 : decode cX3_holders 0 = .ok (.iconst 0, 1) := by decide +kernel
theorem dX3_holders_1 : decode cX3_holders 1 = .ok (.istore_n 3, 1) := by decide +kernel
theorem dX3_holders_2 : decode cX3_holders 2 = .ok (.iconst 0, 1) := by decide +kernel
theorem dX3_holders_3 : decode cX3_holders 3 = .ok (.istore 4, 2) := by decide +kernel
theorem dX3_holders_5 : decode cX3_holders 5 = .ok (.iload 4, 2) := by decide +kernel
theorem dX3_holders_7 : decode cX3_holders 7 = .ok (.bipush 6, 2) := by decide +kernel
theorem dX3_holders_9 : decode cX3_holders 9 = .ok (.if_icmp .ge 43, 3) := by decide +kernel
theorem dX3_holders_12 : decode cX3_holders 12 = .ok (.aload_n 0, 1) := by decide +kernel
theorem dX3_holders_13 : decode cX3_holders 13 = .ok (.getfield 21, 3) := by decide +kernel
theorem dX3_holders_16 : decode cX3_holders 16 = .ok (.iload 4, 2) := by decide +kernel
theorem dX3_holders_18 : decode cX3_holders 18 = .ok (.iaload, 1) := by decide +kernel
theorem dX3_holders_19 : decode cX3_holders 19 = .ok (.iconst (-1), 1) := by decide +kernel
theorem dX3_holders_20 : decode cX3_holders 20 = .ok (.if_icmp .eq 26, 3) := by decide +kernel
theorem dX3_holders_23 : decode cX3_holders 23 = .ok (.lload_n 1, 1) := by decide +kernel
theorem dX3_holders_24 : decode cX3_holders 24 = .ok (.aload_n 0, 1) := by decide +kernel
theorem dX3_holders_25 : decode cX3_holders 25 = .ok (.getfield 21, 3) := by decide +kernel
theorem dX3_holders_28 : decode cX3_holders 28 = .ok (.iload 4, 2) := by decide +kernel
theorem dX3_holders_30 : decode cX3_holders 30 = .ok (.iaload, 1) := by decide +kernel
theorem dX3_holders_31 : decode cX3_holders 31 = .ok (.lushr, 1) := by decide +kernel
theorem dX3_holders_32 : decode cX3_holders 32 = .ok (.lconst 1, 1) := by decide +kernel
theorem dX3_holders_33 : decode cX3_holders 33 = .ok (.land, 1) := by decide +kernel
theorem dX3_holders_34 : decode cX3_holders 34 = .ok (.lconst 0, 1) := by decide +kernel
theorem dX3_holders_35 : decode cX3_holders 35 = .ok (.lcmp, 1) := by decide +kernel
theorem dX3_holders_36 : decode cX3_holders 36 = .ok (.ifCond .eq 10, 3) := by decide +kernel
theorem dX3_holders_39 : decode cX3_holders 39 = .ok (.iload_n 3, 1) := by decide +kernel
theorem dX3_holders_40 : decode cX3_holders 40 = .ok (.iconst 1, 1) := by decide +kernel
theorem dX3_holders_41 : decode cX3_holders 41 = .ok (.iload 4, 2) := by decide +kernel
theorem dX3_holders_43 : decode cX3_holders 43 = .ok (.ishl, 1) := by decide +kernel
theorem dX3_holders_44 : decode cX3_holders 44 = .ok (.ior, 1) := by decide +kernel
theorem dX3_holders_45 : decode cX3_holders 45 = .ok (.istore_n 3, 1) := by decide +kernel
theorem dX3_holders_46 : decode cX3_holders 46 = .ok (.iinc 4 1, 3) := by decide +kernel
theorem dX3_holders_49 : decode cX3_holders 49 = .ok (.goto (-44), 3) := by decide +kernel
theorem dX3_holders_52 : decode cX3_holders 52 = .ok (.iload_n 3, 1) := by decide +kernel
theorem dX3_holders_53 : decode cX3_holders 53 = .ok (.ireturn, 1) := by decide +kernel
theorem dX3_share_0 : decode cX3_share 0 = .ok (.aload_n 0, 1) := by decide +kernel
theorem dX3_share_1 : decode cX3_share 1 = .ok (.lload_n 1, 1) := by decide +kernel
theorem dX3_share_2 : decode cX3_share 2 = .ok (.invokevirtual 127, 3) := by decide +kernel
theorem dX3_share_5 : decode cX3_share 5 = .ok (.invokestatic 131, 3) := by decide +kernel
theorem dX3_share_8 : decode cX3_share 8 = .ok (.istore_n 3, 1) := by decide +kernel
theorem dX3_share_9 : decode cX3_share 9 = .ok (.iload_n 3, 1) := by decide +kernel
theorem dX3_share_10 : decode cX3_share 10 = .ok (.ifCond .ne 7, 3) := by decide +kernel
theorem dX3_share_13 : decode cX3_share 13 = .ok (.iconst 0, 1) := by decide +kernel
theorem dX3_share_14 : decode cX3_share 14 = .ok (.goto 9, 3) := by decide +kernel
theorem dX3_share_17 : decode cX3_share 17 = .ok (.lload_n 1, 1) := by decide +kernel
theorem dX3_share_18 : decode cX3_share 18 = .ok (.invokestatic 137, 3) := by decide +kernel
theorem dX3_share_21 : decode cX3_share 21 = .ok (.iload_n 3, 1) := by decide +kernel
theorem dX3_share_22 : decode cX3_share 22 = .ok (.idiv, 1) := by decide +kernel
theorem dX3_share_23 : decode cX3_share 23 = .ok (.ireturn, 1) := by decide +kernel
theorem dX3_gates_0 : decode cX3_gates 0 = .ok (.aload_n 0, 1) := by decide +kernel
theorem dX3_gates_1 : decode cX3_gates 1 = .ok (.getfield 67, 3) := by decide +kernel
theorem dX3_gates_4 : decode cX3_gates 4 = .ok (.ldc2_w 117, 3) := by decide +kernel
theorem dX3_gates_7 : decode cX3_gates 7 = .ok (.lxor, 1) := by decide +kernel
theorem dX3_gates_8 : decode cX3_gates 8 = .ok (.lload_n 1, 1) := by decide +kernel
theorem dX3_gates_9 : decode cX3_gates 9 = .ok (.ldc2_w 117, 3) := by decide +kernel
theorem dX3_gates_12 : decode cX3_gates 12 = .ok (.lxor, 1) := by decide +kernel
theorem dX3_gates_13 : decode cX3_gates 13 = .ok (.land, 1) := by decide +kernel
theorem dX3_gates_14 : decode cX3_gates 14 = .ok (.lstore_n 3, 1) := by decide +kernel
theorem dX3_gates_15 : decode cX3_gates 15 = .ok (.iconst 0, 1) := by decide +kernel
theorem dX3_gates_16 : decode cX3_gates 16 = .ok (.istore 5, 2) := by decide +kernel
theorem dX3_gates_18 : decode cX3_gates 18 = .ok (.iconst 0, 1) := by decide +kernel
theorem dX3_gates_19 : decode cX3_gates 19 = .ok (.istore 6, 2) := by decide +kernel
theorem dX3_gates_21 : decode cX3_gates 21 = .ok (.iload 6, 2) := by decide +kernel
theorem dX3_gates_23 : decode cX3_gates 23 = .ok (.aload_n 0, 1) := by decide +kernel
theorem dX3_gates_24 : decode cX3_gates 24 = .ok (.getfield 57, 3) := by decide +kernel
theorem dX3_gates_27 : decode cX3_gates 27 = .ok (.if_icmp .ge 47, 3) := by decide +kernel
theorem dX3_gates_30 : decode cX3_gates 30 = .ok (.aload_n 0, 1) := by decide +kernel
theorem dX3_gates_31 : decode cX3_gates 31 = .ok (.getfield 27, 3) := by decide +kernel
theorem dX3_gates_34 : decode cX3_gates 34 = .ok (.getfield 141, 3) := by decide +kernel
theorem dX3_gates_37 : decode cX3_gates 37 = .ok (.aload_n 0, 1) := by decide +kernel
theorem dX3_gates_38 : decode cX3_gates 38 = .ok (.getfield 9, 3) := by decide +kernel
theorem dX3_gates_41 : decode cX3_gates 41 = .ok (.iload 6, 2) := by decide +kernel
theorem dX3_gates_43 : decode cX3_gates 43 = .ok (.iaload, 1) := by decide +kernel
theorem dX3_gates_44 : decode cX3_gates 44 = .ok (.laload, 1) := by decide +kernel
theorem dX3_gates_45 : decode cX3_gates 45 = .ok (.lstore 7, 2) := by decide +kernel
theorem dX3_gates_47 : decode cX3_gates 47 = .ok (.lload 7, 2) := by decide +kernel
theorem dX3_gates_49 : decode cX3_gates 49 = .ok (.lload_n 1, 1) := by decide +kernel
theorem dX3_gates_50 : decode cX3_gates 50 = .ok (.land, 1) := by decide +kernel
theorem dX3_gates_51 : decode cX3_gates 51 = .ok (.lconst 0, 1) := by decide +kernel
theorem dX3_gates_52 : decode cX3_gates 52 = .ok (.lcmp, 1) := by decide +kernel
theorem dX3_gates_53 : decode cX3_gates 53 = .ok (.ifCond .eq 15, 3) := by decide +kernel
theorem dX3_gates_56 : decode cX3_gates 56 = .ok (.lload 7, 2) := by decide +kernel
theorem dX3_gates_58 : decode cX3_gates 58 = .ok (.lload_n 3, 1) := by decide +kernel
theorem dX3_gates_59 : decode cX3_gates 59 = .ok (.land, 1) := by decide +kernel
theorem dX3_gates_60 : decode cX3_gates 60 = .ok (.lconst 0, 1) := by decide +kernel
theorem dX3_gates_61 : decode cX3_gates 61 = .ok (.lcmp, 1) := by decide +kernel
theorem dX3_gates_62 : decode cX3_gates 62 = .ok (.ifCond .eq 6, 3) := by decide +kernel
theorem dX3_gates_65 : decode cX3_gates 65 = .ok (.iinc 5 1, 3) := by decide +kernel
theorem dX3_gates_68 : decode cX3_gates 68 = .ok (.iinc 6 1, 3) := by decide +kernel
theorem dX3_gates_71 : decode cX3_gates 71 = .ok (.goto (-50), 3) := by decide +kernel
theorem dX3_gates_74 : decode cX3_gates 74 = .ok (.iload 5, 2) := by decide +kernel
theorem dX3_gates_76 : decode cX3_gates 76 = .ok (.ireturn, 1) := by decide +kernel
theorem dX3_fields_0 : decode cX3_fields 0 = .ok (.aload_n 0, 1) := by decide +kernel
theorem dX3_fields_1 : decode cX3_fields 1 = .ok (.getfield 67, 3) := by decide +kernel
theorem dX3_fields_4 : decode cX3_fields 4 = .ok (.ldc2_w 117, 3) := by decide +kernel
theorem dX3_fields_7 : decode cX3_fields 7 = .ok (.lxor, 1) := by decide +kernel
theorem dX3_fields_8 : decode cX3_fields 8 = .ok (.aload_n 0, 1) := by decide +kernel
theorem dX3_fields_9 : decode cX3_fields 9 = .ok (.getfield 27, 3) := by decide +kernel
theorem dX3_fields_12 : decode cX3_fields 12 = .ok (.getfield 145, 3) := by decide +kernel
theorem dX3_fields_15 : decode cX3_fields 15 = .ok (.land, 1) := by decide +kernel
theorem dX3_fields_16 : decode cX3_fields 16 = .ok (.lstore_n 1, 1) := by decide +kernel
theorem dX3_fields_17 : decode cX3_fields 17 = .ok (.iconst 0, 1) := by decide +kernel
theorem dX3_fields_18 : decode cX3_fields 18 = .ok (.istore_n 3, 1) := by decide +kernel
theorem dX3_fields_19 : decode cX3_fields 19 = .ok (.iconst 0, 1) := by decide +kernel
theorem dX3_fields_20 : decode cX3_fields 20 = .ok (.istore 4, 2) := by decide +kernel
theorem dX3_fields_22 : decode cX3_fields 22 = .ok (.iload 4, 2) := by decide +kernel
theorem dX3_fields_24 : decode cX3_fields 24 = .ok (.aload_n 0, 1) := by decide +kernel
theorem dX3_fields_25 : decode cX3_fields 25 = .ok (.getfield 27, 3) := by decide +kernel
theorem dX3_fields_28 : decode cX3_fields 28 = .ok (.getfield 31, 3) := by decide +kernel
theorem dX3_fields_31 : decode cX3_fields 31 = .ok (.if_icmp .ge 37, 3) := by decide +kernel
theorem dX3_fields_34 : decode cX3_fields 34 = .ok (.lload_n 1, 1) := by decide +kernel
theorem dX3_fields_35 : decode cX3_fields 35 = .ok (.lconst 0, 1) := by decide +kernel
theorem dX3_fields_36 : decode cX3_fields 36 = .ok (.lcmp, 1) := by decide +kernel
theorem dX3_fields_37 : decode cX3_fields 37 = .ok (.ifCond .eq 31, 3) := by decide +kernel
theorem dX3_fields_40 : decode cX3_fields 40 = .ok (.lload_n 1, 1) := by decide +kernel
theorem dX3_fields_41 : decode cX3_fields 41 = .ok (.aload_n 0, 1) := by decide +kernel
theorem dX3_fields_42 : decode cX3_fields 42 = .ok (.getfield 27, 3) := by decide +kernel
theorem dX3_fields_45 : decode cX3_fields 45 = .ok (.lload_n 1, 1) := by decide +kernel
theorem dX3_fields_46 : decode cX3_fields 46 = .ok (.lload_n 1, 1) := by decide +kernel
theorem dX3_fields_47 : decode cX3_fields 47 = .ok (.lneg, 1) := by decide +kernel
theorem dX3_fields_48 : decode cX3_fields 48 = .ok (.land, 1) := by decide +kernel
theorem dX3_fields_49 : decode cX3_fields 49 = .ok (.lload_n 1, 1) := by decide +kernel
theorem dX3_fields_50 : decode cX3_fields 50 = .ok (.invokevirtual 119, 3) := by decide +kernel
theorem dX3_fields_53 : decode cX3_fields 53 = .ok (.ldc2_w 117, 3) := by decide +kernel
theorem dX3_fields_56 : decode cX3_fields 56 = .ok (.lxor, 1) := by decide +kernel
theorem dX3_fields_57 : decode cX3_fields 57 = .ok (.land, 1) := by decide +kernel
theorem dX3_fields_58 : decode cX3_fields 58 = .ok (.lstore_n 1, 1) := by decide +kernel
theorem dX3_fields_59 : decode cX3_fields 59 = .ok (.iinc 3 1, 3) := by decide +kernel
theorem dX3_fields_62 : decode cX3_fields 62 = .ok (.iinc 4 1, 3) := by decide +kernel
theorem dX3_fields_65 : decode cX3_fields 65 = .ok (.goto (-43), 3) := by decide +kernel
theorem dX3_fields_68 : decode cX3_fields 68 = .ok (.iload_n 3, 1) := by decide +kernel
theorem dX3_fields_69 : decode cX3_fields 69 = .ok (.ireturn, 1) := by decide +kernel
theorem dX3_disputed_0 : decode cX3_disputed 0 = .ok (.iconst 0, 1) := by decide +kernel
theorem dX3_disputed_1 : decode cX3_disputed 1 = .ok (.istore_n 1, 1) := by decide +kernel
theorem dX3_disputed_2 : decode cX3_disputed 2 = .ok (.iconst 0, 1) := by decide +kernel
theorem dX3_disputed_3 : decode cX3_disputed 3 = .ok (.istore_n 2, 1) := by decide +kernel
theorem dX3_disputed_4 : decode cX3_disputed 4 = .ok (.iload_n 2, 1) := by decide +kernel
theorem dX3_disputed_5 : decode cX3_disputed 5 = .ok (.bipush 6, 2) := by decide +kernel
theorem dX3_disputed_7 : decode cX3_disputed 7 = .ok (.if_icmp .ge 40, 3) := by decide +kernel
theorem dX3_disputed_10 : decode cX3_disputed 10 = .ok (.aload_n 0, 1) := by decide +kernel
theorem dX3_disputed_11 : decode cX3_disputed 11 = .ok (.aload_n 0, 1) := by decide +kernel
theorem dX3_disputed_12 : decode cX3_disputed 12 = .ok (.iload_n 2, 1) := by decide +kernel
theorem dX3_disputed_13 : decode cX3_disputed 13 = .ok (.invokevirtual 123, 3) := by decide +kernel
theorem dX3_disputed_16 : decode cX3_disputed 16 = .ok (.invokevirtual 127, 3) := by decide +kernel
theorem dX3_disputed_19 : decode cX3_disputed 19 = .ok (.istore_n 3, 1) := by decide +kernel
theorem dX3_disputed_20 : decode cX3_disputed 20 = .ok (.iload_n 3, 1) := by decide +kernel
theorem dX3_disputed_21 : decode cX3_disputed 21 = .ok (.invokestatic 131, 3) := by decide +kernel
theorem dX3_disputed_24 : decode cX3_disputed 24 = .ok (.iconst 1, 1) := by decide +kernel
theorem dX3_disputed_25 : decode cX3_disputed 25 = .ok (.if_icmp .le 16, 3) := by decide +kernel
theorem dX3_disputed_28 : decode cX3_disputed 28 = .ok (.iload_n 3, 1) := by decide +kernel
theorem dX3_disputed_29 : decode cX3_disputed 29 = .ok (.iload_n 3, 1) := by decide +kernel
theorem dX3_disputed_30 : decode cX3_disputed 30 = .ok (.ineg, 1) := by decide +kernel
theorem dX3_disputed_31 : decode cX3_disputed 31 = .ok (.iand, 1) := by decide +kernel
theorem dX3_disputed_32 : decode cX3_disputed 32 = .ok (.iconst 1, 1) := by decide +kernel
theorem dX3_disputed_33 : decode cX3_disputed 33 = .ok (.iload_n 2, 1) := by decide +kernel
theorem dX3_disputed_34 : decode cX3_disputed 34 = .ok (.ishl, 1) := by decide +kernel
theorem dX3_disputed_35 : decode cX3_disputed 35 = .ok (.if_icmp .ne 6, 3) := by decide +kernel
theorem dX3_disputed_38 : decode cX3_disputed 38 = .ok (.iinc 1 1, 3) := by decide +kernel
theorem dX3_disputed_41 : decode cX3_disputed 41 = .ok (.iinc 2 1, 3) := by decide +kernel
theorem dX3_disputed_44 : decode cX3_disputed 44 = .ok (.goto (-40), 3) := by decide +kernel
theorem dX3_disputed_47 : decode cX3_disputed 47 = .ok (.iload_n 1, 1) := by decide +kernel
theorem dX3_disputed_48 : decode cX3_disputed 48 = .ok (.ireturn, 1) := by decide +kernel
theorem dX3_sown_0 : decode cX3_sown 0 = .ok (.iconst 0, 1) := by decide +kernel
theorem dX3_sown_1 : decode cX3_sown 1 = .ok (.istore_n 1, 1) := by decide +kernel
theorem dX3_sown_2 : decode cX3_sown 2 = .ok (.iconst 0, 1) := by decide +kernel
theorem dX3_sown_3 : decode cX3_sown 3 = .ok (.istore_n 2, 1) := by decide +kernel
theorem dX3_sown_4 : decode cX3_sown 4 = .ok (.iload_n 2, 1) := by decide +kernel
theorem dX3_sown_5 : decode cX3_sown 5 = .ok (.aload_n 0, 1) := by decide +kernel
theorem dX3_sown_6 : decode cX3_sown 6 = .ok (.getfield 36, 3) := by decide +kernel
theorem dX3_sown_9 : decode cX3_sown 9 = .ok (.arraylength, 1) := by decide +kernel
theorem dX3_sown_10 : decode cX3_sown 10 = .ok (.if_icmp .ge 27, 3) := by decide +kernel
theorem dX3_sown_13 : decode cX3_sown 13 = .ok (.iload_n 1, 1) := by decide +kernel
theorem dX3_sown_14 : decode cX3_sown 14 = .ok (.aload_n 0, 1) := by decide +kernel
theorem dX3_sown_15 : decode cX3_sown 15 = .ok (.getfield 36, 3) := by decide +kernel
theorem dX3_sown_18 : decode cX3_sown 18 = .ok (.iload_n 2, 1) := by decide +kernel
theorem dX3_sown_19 : decode cX3_sown 19 = .ok (.iaload, 1) := by decide +kernel
theorem dX3_sown_20 : decode cX3_sown 20 = .ok (.iconst (-1), 1) := by decide +kernel
theorem dX3_sown_21 : decode cX3_sown 21 = .ok (.if_icmp .ne 7, 3) := by decide +kernel
theorem dX3_sown_24 : decode cX3_sown 24 = .ok (.iconst 0, 1) := by decide +kernel
theorem dX3_sown_25 : decode cX3_sown 25 = .ok (.goto 4, 3) := by decide +kernel
theorem dX3_sown_28 : decode cX3_sown 28 = .ok (.iconst 1, 1) := by decide +kernel
theorem dX3_sown_29 : decode cX3_sown 29 = .ok (.iadd, 1) := by decide +kernel
theorem dX3_sown_30 : decode cX3_sown 30 = .ok (.istore_n 1, 1) := by decide +kernel
theorem dX3_sown_31 : decode cX3_sown 31 = .ok (.iinc 2 1, 3) := by decide +kernel
theorem dX3_sown_34 : decode cX3_sown 34 = .ok (.goto (-30), 3) := by decide +kernel
theorem dX3_sown_37 : decode cX3_sown 37 = .ok (.iload_n 1, 1) := by decide +kernel
theorem dX3_sown_38 : decode cX3_sown 38 = .ok (.ireturn, 1) := by decide +kernel
theorem dX4_init_0 : decode cX4_init 0 = .ok (.aload_n 0, 1) := by decide +kernel
theorem dX4_init_1 : decode cX4_init 1 = .ok (.invokespecial 3, 3) := by decide +kernel
theorem dX4_init_4 : decode cX4_init 4 = .ok (.aload_n 0, 1) := by decide +kernel
theorem dX4_init_5 : decode cX4_init 5 = .ok (.iconst (-1), 1) := by decide +kernel
theorem dX4_init_6 : decode cX4_init 6 = .ok (.putfield 9, 3) := by decide +kernel
theorem dX4_init_9 : decode cX4_init 9 = .ok (.aload_n 0, 1) := by decide +kernel
theorem dX4_init_10 : decode cX4_init 10 = .ok (.iconst (-1), 1) := by decide +kernel
theorem dX4_init_11 : decode cX4_init 11 = .ok (.putfield 15, 3) := by decide +kernel
theorem dX4_init_14 : decode cX4_init 14 = .ok (.aload_n 0, 1) := by decide +kernel
theorem dX4_init_15 : decode cX4_init 15 = .ok (.new 18, 3) := by decide +kernel
theorem dX4_init_18 : decode cX4_init 18 = .ok (.dup, 1) := by decide +kernel
theorem dX4_init_19 : decode cX4_init 19 = .ok (.invokespecial 20, 3) := by decide +kernel
theorem dX4_init_22 : decode cX4_init 22 = .ok (.putfield 21, 3) := by decide +kernel
theorem dX4_init_25 : decode cX4_init 25 = .ok (.return_, 1) := by decide +kernel
theorem dX4_begin_0 : decode cX4_begin 0 = .ok (.aload_n 0, 1) := by decide +kernel
theorem dX4_begin_1 : decode cX4_begin 1 = .ok (.iconst 0, 1) := by decide +kernel
theorem dX4_begin_2 : decode cX4_begin 2 = .ok (.putfield 9, 3) := by decide +kernel
theorem dX4_begin_5 : decode cX4_begin 5 = .ok (.aload_n 0, 1) := by decide +kernel
theorem dX4_begin_6 : decode cX4_begin 6 = .ok (.iconst (-1), 1) := by decide +kernel
theorem dX4_begin_7 : decode cX4_begin 7 = .ok (.putfield 15, 3) := by decide +kernel
theorem dX4_begin_10 : decode cX4_begin 10 = .ok (.aload_n 0, 1) := by decide +kernel
theorem dX4_begin_11 : decode cX4_begin 11 = .ok (.aload_n 2, 1) := by decide +kernel
theorem dX4_begin_12 : decode cX4_begin 12 = .ok (.putfield 25, 3) := by decide +kernel
theorem dX4_begin_15 : decode cX4_begin 15 = .ok (.aload_n 0, 1) := by decide +kernel
theorem dX4_begin_16 : decode cX4_begin 16 = .ok (.getfield 25, 3) := by decide +kernel
theorem dX4_begin_19 : decode cX4_begin 19 = .ok (.invokevirtual 29, 3) := by decide +kernel
theorem dX4_begin_22 : decode cX4_begin 22 = .ok (.aload_n 0, 1) := by decide +kernel
theorem dX4_begin_23 : decode cX4_begin 23 = .ok (.getfield 21, 3) := by decide +kernel
theorem dX4_begin_26 : decode cX4_begin 26 = .ok (.aload_n 1, 1) := by decide +kernel
theorem dX4_begin_27 : decode cX4_begin 27 = .ok (.invokevirtual 34, 3) := by decide +kernel
theorem dX4_begin_30 : decode cX4_begin 30 = .ok (.aload_n 0, 1) := by decide +kernel
theorem dX4_begin_31 : decode cX4_begin 31 = .ok (.iconst 0, 1) := by decide +kernel
theorem dX4_begin_32 : decode cX4_begin 32 = .ok (.putfield 38, 3) := by decide +kernel
theorem dX4_begin_35 : decode cX4_begin 35 = .ok (.aload_n 0, 1) := by decide +kernel
theorem dX4_begin_36 : decode cX4_begin 36 = .ok (.aload_n 0, 1) := by decide +kernel
theorem dX4_begin_37 : decode cX4_begin 37 = .ok (.getfield 21, 3) := by decide +kernel
theorem dX4_begin_40 : decode cX4_begin 40 = .ok (.getfield 41, 3) := by decide +kernel
theorem dX4_begin_43 : decode cX4_begin 43 = .ok (.iconst 0, 1) := by decide +kernel
theorem dX4_begin_44 : decode cX4_begin 44 = .ok (.iaload, 1) := by decide +kernel
theorem dX4_begin_45 : decode cX4_begin 45 = .ok (.putfield 45, 3) := by decide +kernel
theorem dX4_begin_48 : decode cX4_begin 48 = .ok (.return_, 1) := by decide +kernel
theorem dX4_goesOn_0 : decode cX4_goesOn 0 = .ok (.aload_n 0, 1) := by decide +kernel
theorem dX4_goesOn_1 : decode cX4_goesOn 1 = .ok (.getfield 45, 3) := by decide +kernel
theorem dX4_goesOn_4 : decode cX4_goesOn 4 = .ok (.bipush 39, 2) := by decide +kernel
theorem dX4_goesOn_6 : decode cX4_goesOn 6 = .ok (.if_icmp .eq 7, 3) := by decide +kernel
theorem dX4_goesOn_9 : decode cX4_goesOn 9 = .ok (.iconst 1, 1) := by decide +kernel
theorem dX4_goesOn_10 : decode cX4_goesOn 10 = .ok (.goto 4, 3) := by decide +kernel
theorem dX4_goesOn_13 : decode cX4_goesOn 13 = .ok (.iconst 0, 1) := by decide +kernel
theorem dX4_goesOn_14 : decode cX4_goesOn 14 = .ok (.ireturn, 1) := by decide +kernel
theorem dX4_complain_0 : decode cX4_complain 0 = .ok (.aload_n 0, 1) := by decide +kernel
theorem dX4_complain_1 : decode cX4_complain 1 = .ok (.getfield 9, 3) := by decide +kernel
theorem dX4_complain_4 : decode cX4_complain 4 = .ok (.ifCond .ne 30, 3) := by decide +kernel
theorem dX4_complain_7 : decode cX4_complain 7 = .ok (.aload_n 0, 1) := by decide +kernel
theorem dX4_complain_8 : decode cX4_complain 8 = .ok (.iload_n 1, 1) := by decide +kernel
theorem dX4_complain_9 : decode cX4_complain 9 = .ok (.putfield 9, 3) := by decide +kernel
