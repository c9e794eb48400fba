theorem dX10_homesNow_47 : decode cX10_homesNow 47 = .ok (.getfield 53, 3) := by decide +kernel
theorem dX10_homesNow_50 : decode cX10_homesNow 50 = .ok (.iload_n 2, 1) := by decide +kernel
theorem dX10_homesNow_51 : decode cX10_homesNow 51 = .ok (.iaload, 1) := by decide +kernel
theorem dX10_homesNow_52 : decode cX10_homesNow 52 = .ok (.invokevirtual 362, 3) := by decide +kernel
theorem dX10_homesNow_55 : decode cX10_homesNow 55 = .ok (.ifCond .ne 7, 3) := by decide +kernel
theorem dX10_homesNow_58 : decode cX10_homesNow 58 = .ok (.iconst 0, 1) := by decide +kernel
theorem dX10_homesNow_59 : decode cX10_homesNow 59 = .ok (.goto 6, 3) := by decide +kernel
theorem dX10_homesNow_62 : decode cX10_homesNow 62 = .ok (.iconst 1, 1) := by decide +kernel
theorem dX10_homesNow_63 : decode cX10_homesNow 63 = .ok (.iload_n 2, 1) := by decide +kernel
theorem dX10_homesNow_64 : decode cX10_homesNow 64 = .ok (.ishl, 1) := by decide +kernel
theorem dX10_homesNow_65 : decode cX10_homesNow 65 = .ok (.ior, 1) := by decide +kernel
theorem dX10_homesNow_66 : decode cX10_homesNow 66 = .ok (.istore_n 1, 1) := by decide +kernel
theorem dX10_homesNow_67 : decode cX10_homesNow 67 = .ok (.iinc 2 1, 3) := by decide +kernel
theorem dX10_homesNow_70 : decode cX10_homesNow 70 = .ok (.goto (-66), 3) := by decide +kernel
theorem dX10_homesNow_73 : decode cX10_homesNow 73 = .ok (.iload_n 1, 1) := by decide +kernel
theorem dX10_homesNow_74 : decode cX10_homesNow 74 = .ok (.ireturn, 1) := by decide +kernel
theorem dX10_homes_0 : decode cX10_homes 0 = .ok (.aload_n 0, 1) := by decide +kernel
theorem dX10_homes_1 : decode cX10_homes 1 = .ok (.invokevirtual 365, 3) := by decide +kernel
theorem dX10_homes_4 : decode cX10_homes 4 = .ok (.ireturn, 1) := by decide +kernel
theorem dX10_roundFrom_0 : decode cX10_roundFrom 0 = .ok (.lconst 0, 1) := by decide +kernel
theorem dX10_roundFrom_1 : decode cX10_roundFrom 1 = .ok (.lstore_n 2, 1) := by decide +kernel
theorem dX10_roundFrom_2 : decode cX10_roundFrom 2 = .ok (.lconst 0, 1) := by decide +kernel
theorem dX10_roundFrom_3 : decode cX10_roundFrom 3 = .ok (.lstore 4, 2) := by decide +kernel
theorem dX10_roundFrom_5 : decode cX10_roundFrom 5 = .ok (.iconst 0, 1) := by decide +kernel
theorem dX10_roundFrom_6 : decode cX10_roundFrom 6 = .ok (.istore 6, 2) := by decide +kernel
theorem dX10_roundFrom_8 : decode cX10_roundFrom 8 = .ok (.iload 6, 2) := by decide +kernel
theorem dX10_roundFrom_10 : decode cX10_roundFrom 10 = .ok (.aload_n 0, 1) := by decide +kernel
theorem dX10_roundFrom_11 : decode cX10_roundFrom 11 = .ok (.getfield 169, 3) := by decide +kernel
theorem dX10_roundFrom_14 : decode cX10_roundFrom 14 = .ok (.if_icmp .ge 47, 3) := by decide +kernel
theorem dX10_roundFrom_17 : decode cX10_roundFrom 17 = .ok (.lload_n 2, 1) := by decide +kernel
theorem dX10_roundFrom_18 : decode cX10_roundFrom 18 = .ok (.aload_n 0, 1) := by decide +kernel
theorem dX10_roundFrom_19 : decode cX10_roundFrom 19 = .ok (.getfield 50, 3) := by decide +kernel
theorem dX10_roundFrom_22 : decode cX10_roundFrom 22 = .ok (.iload 6, 2) := by decide +kernel
theorem dX10_roundFrom_24 : decode cX10_roundFrom 24 = .ok (.iaload, 1) := by decide +kernel
theorem dX10_roundFrom_25 : decode cX10_roundFrom 25 = .ok (.i2l, 1) := by decide +kernel
theorem dX10_roundFrom_26 : decode cX10_roundFrom 26 = .ok (.ladd, 1) := by decide +kernel
theorem dX10_roundFrom_27 : decode cX10_roundFrom 27 = .ok (.lstore_n 2, 1) := by decide +kernel
theorem dX10_roundFrom_28 : decode cX10_roundFrom 28 = .ok (.lload 4, 2) := by decide +kernel
theorem dX10_roundFrom_30 : decode cX10_roundFrom 30 = .ok (.iload_n 1, 1) := by decide +kernel
theorem dX10_roundFrom_31 : decode cX10_roundFrom 31 = .ok (.iload 6, 2) := by decide +kernel
theorem dX10_roundFrom_33 : decode cX10_roundFrom 33 = .ok (.ishr, 1) := by decide +kernel
theorem dX10_roundFrom_34 : decode cX10_roundFrom 34 = .ok (.iconst 1, 1) := by decide +kernel
theorem dX10_roundFrom_35 : decode cX10_roundFrom 35 = .ok (.iand, 1) := by decide +kernel
theorem dX10_roundFrom_36 : decode cX10_roundFrom 36 = .ok (.iconst 1, 1) := by decide +kernel
theorem dX10_roundFrom_37 : decode cX10_roundFrom 37 = .ok (.if_icmp .ne 7, 3) := by decide +kernel
theorem dX10_roundFrom_40 : decode cX10_roundFrom 40 = .ok (.lconst 0, 1) := by decide +kernel
theorem dX10_roundFrom_41 : decode cX10_roundFrom 41 = .ok (.goto 11, 3) := by decide +kernel
theorem dX10_roundFrom_44 : decode cX10_roundFrom 44 = .ok (.aload_n 0, 1) := by decide +kernel
theorem dX10_roundFrom_45 : decode cX10_roundFrom 45 = .ok (.getfield 50, 3) := by decide +kernel
theorem dX10_roundFrom_48 : decode cX10_roundFrom 48 = .ok (.iload 6, 2) := by decide +kernel
theorem dX10_roundFrom_50 : decode cX10_roundFrom 50 = .ok (.iaload, 1) := by decide +kernel
theorem dX10_roundFrom_51 : decode cX10_roundFrom 51 = .ok (.i2l, 1) := by decide +kernel
theorem dX10_roundFrom_52 : decode cX10_roundFrom 52 = .ok (.ladd, 1) := by decide +kernel
theorem dX10_roundFrom_53 : decode cX10_roundFrom 53 = .ok (.lstore 4, 2) := by decide +kernel
theorem dX10_roundFrom_55 : decode cX10_roundFrom 55 = .ok (.iinc 6 1, 3) := by decide +kernel
theorem dX10_roundFrom_58 : decode cX10_roundFrom 58 = .ok (.goto (-50), 3) := by decide +kernel
theorem dX10_roundFrom_61 : decode cX10_roundFrom 61 = .ok (.aload_n 0, 1) := by decide +kernel
theorem dX10_roundFrom_62 : decode cX10_roundFrom 62 = .ok (.getfield 16, 3) := by decide +kernel
theorem dX10_roundFrom_65 : decode cX10_roundFrom 65 = .ok (.i2l, 1) := by decide +kernel
theorem dX10_roundFrom_66 : decode cX10_roundFrom 66 = .ok (.lload_n 2, 1) := by decide +kernel
theorem dX10_roundFrom_67 : decode cX10_roundFrom 67 = .ok (.lmul, 1) := by decide +kernel
theorem dX10_roundFrom_68 : decode cX10_roundFrom 68 = .ok (.lload 4, 2) := by decide +kernel
theorem dX10_roundFrom_70 : decode cX10_roundFrom 70 = .ok (.lconst 1, 1) := by decide +kernel
theorem dX10_roundFrom_71 : decode cX10_roundFrom 71 = .ok (.lcmp, 1) := by decide +kernel
theorem dX10_roundFrom_72 : decode cX10_roundFrom 72 = .ok (.ifCond .ge 7, 3) := by decide +kernel
theorem dX10_roundFrom_75 : decode cX10_roundFrom 75 = .ok (.lconst 1, 1) := by decide +kernel
theorem dX10_roundFrom_76 : decode cX10_roundFrom 76 = .ok (.goto 5, 3) := by decide +kernel
theorem dX10_roundFrom_79 : decode cX10_roundFrom 79 = .ok (.lload 4, 2) := by decide +kernel
theorem dX10_roundFrom_81 : decode cX10_roundFrom 81 = .ok (.ldiv, 1) := by decide +kernel
theorem dX10_roundFrom_82 : decode cX10_roundFrom 82 = .ok (.lstore 6, 2) := by decide +kernel
theorem dX10_roundFrom_84 : decode cX10_roundFrom 84 = .ok (.aload_n 0, 1) := by decide +kernel
theorem dX10_roundFrom_85 : decode cX10_roundFrom 85 = .ok (.getfield 16, 3) := by decide +kernel
theorem dX10_roundFrom_88 : decode cX10_roundFrom 88 = .ok (.istore 8, 2) := by decide +kernel
theorem dX10_roundFrom_90 : decode cX10_roundFrom 90 = .ok (.aload_n 0, 1) := by decide +kernel
theorem dX10_roundFrom_91 : decode cX10_roundFrom 91 = .ok (.lload 6, 2) := by decide +kernel
theorem dX10_roundFrom_93 : decode cX10_roundFrom 93 = .ok (.lconst 1, 1) := by decide +kernel
theorem dX10_roundFrom_94 : decode cX10_roundFrom 94 = .ok (.lcmp, 1) := by decide +kernel
theorem dX10_roundFrom_95 : decode cX10_roundFrom 95 = .ok (.ifCond .ge 7, 3) := by decide +kernel
theorem dX10_roundFrom_98 : decode cX10_roundFrom 98 = .ok (.iconst 1, 1) := by decide +kernel
theorem dX10_roundFrom_99 : decode cX10_roundFrom 99 = .ok (.goto 21, 3) := by decide +kernel
theorem dX10_roundFrom_102 : decode cX10_roundFrom 102 = .ok (.lload 6, 2) := by decide +kernel
theorem dX10_roundFrom_104 : decode cX10_roundFrom 104 = .ok (.ldc2_w 368, 3) := by decide +kernel
theorem dX10_roundFrom_107 : decode cX10_roundFrom 107 = .ok (.lcmp, 1) := by decide +kernel
theorem dX10_roundFrom_108 : decode cX10_roundFrom 108 = .ok (.ifCond .le 9, 3) := by decide +kernel
theorem dX10_roundFrom_111 : decode cX10_roundFrom 111 = .ok (.sipush 3600, 3) := by decide +kernel
theorem dX10_roundFrom_114 : decode cX10_roundFrom 114 = .ok (.goto 6, 3) := by decide +kernel
theorem dX10_roundFrom_117 : decode cX10_roundFrom 117 = .ok (.lload 6, 2) := by decide +kernel
theorem dX10_roundFrom_119 : decode cX10_roundFrom 119 = .ok (.l2i, 1) := by decide +kernel
theorem dX10_roundFrom_120 : decode cX10_roundFrom 120 = .ok (.putfield 16, 3) := by decide +kernel
theorem dX10_roundFrom_123 : decode cX10_roundFrom 123 = .ok (.aload_n 0, 1) := by decide +kernel
theorem dX10_roundFrom_124 : decode cX10_roundFrom 124 = .ok (.invokevirtual 365, 3) := by decide +kernel
theorem dX10_roundFrom_127 : decode cX10_roundFrom 127 = .ok (.istore 9, 2) := by decide +kernel
theorem dX10_roundFrom_129 : decode cX10_roundFrom 129 = .ok (.aload_n 0, 1) := by decide +kernel
theorem dX10_roundFrom_130 : decode cX10_roundFrom 130 = .ok (.iload 8, 2) := by decide +kernel
theorem dX10_roundFrom_132 : decode cX10_roundFrom 132 = .ok (.putfield 16, 3) := by decide +kernel
theorem dX10_roundFrom_135 : decode cX10_roundFrom 135 = .ok (.iload 9, 2) := by decide +kernel
theorem dX10_roundFrom_137 : decode cX10_roundFrom 137 = .ok (.ireturn, 1) := by decide +kernel
theorem dX10_round_0 : decode cX10_round 0 = .ok (.iload_n 1, 1) := by decide +kernel
theorem dX10_round_1 : decode cX10_round 1 = .ok (.iconst 0, 1) := by decide +kernel
theorem dX10_round_2 : decode cX10_round 2 = .ok (.bipush 20, 2) := by decide +kernel
theorem dX10_round_4 : decode cX10_round 4 = .ok (.invokestatic 162, 3) := by decide +kernel
theorem dX10_round_7 : decode cX10_round 7 = .ok (.ifCond .ne 6, 3) := by decide +kernel
theorem dX10_round_10 : decode cX10_round 10 = .ok (.bipush (-2), 2) := by decide +kernel
theorem dX10_round_12 : decode cX10_round 12 = .ok (.ireturn, 1) := by decide +kernel
theorem dX10_round_13 : decode cX10_round 13 = .ok (.iconst 0, 1) := by decide +kernel
theorem dX10_round_14 : decode cX10_round 14 = .ok (.istore_n 2, 1) := by decide +kernel
theorem dX10_round_15 : decode cX10_round 15 = .ok (.iconst 0, 1) := by decide +kernel
theorem dX10_round_16 : decode cX10_round 16 = .ok (.istore_n 3, 1) := by decide +kernel
theorem dX10_round_17 : decode cX10_round 17 = .ok (.iload_n 3, 1) := by decide +kernel
theorem dX10_round_18 : decode cX10_round 18 = .ok (.iload_n 1, 1) := by decide +kernel
theorem dX10_round_19 : decode cX10_round 19 = .ok (.if_icmp .ge 15, 3) := by decide +kernel
theorem dX10_round_22 : decode cX10_round 22 = .ok (.aload_n 0, 1) := by decide +kernel
theorem dX10_round_23 : decode cX10_round 23 = .ok (.iload_n 2, 1) := by decide +kernel
theorem dX10_round_24 : decode cX10_round 24 = .ok (.invokevirtual 370, 3) := by decide +kernel
theorem dX10_round_27 : decode cX10_round 27 = .ok (.istore_n 2, 1) := by decide +kernel
theorem dX10_round_28 : decode cX10_round 28 = .ok (.iinc 3 1, 3) := by decide +kernel
theorem dX10_round_31 : decode cX10_round 31 = .ok (.goto (-14), 3) := by decide +kernel
theorem dX10_round_34 : decode cX10_round 34 = .ok (.iload_n 2, 1) := by decide +kernel
theorem dX10_round_35 : decode cX10_round 35 = .ok (.ireturn, 1) := by decide +kernel
theorem dX10_rest_0 : decode cX10_rest 0 = .ok (.iload_n 1, 1) := by decide +kernel
theorem dX10_rest_1 : decode cX10_rest 1 = .ok (.iconst 0, 1) := by decide +kernel
theorem dX10_rest_2 : decode cX10_rest 2 = .ok (.iconst 2, 1) := by decide +kernel
theorem dX10_rest_3 : decode cX10_rest 3 = .ok (.invokestatic 162, 3) := by decide +kernel
theorem dX10_rest_6 : decode cX10_rest 6 = .ok (.ifCond .ne 6, 3) := by decide +kernel
theorem dX10_rest_9 : decode cX10_rest 9 = .ok (.bipush (-2), 2) := by decide +kernel
theorem dX10_rest_11 : decode cX10_rest 11 = .ok (.ireturn, 1) := by decide +kernel
theorem dX10_rest_12 : decode cX10_rest 12 = .ok (.aload_n 0, 1) := by decide +kernel
theorem dX10_rest_13 : decode cX10_rest 13 = .ok (.getfield 141, 3) := by decide +kernel
theorem dX10_rest_16 : decode cX10_rest 16 = .ok (.iconst 0, 1) := by decide +kernel
theorem dX10_rest_17 : decode cX10_rest 17 = .ok (.iconst 0, 1) := by decide +kernel
theorem dX10_rest_18 : decode cX10_rest 18 = .ok (.iastore, 1) := by decide +kernel
theorem dX10_rest_19 : decode cX10_rest 19 = .ok (.iconst 1, 1) := by decide +kernel
theorem dX10_rest_20 : decode cX10_rest 20 = .ok (.istore_n 2, 1) := by decide +kernel
theorem dX10_rest_21 : decode cX10_rest 21 = .ok (.iload_n 2, 1) := by decide +kernel
theorem dX10_rest_22 : decode cX10_rest 22 = .ok (.bipush 20, 2) := by decide +kernel
theorem dX10_rest_24 : decode cX10_rest 24 = .ok (.if_icmp .gt 81, 3) := by decide +kernel
theorem dX10_rest_27 : decode cX10_rest 27 = .ok (.aload_n 0, 1) := by decide +kernel
theorem dX10_rest_28 : decode cX10_rest 28 = .ok (.getfield 141, 3) := by decide +kernel
theorem dX10_rest_31 : decode cX10_rest 31 = .ok (.iload_n 2, 1) := by decide +kernel
theorem dX10_rest_32 : decode cX10_rest 32 = .ok (.aload_n 0, 1) := by decide +kernel
theorem dX10_rest_33 : decode cX10_rest 33 = .ok (.aload_n 0, 1) := by decide +kernel
theorem dX10_rest_34 : decode cX10_rest 34 = .ok (.getfield 141, 3) := by decide +kernel
theorem dX10_rest_37 : decode cX10_rest 37 = .ok (.iload_n 2, 1) := by decide +kernel
theorem dX10_rest_38 : decode cX10_rest 38 = .ok (.iconst 1, 1) := by decide +kernel
theorem dX10_rest_39 : decode cX10_rest 39 = .ok (.isub, 1) := by decide +kernel
theorem dX10_rest_40 : decode cX10_rest 40 = .ok (.iaload, 1) := by decide +kernel
theorem dX10_rest_41 : decode cX10_rest 41 = .ok (.invokevirtual 370, 3) := by decide +kernel
theorem dX10_rest_44 : decode cX10_rest 44 = .ok (.iastore, 1) := by decide +kernel
theorem dX10_rest_45 : decode cX10_rest 45 = .ok (.iconst 0, 1) := by decide +kernel
theorem dX10_rest_46 : decode cX10_rest 46 = .ok (.istore_n 3, 1) := by decide +kernel
theorem dX10_rest_47 : decode cX10_rest 47 = .ok (.iload_n 3, 1) := by decide +kernel
theorem dX10_rest_48 : decode cX10_rest 48 = .ok (.iload_n 2, 1) := by decide +kernel
theorem dX10_rest_49 : decode cX10_rest 49 = .ok (.if_icmp .ge 50, 3) := by decide +kernel
theorem dX10_rest_52 : decode cX10_rest 52 = .ok (.aload_n 0, 1) := by decide +kernel
theorem dX10_rest_53 : decode cX10_rest 53 = .ok (.getfield 141, 3) := by decide +kernel
theorem dX10_rest_56 : decode cX10_rest 56 = .ok (.iload_n 3, 1) := by decide +kernel
theorem dX10_rest_57 : decode cX10_rest 57 = .ok (.iaload, 1) := by decide +kernel
theorem dX10_rest_58 : decode cX10_rest 58 = .ok (.aload_n 0, 1) := by decide +kernel
theorem dX10_rest_59 : decode cX10_rest 59 = .ok (.getfield 141, 3) := by decide +kernel
theorem dX10_rest_62 : decode cX10_rest 62 = .ok (.iload_n 2, 1) := by decide +kernel
theorem dX10_rest_63 : decode cX10_rest 63 = .ok (.iaload, 1) := by decide +kernel
theorem dX10_rest_64 : decode cX10_rest 64 = .ok (.if_icmp .ne 29, 3) := by decide +kernel
theorem dX10_rest_67 : decode cX10_rest 67 = .ok (.iload_n 1, 1) := by decide +kernel
theorem dX10_rest_68 : decode cX10_rest 68 = .ok (.ifCond .ne 12, 3) := by decide +kernel
theorem dX10_rest_71 : decode cX10_rest 71 = .ok (.aload_n 0, 1) := by decide +kernel
theorem dX10_rest_72 : decode cX10_rest 72 = .ok (.getfield 141, 3) := by decide +kernel
theorem dX10_rest_75 : decode cX10_rest 75 = .ok (.iload_n 2, 1) := by decide +kernel
theorem dX10_rest_76 : decode cX10_rest 76 = .ok (.iaload, 1) := by decide +kernel
theorem dX10_rest_77 : decode cX10_rest 77 = .ok (.goto 15, 3) := by decide +kernel
theorem dX10_rest_80 : decode cX10_rest 80 = .ok (.iload_n 1, 1) := by decide +kernel
theorem dX10_rest_81 : decode cX10_rest 81 = .ok (.iconst 1, 1) := by decide +kernel
theorem dX10_rest_82 : decode cX10_rest 82 = .ok (.if_icmp .ne 7, 3) := by decide +kernel
theorem dX10_rest_85 : decode cX10_rest 85 = .ok (.iload_n 3, 1) := by decide +kernel
theorem dX10_rest_86 : decode cX10_rest 86 = .ok (.goto 6, 3) := by decide +kernel
theorem dX10_rest_89 : decode cX10_rest 89 = .ok (.iload_n 2, 1) := by decide +kernel
theorem dX10_rest_90 : decode cX10_rest 90 = .ok (.iload_n 3, 1) := by decide +kernel
theorem dX10_rest_91 : decode cX10_rest 91 = .ok (.isub, 1) := by decide +kernel
theorem dX10_rest_92 : decode cX10_rest 92 = .ok (.ireturn, 1) := by decide +kernel
theorem dX10_rest_93 : decode cX10_rest 93 = .ok (.iinc 3 1, 3) := by decide +kernel
theorem dX10_rest_96 : decode cX10_rest 96 = .ok (.goto (-49), 3) := by decide +kernel
theorem dX10_rest_99 : decode cX10_rest 99 = .ok (.iinc 2 1, 3) := by decide +kernel
theorem dX10_rest_102 : decode cX10_rest 102 = .ok (.goto (-81), 3) := by decide +kernel
theorem dX10_rest_105 : decode cX10_rest 105 = .ok (.bipush (-3), 2) := by decide +kernel
theorem dX10_rest_107 : decode cX10_rest 107 = .ok (.ireturn, 1) := by decide +kernel
theorem dX10_asksOf_0 : decode cX10_asksOf 0 = .ok (.aload_n 0, 1) := by decide +kernel
theorem dX10_asksOf_1 : decode cX10_asksOf 1 = .ok (.iload_n 1, 1) := by decide +kernel
theorem dX10_asksOf_2 : decode cX10_asksOf 2 = .ok (.invokevirtual 195, 3) := by decide +kernel
theorem dX10_asksOf_5 : decode cX10_asksOf 5 = .ok (.ifCond .ne 10, 3) := by decide +kernel
theorem dX10_asksOf_8 : decode cX10_asksOf 8 = .ok (.aload_n 0, 1) := by decide +kernel
theorem dX10_asksOf_9 : decode cX10_asksOf 9 = .ok (.getfield 38, 3) := by decide +kernel
theorem dX10_asksOf_12 : decode cX10_asksOf 12 = .ok (.iload_n 1, 1) := by decide +kernel
theorem dX10_asksOf_13 : decode cX10_asksOf 13 = .ok (.iaload, 1) := by decide +kernel
theorem dX10_asksOf_14 : decode cX10_asksOf 14 = .ok (.ireturn, 1) := by decide +kernel
theorem dX10_asksOf_15 : decode cX10_asksOf 15 = .ok (.aload_n 0, 1) := by decide +kernel
theorem dX10_asksOf_16 : decode cX10_asksOf 16 = .ok (.iload_n 1, 1) := by decide +kernel
theorem dX10_asksOf_17 : decode cX10_asksOf 17 = .ok (.invokevirtual 261, 3) := by decide +kernel
theorem dX10_asksOf_20 : decode cX10_asksOf 20 = .ok (.istore_n 2, 1) := by decide +kernel
theorem dX10_asksOf_21 : decode cX10_asksOf 21 = .ok (.aload_n 0, 1) := by decide +kernel
theorem dX10_asksOf_22 : decode cX10_asksOf 22 = .ok (.iconst 0, 1) := by decide +kernel
theorem dX10_asksOf_23 : decode cX10_asksOf 23 = .ok (.iconst 0, 1) := by decide +kernel
theorem dX10_asksOf_24 : decode cX10_asksOf 24 = .ok (.iconst 0, 1) := by decide +kernel
theorem dX10_asksOf_25 : decode cX10_asksOf 25 = .ok (.iconst 0, 1) := by decide +kernel
theorem dX10_asksOf_26 : decode cX10_asksOf 26 = .ok (.invokevirtual 358, 3) := by decide +kernel
theorem dX10_asksOf_29 : decode cX10_asksOf 29 = .ok (.aload_n 0, 1) := by decide +kernel
theorem dX10_asksOf_30 : decode cX10_asksOf 30 = .ok (.iconst 2, 1) := by decide +kernel
theorem dX10_asksOf_31 : decode cX10_asksOf 31 = .ok (.iload_n 2, 1) := by decide +kernel
theorem dX10_asksOf_32 : decode cX10_asksOf 32 = .ok (.iload_n 1, 1) := by decide +kernel
theorem dX10_asksOf_33 : decode cX10_asksOf 33 = .ok (.invokevirtual 362, 3) := by decide +kernel
theorem dX10_asksOf_36 : decode cX10_asksOf 36 = .ok (.bipush 10, 2) := by decide +kernel
theorem dX10_asksOf_38 : decode cX10_asksOf 38 = .ok (.invokestatic 373, 3) := by decide +kernel
theorem dX10_asksOf_41 : decode cX10_asksOf 41 = .ok (.ireturn, 1) := by decide +kernel
theorem dX10_asks_0 : decode cX10_asks 0 = .ok (.aload_n 0, 1) := by decide +kernel
theorem dX10_asks_1 : decode cX10_asks 1 = .ok (.iload_n 1, 1) := by decide +kernel
theorem dX10_asks_2 : decode cX10_asks 2 = .ok (.invokevirtual 180, 3) := by decide +kernel
theorem dX10_asks_5 : decode cX10_asks 5 = .ok (.ifCond .eq 11, 3) := by decide +kernel
theorem dX10_asks_8 : decode cX10_asks 8 = .ok (.aload_n 0, 1) := by decide +kernel
theorem dX10_asks_9 : decode cX10_asks 9 = .ok (.iload_n 1, 1) := by decide +kernel
theorem dX10_asks_10 : decode cX10_asks 10 = .ok (.invokevirtual 376, 3) := by decide +kernel
theorem dX10_asks_13 : decode cX10_asks 13 = .ok (.goto 5, 3) := by decide +kernel
theorem dX10_asks_16 : decode cX10_asks 16 = .ok (.bipush (-5), 2) := by decide +kernel
theorem dX10_asks_18 : decode cX10_asks 18 = .ok (.ireturn, 1) := by decide +kernel
theorem dX10_asked_0 : decode cX10_asked 0 = .ok (.iconst 0, 1) := by decide +kernel
theorem dX10_asked_1 : decode cX10_asked 1 = .ok (.istore_n 1, 1) := by decide +kernel
theorem dX10_asked_2 : decode cX10_asked 2 = .ok (.iload_n 1, 1) := by decide +kernel
theorem dX10_asked_3 : decode cX10_asked 3 = .ok (.aload_n 0, 1) := by decide +kernel
theorem dX10_asked_4 : decode cX10_asked 4 = .ok (.getfield 166, 3) := by decide +kernel
theorem dX10_asked_7 : decode cX10_asked 7 = .ok (.if_icmp .ge 20, 3) := by decide +kernel
theorem dX10_asked_10 : decode cX10_asked 10 = .ok (.aload_n 0, 1) := by decide +kernel
theorem dX10_asked_11 : decode cX10_asked 11 = .ok (.getfield 144, 3) := by decide +kernel
theorem dX10_asked_14 : decode cX10_asked 14 = .ok (.iload_n 1, 1) := by decide +kernel
theorem dX10_asked_15 : decode cX10_asked 15 = .ok (.aload_n 0, 1) := by decide +kernel
theorem dX10_asked_16 : decode cX10_asked 16 = .ok (.iload_n 1, 1) := by decide +kernel
theorem dX10_asked_17 : decode cX10_asked 17 = .ok (.invokevirtual 376, 3) := by decide +kernel
theorem dX10_asked_20 : decode cX10_asked 20 = .ok (.iastore, 1) := by decide +kernel
theorem dX10_asked_21 : decode cX10_asked 21 = .ok (.iinc 1 1, 3) := by decide +kernel
theorem dX10_asked_24 : decode cX10_asked 24 = .ok (.goto (-22), 3) := by decide +kernel
theorem dX10_asked_27 : decode cX10_asked 27 = .ok (.iconst 0, 1) := by decide +kernel
theorem dX10_asked_28 : decode cX10_asked 28 = .ok (.istore_n 1, 1) := by decide +kernel
theorem dX10_asked_29 : decode cX10_asked 29 = .ok (.iconst 0, 1) := by decide +kernel
theorem dX10_asked_30 : decode cX10_asked 30 = .ok (.istore_n 2, 1) := by decide +kernel
theorem dX10_asked_31 : decode cX10_asked 31 = .ok (.iload_n 2, 1) := by decide +kernel
theorem dX10_asked_32 : decode cX10_asked 32 = .ok (.aload_n 0, 1) := by decide +kernel
theorem dX10_asked_33 : decode cX10_asked 33 = .ok (.getfield 166, 3) := by decide +kernel
theorem dX10_asked_36 : decode cX10_asked 36 = .ok (.if_icmp .ge 44, 3) := by decide +kernel
theorem dX10_asked_39 : decode cX10_asked 39 = .ok (.iload_n 1, 1) := by decide +kernel
theorem dX10_asked_40 : decode cX10_asked 40 = .ok (.aload_n 0, 1) := by decide +kernel
theorem dX10_asked_41 : decode cX10_asked 41 = .ok (.getfield 144, 3) := by decide +kernel
theorem dX10_asked_44 : decode cX10_asked 44 = .ok (.iload_n 2, 1) := by decide +kernel
theorem dX10_asked_45 : decode cX10_asked 45 = .ok (.iaload, 1) := by decide +kernel
theorem dX10_asked_46 : decode cX10_asked 46 = .ok (.aload_n 0, 1) := by decide +kernel
theorem dX10_asked_47 : decode cX10_asked 47 = .ok (.getfield 38, 3) := by decide +kernel
theorem dX10_asked_50 : decode cX10_asked 50 = .ok (.iload_n 2, 1) := by decide +kernel
theorem dX10_asked_51 : decode cX10_asked 51 = .ok (.iaload, 1) := by decide +kernel
theorem dX10_asked_52 : decode cX10_asked 52 = .ok (.if_icmp .ne 7, 3) := by decide +kernel
theorem dX10_asked_55 : decode cX10_asked 55 = .ok (.iconst 0, 1) := by decide +kernel
theorem dX10_asked_56 : decode cX10_asked 56 = .ok (.goto 4, 3) := by decide +kernel
theorem dX10_asked_59 : decode cX10_asked 59 = .ok (.iconst 1, 1) := by decide +kernel
theorem dX10_asked_60 : decode cX10_asked 60 = .ok (.iadd, 1) := by decide +kernel
theorem dX10_asked_61 : decode cX10_asked 61 = .ok (.istore_n 1, 1) := by decide +kernel
theorem dX10_asked_62 : decode cX10_asked 62 = .ok (.aload_n 0, 1) := by decide +kernel
theorem dX10_asked_63 : decode cX10_asked 63 = .ok (.getfield 38, 3) := by decide +kernel
theorem dX10_asked_66 : decode cX10_asked 66 = .ok (.iload_n 2, 1) := by decide +kernel
theorem dX10_asked_67 : decode cX10_asked 67 = .ok (.aload_n 0, 1) := by decide +kernel
theorem dX10_asked_68 : decode cX10_asked 68 = .ok (.getfield 144, 3) := by decide +kernel
theorem dX10_asked_71 : decode cX10_asked 71 = .ok (.iload_n 2, 1) := by decide +kernel
theorem dX10_asked_72 : decode cX10_asked 72 = .ok (.iaload, 1) := by decide +kernel
theorem dX10_asked_73 : decode cX10_asked 73 = .ok (.iastore, 1) := by decide +kernel
theorem dX10_asked_74 : decode cX10_asked 74 = .ok (.iinc 2 1, 3) := by decide +kernel
theorem dX10_asked_77 : decode cX10_asked 77 = .ok (.goto (-46), 3) := by decide +kernel
theorem dX10_asked_80 : decode cX10_asked 80 = .ok (.iload_n 1, 1) := by decide +kernel
theorem dX10_asked_81 : decode cX10_asked 81 = .ok (.ireturn, 1) := by decide +kernel
theorem dX10_goesBy_0 : decode cX10_goesBy 0 = .ok (.lload_n 2, 1) := by decide +kernel
theorem dX10_goesBy_1 : decode cX10_goesBy 1 = .ok (.lstore 4, 2) := by decide +kernel
theorem dX10_goesBy_3 : decode cX10_goesBy 3 = .ok (.iconst 0, 1) := by decide +kernel
theorem dX10_goesBy_4 : decode cX10_goesBy 4 = .ok (.istore 6, 2) := by decide +kernel
theorem dX10_goesBy_6 : decode cX10_goesBy 6 = .ok (.iload 6, 2) := by decide +kernel
theorem dX10_goesBy_8 : decode cX10_goesBy 8 = .ok (.bipush 40, 2) := by decide +kernel
theorem dX10_goesBy_10 : decode cX10_goesBy 10 = .ok (.if_icmp .gt 174, 3) := by decide +kernel
theorem dX10_goesBy_13 : decode cX10_goesBy 13 = .ok (.iconst 0, 1) := by decide +kernel
theorem dX10_goesBy_14 : decode cX10_goesBy 14 = .ok (.istore 7, 2) := by decide +kernel
theorem dX10_goesBy_16 : decode cX10_goesBy 16 = .ok (.iload 7, 2) := by decide +kernel
theorem dX10_goesBy_18 : decode cX10_goesBy 18 = .ok (.aload_n 0, 1) := by decide +kernel
theorem dX10_goesBy_19 : decode cX10_goesBy 19 = .ok (.getfield 166, 3) := by decide +kernel
theorem dX10_goesBy_22 : decode cX10_goesBy 22 = .ok (.if_icmp .ge 135, 3) := by decide +kernel
theorem dX10_goesBy_25 : decode cX10_goesBy 25 = .ok (.aload_n 0, 1) := by decide +kernel
theorem dX10_goesBy_26 : decode cX10_goesBy 26 = .ok (.getfield 26, 3) := by decide +kernel
theorem dX10_goesBy_29 : decode cX10_goesBy 29 = .ok (.iload 7, 2) := by decide +kernel
theorem dX10_goesBy_31 : decode cX10_goesBy 31 = .ok (.iaload, 1) := by decide +kernel
theorem dX10_goesBy_32 : decode cX10_goesBy 32 = .ok (.iload 6, 2) := by decide +kernel
theorem dX10_goesBy_34 : decode cX10_goesBy 34 = .ok (.if_icmp .ne 117, 3) := by decide +kernel
theorem dX10_goesBy_37 : decode cX10_goesBy 37 = .ok (.aload_n 0, 1) := by decide +kernel
theorem dX10_goesBy_38 : decode cX10_goesBy 38 = .ok (.iload 7, 2) := by decide +kernel
theorem dX10_goesBy_40 : decode cX10_goesBy 40 = .ok (.iload_n 1, 1) := by decide +kernel
theorem dX10_goesBy_41 : decode cX10_goesBy 41 = .ok (.iconst 2, 1) := by decide +kernel
theorem dX10_goesBy_42 : decode cX10_goesBy 42 = .ok (.irem, 1) := by decide +kernel
theorem dX10_goesBy_43 : decode cX10_goesBy 43 = .ok (.invokevirtual 211, 3) := by decide +kernel
theorem dX10_goesBy_46 : decode cX10_goesBy 46 = .ok (.ifCond .eq 105, 3) := by decide +kernel
theorem dX10_goesBy_49 : decode cX10_goesBy 49 = .ok (.lload 4, 2) := by decide +kernel
theorem dX10_goesBy_51 : decode cX10_goesBy 51 = .ok (.aload_n 0, 1) := by decide +kernel
theorem dX10_goesBy_52 : decode cX10_goesBy 52 = .ok (.getfield 147, 3) := by decide +kernel
theorem dX10_goesBy_55 : decode cX10_goesBy 55 = .ok (.iload 7, 2) := by decide +kernel
theorem dX10_goesBy_57 : decode cX10_goesBy 57 = .ok (.laload, 1) := by decide +kernel
theorem dX10_goesBy_58 : decode cX10_goesBy 58 = .ok (.lcmp, 1) := by decide +kernel
theorem dX10_goesBy_59 : decode cX10_goesBy 59 = .ok (.ifCond .ge 13, 3) := by decide +kernel
theorem dX10_goesBy_62 : decode cX10_goesBy 62 = .ok (.aload_n 0, 1) := by decide +kernel
theorem dX10_goesBy_63 : decode cX10_goesBy 63 = .ok (.getfield 147, 3) := by decide +kernel
theorem dX10_goesBy_66 : decode cX10_goesBy 66 = .ok (.iload 7, 2) := by decide +kernel
theorem dX10_goesBy_68 : decode cX10_goesBy 68 = .ok (.laload, 1) := by decide +kernel
theorem dX10_goesBy_69 : decode cX10_goesBy 69 = .ok (.goto 5, 3) := by decide +kernel
theorem dX10_goesBy_72 : decode cX10_goesBy 72 = .ok (.lload 4, 2) := by decide +kernel
theorem dX10_goesBy_74 : decode cX10_goesBy 74 = .ok (.lstore 4, 2) := by decide +kernel
theorem dX10_goesBy_76 : decode cX10_goesBy 76 = .ok (.lload 4, 2) := by decide +kernel
theorem dX10_goesBy_78 : decode cX10_goesBy 78 = .ok (.aload_n 0, 1) := by decide +kernel
theorem dX10_goesBy_79 : decode cX10_goesBy 79 = .ok (.getfield 147, 3) := by decide +kernel
theorem dX10_goesBy_82 : decode cX10_goesBy 82 = .ok (.iload 7, 2) := by decide +kernel
theorem dX10_goesBy_84 : decode cX10_goesBy 84 = .ok (.laload, 1) := by decide +kernel
theorem dX10_goesBy_85 : decode cX10_goesBy 85 = .ok (.lsub, 1) := by decide +kernel
theorem dX10_goesBy_86 : decode cX10_goesBy 86 = .ok (.lstore 8, 2) := by decide +kernel
theorem dX10_goesBy_88 : decode cX10_goesBy 88 = .ok (.aload_n 0, 1) := by decide +kernel
theorem dX10_goesBy_89 : decode cX10_goesBy 89 = .ok (.iconst 0, 1) := by decide +kernel
theorem dX10_goesBy_90 : decode cX10_goesBy 90 = .ok (.iconst 0, 1) := by decide +kernel
theorem dX10_goesBy_91 : decode cX10_goesBy 91 = .ok (.lload 8, 2) := by decide +kernel
theorem dX10_goesBy_93 : decode cX10_goesBy 93 = .ok (.l2i, 1) := by decide +kernel
theorem dX10_goesBy_94 : decode cX10_goesBy 94 = .ok (.iconst 0, 1) := by decide +kernel
theorem dX10_goesBy_95 : decode cX10_goesBy 95 = .ok (.invokevirtual 358, 3) := by decide +kernel
theorem dX10_goesBy_98 : decode cX10_goesBy 98 = .ok (.lload 4, 2) := by decide +kernel
theorem dX10_goesBy_100 : decode cX10_goesBy 100 = .ok (.aload_n 0, 1) := by decide +kernel
theorem dX10_goesBy_101 : decode cX10_goesBy 101 = .ok (.iload 7, 2) := by decide +kernel
theorem dX10_goesBy_103 : decode cX10_goesBy 103 = .ok (.invokevirtual 191, 3) := by decide +kernel
theorem dX10_goesBy_106 : decode cX10_goesBy 106 = .ok (.aload_n 0, 1) := by decide +kernel
theorem dX10_goesBy_107 : decode cX10_goesBy 107 = .ok (.iconst 1, 1) := by decide +kernel
theorem dX10_goesBy_108 : decode cX10_goesBy 108 = .ok (.aload_n 0, 1) := by decide +kernel
theorem dX10_goesBy_109 : decode cX10_goesBy 109 = .ok (.getfield 150, 3) := by decide +kernel
theorem dX10_goesBy_112 : decode cX10_goesBy 112 = .ok (.iload 7, 2) := by decide +kernel
theorem dX10_goesBy_114 : decode cX10_goesBy 114 = .ok (.iaload, 1) := by decide +kernel
theorem dX10_goesBy_115 : decode cX10_goesBy 115 = .ok (.i2l, 1) := by decide +kernel
theorem dX10_goesBy_116 : decode cX10_goesBy 116 = .ok (.lload 8, 2) := by decide +kernel
theorem dX10_goesBy_118 : decode cX10_goesBy 118 = .ok (.lmul, 1) := by decide +kernel
theorem dX10_goesBy_119 : decode cX10_goesBy 119 = .ok (.aload_n 0, 1) := by decide +kernel
theorem dX10_goesBy_120 : decode cX10_goesBy 120 = .ok (.getfield 16, 3) := by decide +kernel
theorem dX10_goesBy_123 : decode cX10_goesBy 123 = .ok (.i2l, 1) := by decide +kernel
theorem dX10_goesBy_124 : decode cX10_goesBy 124 = .ok (.ldiv, 1) := by decide +kernel
theorem dX10_goesBy_125 : decode cX10_goesBy 125 = .ok (.l2i, 1) := by decide +kernel
theorem dX10_goesBy_126 : decode cX10_goesBy 126 = .ok (.iload 7, 2) := by decide +kernel
theorem dX10_goesBy_128 : decode cX10_goesBy 128 = .ok (.invokevirtual 362, 3) := by decide +kernel
theorem dX10_goesBy_131 : decode cX10_goesBy 131 = .ok (.sipush 999, 3) := by decide +kernel
theorem dX10_goesBy_134 : decode cX10_goesBy 134 = .ok (.invokestatic 373, 3) := by decide +kernel
theorem dX10_goesBy_137 : decode cX10_goesBy 137 = .ok (.iadd, 1) := by decide +kernel
theorem dX10_goesBy_138 : decode cX10_goesBy 138 = .ok (.i2l, 1) := by decide +kernel
theorem dX10_goesBy_139 : decode cX10_goesBy 139 = .ok (.ladd, 1) := by decide +kernel
theorem dX10_goesBy_140 : decode cX10_goesBy 140 = .ok (.lstore 4, 2) := by decide +kernel
theorem dX10_goesBy_142 : decode cX10_goesBy 142 = .ok (.aload_n 0, 1) := by decide +kernel
theorem dX10_goesBy_143 : decode cX10_goesBy 143 = .ok (.getfield 147, 3) := by decide +kernel
theorem dX10_goesBy_146 : decode cX10_goesBy 146 = .ok (.iload 7, 2) := by decide +kernel
theorem dX10_goesBy_148 : decode cX10_goesBy 148 = .ok (.lload 4, 2) := by decide +kernel
theorem dX10_goesBy_150 : decode cX10_goesBy 150 = .ok (.lastore, 1) := by decide +kernel
theorem dX10_goesBy_151 : decode cX10_goesBy 151 = .ok (.iinc 7 1, 3) := by decide +kernel
theorem dX10_goesBy_154 : decode cX10_goesBy 154 = .ok (.goto (-138), 3) := by decide +kernel
theorem dX10_goesBy_157 : decode cX10_goesBy 157 = .ok (.lload 4, 2) := by decide +kernel
theorem dX10_goesBy_159 : decode cX10_goesBy 159 = .ok (.iload 6, 2) := by decide +kernel
theorem dX10_goesBy_161 : decode cX10_goesBy 161 = .ok (.bipush 40, 2) := by decide +kernel
theorem dX10_goesBy_163 : decode cX10_goesBy 163 = .ok (.if_icmp .ge 11, 3) := by decide +kernel
theorem dX10_goesBy_166 : decode cX10_goesBy 166 = .ok (.aload_n 0, 1) := by decide +kernel
theorem dX10_goesBy_167 : decode cX10_goesBy 167 = .ok (.getfield 20, 3) := by decide +kernel
theorem dX10_goesBy_170 : decode cX10_goesBy 170 = .ok (.i2l, 1) := by decide +kernel
theorem dX10_goesBy_171 : decode cX10_goesBy 171 = .ok (.goto 4, 3) := by decide +kernel
theorem dX10_goesBy_174 : decode cX10_goesBy 174 = .ok (.lconst 0, 1) := by decide +kernel
theorem dX10_goesBy_175 : decode cX10_goesBy 175 = .ok (.ladd, 1) := by decide +kernel
theorem dX10_goesBy_176 : decode cX10_goesBy 176 = .ok (.lstore 4, 2) := by decide +kernel
theorem dX10_goesBy_178 : decode cX10_goesBy 178 = .ok (.iinc 6 1, 3) := by decide +kernel
theorem dX10_goesBy_181 : decode cX10_goesBy 181 = .ok (.goto (-175), 3) := by decide +kernel
theorem dX10_goesBy_184 : decode cX10_goesBy 184 = .ok (.lload 4, 2) := by decide +kernel
theorem dX10_goesBy_186 : decode cX10_goesBy 186 = .ok (.lreturn, 1) := by decide +kernel
theorem dX10_goesAll_0 : decode cX10_goesAll 0 = .ok (.iconst 0, 1) := by decide +kernel
theorem dX10_goesAll_1 : decode cX10_goesAll 1 = .ok (.istore_n 3, 1) := by decide +kernel
theorem dX10_goesAll_2 : decode cX10_goesAll 2 = .ok (.iload_n 3, 1) := by decide +kernel
theorem dX10_goesAll_3 : decode cX10_goesAll 3 = .ok (.aload_n 0, 1) := by decide +kernel
theorem dX10_goesAll_4 : decode cX10_goesAll 4 = .ok (.getfield 166, 3) := by decide +kernel
theorem dX10_goesAll_7 : decode cX10_goesAll 7 = .ok (.if_icmp .ge 32, 3) := by decide +kernel
theorem dX10_goesAll_10 : decode cX10_goesAll 10 = .ok (.aload_n 0, 1) := by decide +kernel
theorem dX10_goesAll_11 : decode cX10_goesAll 11 = .ok (.getfield 147, 3) := by decide +kernel
theorem dX10_goesAll_14 : decode cX10_goesAll 14 = .ok (.iload_n 3, 1) := by decide +kernel
theorem dX10_goesAll_15 : decode cX10_goesAll 15 = .ok (.aload_n 0, 1) := by decide +kernel
theorem dX10_goesAll_16 : decode cX10_goesAll 16 = .ok (.getfield 16, 3) := by decide +kernel
theorem dX10_goesAll_19 : decode cX10_goesAll 19 = .ok (.ineg, 1) := by decide +kernel
theorem dX10_goesAll_20 : decode cX10_goesAll 20 = .ok (.i2l, 1) := by decide +kernel
theorem dX10_goesAll_21 : decode cX10_goesAll 21 = .ok (.lastore, 1) := by decide +kernel
theorem dX10_goesAll_22 : decode cX10_goesAll 22 = .ok (.aload_n 0, 1) := by decide +kernel
theorem dX10_goesAll_23 : decode cX10_goesAll 23 = .ok (.getfield 150, 3) := by decide +kernel
theorem dX10_goesAll_26 : decode cX10_goesAll 26 = .ok (.iload_n 3, 1) := by decide +kernel
theorem dX10_goesAll_27 : decode cX10_goesAll 27 = .ok (.aload_n 0, 1) := by decide +kernel
theorem dX10_goesAll_28 : decode cX10_goesAll 28 = .ok (.iload_n 3, 1) := by decide +kernel
theorem dX10_goesAll_29 : decode cX10_goesAll 29 = .ok (.invokevirtual 261, 3) := by decide +kernel
theorem dX10_goesAll_32 : decode cX10_goesAll 32 = .ok (.iastore, 1) := by decide +kernel
theorem dX10_goesAll_33 : decode cX10_goesAll 33 = .ok (.iinc 3 1, 3) := by decide +kernel
theorem dX10_goesAll_36 : decode cX10_goesAll 36 = .ok (.goto (-34), 3) := by decide +kernel
theorem dX10_goesAll_39 : decode cX10_goesAll 39 = .ok (.iconst 0, 1) := by decide +kernel
theorem dX10_goesAll_40 : decode cX10_goesAll 40 = .ok (.istore_n 3, 1) := by decide +kernel
theorem dX10_goesAll_41 : decode cX10_goesAll 41 = .ok (.iload_n 3, 1) := by decide +kernel
theorem dX10_goesAll_42 : decode cX10_goesAll 42 = .ok (.iload_n 1, 1) := by decide +kernel
theorem dX10_goesAll_43 : decode cX10_goesAll 43 = .ok (.if_icmp .ge 39, 3) := by decide +kernel
theorem dX10_goesAll_46 : decode cX10_goesAll 46 = .ok (.aload_n 0, 1) := by decide +kernel
theorem dX10_goesAll_47 : decode cX10_goesAll 47 = .ok (.getfield 153, 3) := by decide +kernel
theorem dX10_goesAll_50 : decode cX10_goesAll 50 = .ok (.iload_n 3, 1) := by decide +kernel
theorem dX10_goesAll_51 : decode cX10_goesAll 51 = .ok (.aload_n 0, 1) := by decide +kernel
theorem dX10_goesAll_52 : decode cX10_goesAll 52 = .ok (.iload_n 3, 1) := by decide +kernel
theorem dX10_goesAll_53 : decode cX10_goesAll 53 = .ok (.iload_n 3, 1) := by decide +kernel
theorem dX10_goesAll_54 : decode cX10_goesAll 54 = .ok (.i2l, 1) := by decide +kernel
theorem dX10_goesAll_55 : decode cX10_goesAll 55 = .ok (.aload_n 0, 1) := by decide +kernel
theorem dX10_goesAll_56 : decode cX10_goesAll 56 = .ok (.getfield 16, 3) := by decide +kernel
theorem dX10_goesAll_59 : decode cX10_goesAll 59 = .ok (.i2l, 1) := by decide +kernel
theorem dX10_goesAll_60 : decode cX10_goesAll 60 = .ok (.lmul, 1) := by decide +kernel
theorem dX10_goesAll_61 : decode cX10_goesAll 61 = .ok (.iload_n 3, 1) := by decide +kernel
theorem dX10_goesAll_62 : decode cX10_goesAll 62 = .ok (.ifCond .ne 7, 3) := by decide +kernel
theorem dX10_goesAll_65 : decode cX10_goesAll 65 = .ok (.iload_n 2, 1) := by decide +kernel
theorem dX10_goesAll_66 : decode cX10_goesAll 66 = .ok (.goto 4, 3) := by decide +kernel
theorem dX10_goesAll_69 : decode cX10_goesAll 69 = .ok (.iconst 0, 1) := by decide +kernel
theorem dX10_goesAll_70 : decode cX10_goesAll 70 = .ok (.i2l, 1) := by decide +kernel
theorem dX10_goesAll_71 : decode cX10_goesAll 71 = .ok (.ladd, 1) := by decide +kernel
theorem dX10_goesAll_72 : decode cX10_goesAll 72 = .ok (.invokevirtual 379, 3) := by decide +kernel
theorem dX10_goesAll_75 : decode cX10_goesAll 75 = .ok (.lastore, 1) := by decide +kernel
theorem dX10_goesAll_76 : decode cX10_goesAll 76 = .ok (.iinc 3 1, 3) := by decide +kernel
theorem dX10_goesAll_79 : decode cX10_goesAll 79 = .ok (.goto (-38), 3) := by decide +kernel
theorem dX10_goesAll_82 : decode cX10_goesAll 82 = .ok (.return_, 1) := by decide +kernel
theorem dX10_bunch_0 : decode cX10_bunch 0 = .ok (.iload_n 1, 1) := by decide +kernel
theorem dX10_bunch_1 : decode cX10_bunch 1 = .ok (.iconst 0, 1) := by decide +kernel
theorem dX10_bunch_2 : decode cX10_bunch 2 = .ok (.bipush 11, 2) := by decide +kernel
theorem dX10_bunch_4 : decode cX10_bunch 4 = .ok (.invokestatic 162, 3) := by decide +kernel
theorem dX10_bunch_7 : decode cX10_bunch 7 = .ok (.ifCond .eq 14, 3) := by decide +kernel
theorem dX10_bunch_10 : decode cX10_bunch 10 = .ok (.iload_n 2, 1) := by decide +kernel
theorem dX10_bunch_11 : decode cX10_bunch 11 = .ok (.iconst 0, 1) := by decide +kernel
theorem dX10_bunch_12 : decode cX10_bunch 12 = .ok (.sipush 3600, 3) := by decide +kernel
theorem dX10_bunch_15 : decode cX10_bunch 15 = .ok (.invokestatic 162, 3) := by decide +kernel
theorem dX10_bunch_18 : decode cX10_bunch 18 = .ok (.ifCond .ne 6, 3) := by decide +kernel
theorem dX10_bunch_21 : decode cX10_bunch 21 = .ok (.bipush (-2), 2) := by decide +kernel
theorem dX10_bunch_23 : decode cX10_bunch 23 = .ok (.ireturn, 1) := by decide +kernel
theorem dX10_bunch_24 : decode cX10_bunch 24 = .ok (.aload_n 0, 1) := by decide +kernel
theorem dX10_bunch_25 : decode cX10_bunch 25 = .ok (.iload_n 1, 1) := by decide +kernel
theorem dX10_bunch_26 : decode cX10_bunch 26 = .ok (.iconst 1, 1) := by decide +kernel
theorem dX10_bunch_27 : decode cX10_bunch 27 = .ok (.iadd, 1) := by decide +kernel
theorem dX10_bunch_28 : decode cX10_bunch 28 = .ok (.iload_n 2, 1) := by decide +kernel
theorem dX10_bunch_29 : decode cX10_bunch 29 = .ok (.invokevirtual 383, 3) := by decide +kernel
theorem dX10_bunch_32 : decode cX10_bunch 32 = .ok (.aload_n 0, 1) := by decide +kernel
theorem dX10_bunch_33 : decode cX10_bunch 33 = .ok (.getfield 153, 3) := by decide +kernel
theorem dX10_bunch_36 : decode cX10_bunch 36 = .ok (.iload_n 1, 1) := by decide +kernel
theorem dX10_bunch_37 : decode cX10_bunch 37 = .ok (.laload, 1) := by decide +kernel
theorem dX10_bunch_38 : decode cX10_bunch 38 = .ok (.l2i, 1) := by decide +kernel
theorem dX10_bunch_39 : decode cX10_bunch 39 = .ok (.ireturn, 1) := by decide +kernel
theorem dX10_crowd_0 : decode cX10_crowd 0 = .ok (.iload_n 1, 1) := by decide +kernel
theorem dX10_crowd_1 : decode cX10_crowd 1 = .ok (.iconst 2, 1) := by decide +kernel
theorem dX10_crowd_2 : decode cX10_crowd 2 = .ok (.bipush 12, 2) := by decide +kernel
theorem dX10_crowd_4 : decode cX10_crowd 4 = .ok (.invokestatic 162, 3) := by decide +kernel
theorem dX10_crowd_7 : decode cX10_crowd 7 = .ok (.ifCond .eq 14, 3) := by decide +kernel
theorem dX10_crowd_10 : decode cX10_crowd 10 = .ok (.iload_n 2, 1) := by decide +kernel
theorem dX10_crowd_11 : decode cX10_crowd 11 = .ok (.iconst 0, 1) := by decide +kernel
theorem dX10_crowd_12 : decode cX10_crowd 12 = .ok (.sipush 3600, 3) := by decide +kernel
theorem dX10_crowd_15 : decode cX10_crowd 15 = .ok (.invokestatic 162, 3) := by decide +kernel
theorem dX10_crowd_18 : decode cX10_crowd 18 = .ok (.ifCond .ne 6, 3) := by decide +kernel
theorem dX10_crowd_21 : decode cX10_crowd 21 = .ok (.bipush (-2), 2) := by decide +kernel
theorem dX10_crowd_23 : decode cX10_crowd 23 = .ok (.ireturn, 1) := by decide +kernel
theorem dX10_crowd_24 : decode cX10_crowd 24 = .ok (.aload_n 0, 1) := by decide +kernel
theorem dX10_crowd_25 : decode cX10_crowd 25 = .ok (.iload_n 1, 1) := by decide +kernel
theorem dX10_crowd_26 : decode cX10_crowd 26 = .ok (.iload_n 2, 1) := by decide +kernel
theorem dX10_crowd_27 : decode cX10_crowd 27 = .ok (.invokevirtual 383, 3) := by decide +kernel
theorem dX10_crowd_30 : decode cX10_crowd 30 = .ok (.aload_n 0, 1) := by decide +kernel
theorem dX10_crowd_31 : decode cX10_crowd 31 = .ok (.getfield 153, 3) := by decide +kernel
theorem dX10_crowd_34 : decode cX10_crowd 34 = .ok (.iconst 1, 1) := by decide +kernel
theorem dX10_crowd_35 : decode cX10_crowd 35 = .ok (.laload, 1) := by decide +kernel
theorem dX10_crowd_36 : decode cX10_crowd 36 = .ok (.aload_n 0, 1) := by decide +kernel
theorem dX10_crowd_37 : decode cX10_crowd 37 = .ok (.getfield 153, 3) := by decide +kernel
theorem dX10_crowd_40 : decode cX10_crowd 40 = .ok (.iconst 0, 1) := by decide +kernel
theorem dX10_crowd_41 : decode cX10_crowd 41 = .ok (.laload, 1) := by decide +kernel
theorem dX10_crowd_42 : decode cX10_crowd 42 = .ok (.lsub, 1) := by decide +kernel
theorem dX10_crowd_43 : decode cX10_crowd 43 = .ok (.lstore_n 3, 1) := by decide +kernel
theorem dX10_crowd_44 : decode cX10_crowd 44 = .ok (.iconst 2, 1) := by decide +kernel
theorem dX10_crowd_45 : decode cX10_crowd 45 = .ok (.istore 5, 2) := by decide +kernel
theorem dX10_crowd_47 : decode cX10_crowd 47 = .ok (.iload 5, 2) := by decide +kernel
theorem dX10_crowd_49 : decode cX10_crowd 49 = .ok (.iload_n 1, 1) := by decide +kernel
theorem dX10_crowd_50 : decode cX10_crowd 50 = .ok (.if_icmp .ge 53, 3) := by decide +kernel
theorem dX10_crowd_53 : decode cX10_crowd 53 = .ok (.aload_n 0, 1) := by decide +kernel
theorem dX10_crowd_54 : decode cX10_crowd 54 = .ok (.getfield 153, 3) := by decide +kernel
theorem dX10_crowd_57 : decode cX10_crowd 57 = .ok (.iload 5, 2) := by decide +kernel
theorem dX10_crowd_59 : decode cX10_crowd 59 = .ok (.laload, 1) := by decide +kernel
theorem dX10_crowd_60 : decode cX10_crowd 60 = .ok (.aload_n 0, 1) := by decide +kernel
theorem dX10_crowd_61 : decode cX10_crowd 61 = .ok (.getfield 153, 3) := by decide +kernel
theorem dX10_crowd_64 : decode cX10_crowd 64 = .ok (.iload 5, 2) := by decide +kernel
theorem dX10_crowd_66 : decode cX10_crowd 66 = .ok (.iconst 1, 1) := by decide +kernel
theorem dX10_crowd_67 : decode cX10_crowd 67 = .ok (.isub, 1) := by decide +kernel
theorem dX10_crowd_68 : decode cX10_crowd 68 = .ok (.laload, 1) := by decide +kernel
theorem dX10_crowd_69 : decode cX10_crowd 69 = .ok (.lsub, 1) := by decide +kernel
theorem dX10_crowd_70 : decode cX10_crowd 70 = .ok (.lload_n 3, 1) := by decide +kernel
theorem dX10_crowd_71 : decode cX10_crowd 71 = .ok (.lcmp, 1) := by decide +kernel
theorem dX10_crowd_72 : decode cX10_crowd 72 = .ok (.ifCond .ge 23, 3) := by decide +kernel
theorem dX10_crowd_75 : decode cX10_crowd 75 = .ok (.aload_n 0, 1) := by decide +kernel
theorem dX10_crowd_76 : decode cX10_crowd 76 = .ok (.getfield 153, 3) := by decide +kernel
theorem dX10_crowd_79 : decode cX10_crowd 79 = .ok (.iload 5, 2) := by decide +kernel
theorem dX10_crowd_81 : decode cX10_crowd 81 = .ok (.laload, 1) := by decide +kernel
theorem dX10_crowd_82 : decode cX10_crowd 82 = .ok (.aload_n 0, 1) := by decide +kernel
theorem dX10_crowd_83 : decode cX10_crowd 83 = .ok (.getfield 153, 3) := by decide +kernel
theorem dX10_crowd_86 : decode cX10_crowd 86 = .ok (.iload 5, 2) := by decide +kernel
theorem dX10_crowd_88 : decode cX10_crowd 88 = .ok (.iconst 1, 1) := by decide +kernel
theorem dX10_crowd_89 : decode cX10_crowd 89 = .ok (.isub, 1) := by decide +kernel
theorem dX10_crowd_90 : decode cX10_crowd 90 = .ok (.laload, 1) := by decide +kernel
theorem dX10_crowd_91 : decode cX10_crowd 91 = .ok (.lsub, 1) := by decide +kernel
theorem dX10_crowd_92 : decode cX10_crowd 92 = .ok (.goto 4, 3) := by decide +kernel
theorem dX10_crowd_95 : decode cX10_crowd 95 = .ok (.lload_n 3, 1) := by decide +kernel
theorem dX10_crowd_96 : decode cX10_crowd 96 = .ok (.lstore_n 3, 1) := by decide +kernel
theorem dX10_crowd_97 : decode cX10_crowd 97 = .ok (.iinc 5 1, 3) := by decide +kernel
theorem dX10_crowd_100 : decode cX10_crowd 100 = .ok (.goto (-53), 3) := by decide +kernel
theorem dX10_crowd_103 : decode cX10_crowd 103 = .ok (.lload_n 3, 1) := by decide +kernel
theorem dX10_crowd_104 : decode cX10_crowd 104 = .ok (.l2i, 1) := by decide +kernel
theorem dX10_crowd_105 : decode cX10_crowd 105 = .ok (.ireturn, 1) := by decide +kernel
theorem dX10_drawn_0 : decode cX10_drawn 0 = .ok (.aload_n 0, 1) := by decide +kernel
theorem dX10_drawn_1 : decode cX10_drawn 1 = .ok (.iload_n 1, 1) := by decide +kernel
theorem dX10_drawn_2 : decode cX10_drawn 2 = .ok (.invokevirtual 239, 3) := by decide +kernel
theorem dX10_drawn_5 : decode cX10_drawn 5 = .ok (.ifCond .ne 6, 3) := by decide +kernel
theorem dX10_drawn_8 : decode cX10_drawn 8 = .ok (.bipush (-5), 2) := by decide +kernel
theorem dX10_drawn_10 : decode cX10_drawn 10 = .ok (.ireturn, 1) := by decide +kernel
theorem dX10_drawn_11 : decode cX10_drawn 11 = .ok (.iload_n 2, 1) := by decide +kernel
theorem dX10_drawn_12 : decode cX10_drawn 12 = .ok (.iconst 0, 1) := by decide +kernel
theorem dX10_drawn_13 : decode cX10_drawn 13 = .ok (.ldc_w 345, 3) := by decide +kernel
theorem dX10_drawn_16 : decode cX10_drawn 16 = .ok (.invokestatic 162, 3) := by decide +kernel
theorem dX10_drawn_19 : decode cX10_drawn 19 = .ok (.ifCond .ne 6, 3) := by decide +kernel
theorem dX10_drawn_22 : decode cX10_drawn 22 = .ok (.bipush (-7), 2) := by decide +kernel
theorem dX10_drawn_24 : decode cX10_drawn 24 = .ok (.ireturn, 1) := by decide +kernel
theorem dX10_drawn_25 : decode cX10_drawn 25 = .ok (.aload_n 0, 1) := by decide +kernel
theorem dX10_drawn_26 : decode cX10_drawn 26 = .ok (.iload_n 1, 1) := by decide +kernel
theorem dX10_drawn_27 : decode cX10_drawn 27 = .ok (.invokevirtual 242, 3) := by decide +kernel
theorem dX10_drawn_30 : decode cX10_drawn 30 = .ok (.aload_n 0, 1) := by decide +kernel
theorem dX10_drawn_31 : decode cX10_drawn 31 = .ok (.getfield 220, 3) := by decide +kernel
theorem dX10_drawn_34 : decode cX10_drawn 34 = .ok (.iconst (-1), 1) := by decide +kernel
theorem dX10_drawn_35 : decode cX10_drawn 35 = .ok (.if_icmp .ne 6, 3) := by decide +kernel
theorem dX10_drawn_38 : decode cX10_drawn 38 = .ok (.bipush (-3), 2) := by decide +kernel
theorem dX10_drawn_40 : decode cX10_drawn 40 = .ok (.ireturn, 1) := by decide +kernel
theorem dX10_drawn_41 : decode cX10_drawn 41 = .ok (.aload_n 0, 1) := by decide +kernel
theorem dX10_drawn_42 : decode cX10_drawn 42 = .ok (.aload_n 0, 1) := by decide +kernel
theorem dX10_drawn_43 : decode cX10_drawn 43 = .ok (.getfield 220, 3) := by decide +kernel
theorem dX10_drawn_46 : decode cX10_drawn 46 = .ok (.iconst 0, 1) := by decide +kernel
theorem dX10_drawn_47 : decode cX10_drawn 47 = .ok (.invokevirtual 211, 3) := by decide +kernel
theorem dX10_drawn_50 : decode cX10_drawn 50 = .ok (.ifCond .eq 19, 3) := by decide +kernel
theorem dX10_drawn_53 : decode cX10_drawn 53 = .ok (.aload_n 0, 1) := by decide +kernel
theorem dX10_drawn_54 : decode cX10_drawn 54 = .ok (.aload_n 0, 1) := by decide +kernel
theorem dX10_drawn_55 : decode cX10_drawn 55 = .ok (.getfield 223, 3) := by decide +kernel
theorem dX10_drawn_58 : decode cX10_drawn 58 = .ok (.iconst 0, 1) := by decide +kernel
theorem dX10_drawn_59 : decode cX10_drawn 59 = .ok (.invokevirtual 211, 3) := by decide +kernel
theorem dX10_drawn_62 : decode cX10_drawn 62 = .ok (.ifCond .eq 7, 3) := by decide +kernel
theorem dX10_drawn_65 : decode cX10_drawn 65 = .ok (.iconst 1, 1) := by decide +kernel
theorem dX10_drawn_66 : decode cX10_drawn 66 = .ok (.goto 4, 3) := by decide +kernel
theorem dX10_drawn_69 : decode cX10_drawn 69 = .ok (.iconst 0, 1) := by decide +kernel
theorem dX10_drawn_70 : decode cX10_drawn 70 = .ok (.istore_n 3, 1) := by decide +kernel
theorem dX10_drawn_71 : decode cX10_drawn 71 = .ok (.aload_n 0, 1) := by decide +kernel
theorem dX10_drawn_72 : decode cX10_drawn 72 = .ok (.aload_n 0, 1) := by decide +kernel
theorem dX10_drawn_73 : decode cX10_drawn 73 = .ok (.getfield 220, 3) := by decide +kernel
theorem dX10_drawn_76 : decode cX10_drawn 76 = .ok (.iconst 1, 1) := by decide +kernel
theorem dX10_drawn_77 : decode cX10_drawn 77 = .ok (.invokevirtual 211, 3) := by decide +kernel
theorem dX10_drawn_80 : decode cX10_drawn 80 = .ok (.ifCond .eq 19, 3) := by decide +kernel
theorem dX10_drawn_83 : decode cX10_drawn 83 = .ok (.aload_n 0, 1) := by decide +kernel
theorem dX10_drawn_84 : decode cX10_drawn 84 = .ok (.aload_n 0, 1) := by decide +kernel
theorem dX10_drawn_85 : decode cX10_drawn 85 = .ok (.getfield 223, 3) := by decide +kernel
theorem dX10_drawn_88 : decode cX10_drawn 88 = .ok (.iconst 1, 1) := by decide +kernel
theorem dX10_drawn_89 : decode cX10_drawn 89 = .ok (.invokevirtual 211, 3) := by decide +kernel
theorem dX10_drawn_92 : decode cX10_drawn 92 = .ok (.ifCond .eq 7, 3) := by decide +kernel
theorem dX10_drawn_95 : decode cX10_drawn 95 = .ok (.iconst 1, 1) := by decide +kernel
theorem dX10_drawn_96 : decode cX10_drawn 96 = .ok (.goto 4, 3) := by decide +kernel
theorem dX10_drawn_99 : decode cX10_drawn 99 = .ok (.iconst 0, 1) := by decide +kernel
theorem dX10_drawn_100 : decode cX10_drawn 100 = .ok (.istore 4, 2) := by decide +kernel
theorem dX10_drawn_102 : decode cX10_drawn 102 = .ok (.iload_n 2, 1) := by decide +kernel
theorem dX10_drawn_103 : decode cX10_drawn 103 = .ok (.i2l, 1) := by decide +kernel
theorem dX10_drawn_104 : decode cX10_drawn 104 = .ok (.lconst 1, 1) := by decide +kernel
theorem dX10_drawn_105 : decode cX10_drawn 105 = .ok (.ladd, 1) := by decide +kernel
theorem dX10_drawn_106 : decode cX10_drawn 106 = .ok (.ldc2_w 387, 3) := by decide +kernel
theorem dX10_drawn_109 : decode cX10_drawn 109 = .ok (.lmul, 1) := by decide +kernel
theorem dX10_drawn_110 : decode cX10_drawn 110 = .ok (.ldc2_w 389, 3) := by decide +kernel
theorem dX10_drawn_113 : decode cX10_drawn 113 = .ok (.lrem, 1) := by decide +kernel
theorem dX10_drawn_114 : decode cX10_drawn 114 = .ok (.lstore 5, 2) := by decide +kernel
theorem dX10_drawn_116 : decode cX10_drawn 116 = .ok (.iload_n 3, 1) := by decide +kernel
theorem dX10_drawn_117 : decode cX10_drawn 117 = .ok (.ifCond .eq 18, 3) := by decide +kernel
theorem dX10_drawn_120 : decode cX10_drawn 120 = .ok (.iload 4, 2) := by decide +kernel
theorem dX10_drawn_122 : decode cX10_drawn 122 = .ok (.ifCond .eq 13, 3) := by decide +kernel
theorem dX10_drawn_125 : decode cX10_drawn 125 = .ok (.lload 5, 2) := by decide +kernel
theorem dX10_drawn_127 : decode cX10_drawn 127 = .ok (.ldc2_w 391, 3) := by decide +kernel
theorem dX10_drawn_130 : decode cX10_drawn 130 = .ok (.lrem, 1) := by decide +kernel
theorem dX10_drawn_131 : decode cX10_drawn 131 = .ok (.l2i, 1) := by decide +kernel
theorem dX10_drawn_132 : decode cX10_drawn 132 = .ok (.goto 12, 3) := by decide +kernel
theorem dX10_drawn_135 : decode cX10_drawn 135 = .ok (.iload_n 3, 1) := by decide +kernel
theorem dX10_drawn_136 : decode cX10_drawn 136 = .ok (.ifCond .eq 7, 3) := by decide +kernel
theorem dX10_drawn_139 : decode cX10_drawn 139 = .ok (.iconst 0, 1) := by decide +kernel
theorem dX10_drawn_140 : decode cX10_drawn 140 = .ok (.goto 4, 3) := by decide +kernel
theorem dX10_drawn_143 : decode cX10_drawn 143 = .ok (.iconst 1, 1) := by decide +kernel
theorem dX10_drawn_144 : decode cX10_drawn 144 = .ok (.istore 7, 2) := by decide +kernel
theorem dX10_drawn_146 : decode cX10_drawn 146 = .ok (.aload_n 0, 1) := by decide +kernel
theorem dX10_drawn_147 : decode cX10_drawn 147 = .ok (.getfield 20, 3) := by decide +kernel
theorem dX10_drawn_150 : decode cX10_drawn 150 = .ok (.aload_n 0, 1) := by decide +kernel
theorem dX10_drawn_151 : decode cX10_drawn 151 = .ok (.getfield 26, 3) := by decide +kernel
theorem dX10_drawn_154 : decode cX10_drawn 154 = .ok (.aload_n 0, 1) := by decide +kernel
theorem dX10_drawn_155 : decode cX10_drawn 155 = .ok (.getfield 220, 3) := by decide +kernel
theorem dX10_drawn_158 : decode cX10_drawn 158 = .ok (.iaload, 1) := by decide +kernel
theorem dX10_drawn_159 : decode cX10_drawn 159 = .ok (.aload_n 0, 1) := by decide +kernel
theorem dX10_drawn_160 : decode cX10_drawn 160 = .ok (.getfield 26, 3) := by decide +kernel
theorem dX10_drawn_163 : decode cX10_drawn 163 = .ok (.aload_n 0, 1) := by decide +kernel
theorem dX10_drawn_164 : decode cX10_drawn 164 = .ok (.getfield 223, 3) := by decide +kernel
theorem dX10_drawn_167 : decode cX10_drawn 167 = .ok (.iaload, 1) := by decide +kernel
theorem dX10_drawn_168 : decode cX10_drawn 168 = .ok (.if_icmp .ge 25, 3) := by decide +kernel
theorem dX10_drawn_171 : decode cX10_drawn 171 = .ok (.aload_n 0, 1) := by decide +kernel
theorem dX10_drawn_172 : decode cX10_drawn 172 = .ok (.getfield 26, 3) := by decide +kernel
theorem dX10_drawn_175 : decode cX10_drawn 175 = .ok (.aload_n 0, 1) := by decide +kernel
theorem dX10_drawn_176 : decode cX10_drawn 176 = .ok (.getfield 223, 3) := by decide +kernel
theorem dX10_drawn_179 : decode cX10_drawn 179 = .ok (.iaload, 1) := by decide +kernel
theorem dX10_drawn_180 : decode cX10_drawn 180 = .ok (.aload_n 0, 1) := by decide +kernel
theorem dX10_drawn_181 : decode cX10_drawn 181 = .ok (.getfield 26, 3) := by decide +kernel
theorem dX10_drawn_184 : decode cX10_drawn 184 = .ok (.aload_n 0, 1) := by decide +kernel
theorem dX10_drawn_185 : decode cX10_drawn 185 = .ok (.getfield 220, 3) := by decide +kernel
theorem dX10_drawn_188 : decode cX10_drawn 188 = .ok (.iaload, 1) := by decide +kernel
theorem dX10_drawn_189 : decode cX10_drawn 189 = .ok (.isub, 1) := by decide +kernel
theorem dX10_drawn_190 : decode cX10_drawn 190 = .ok (.goto 22, 3) := by decide +kernel
theorem dX10_drawn_193 : decode cX10_drawn 193 = .ok (.aload_n 0, 1) := by decide +kernel
theorem dX10_drawn_194 : decode cX10_drawn 194 = .ok (.getfield 26, 3) := by decide +kernel
theorem dX10_drawn_197 : decode cX10_drawn 197 = .ok (.aload_n 0, 1) := by decide +kernel
theorem dX10_drawn_198 : decode cX10_drawn 198 = .ok (.getfield 220, 3) := by decide +kernel
theorem dX10_drawn_201 : decode cX10_drawn 201 = .ok (.iaload, 1) := by decide +kernel
theorem dX10_drawn_202 : decode cX10_drawn 202 = .ok (.aload_n 0, 1) := by decide +kernel
theorem dX10_drawn_203 : decode cX10_drawn 203 = .ok (.getfield 26, 3) := by decide +kernel
theorem dX10_drawn_206 : decode cX10_drawn 206 = .ok (.aload_n 0, 1) := by decide +kernel
theorem dX10_drawn_207 : decode cX10_drawn 207 = .ok (.getfield 223, 3) := by decide +kernel
theorem dX10_drawn_210 : decode cX10_drawn 210 = .ok (.iaload, 1) := by decide +kernel
theorem dX10_drawn_211 : decode cX10_drawn 211 = .ok (.isub, 1) := by decide +kernel
theorem dX10_drawn_212 : decode cX10_drawn 212 = .ok (.imul, 1) := by decide +kernel
theorem dX10_drawn_213 : decode cX10_drawn 213 = .ok (.istore 8, 2) := by decide +kernel
theorem dX10_drawn_215 : decode cX10_drawn 215 = .ok (.iconst 0, 1) := by decide +kernel
theorem dX10_drawn_216 : decode cX10_drawn 216 = .ok (.istore 9, 2) := by decide +kernel
theorem dX10_drawn_218 : decode cX10_drawn 218 = .ok (.iload 9, 2) := by decide +kernel
theorem dX10_drawn_220 : decode cX10_drawn 220 = .ok (.aload_n 0, 1) := by decide +kernel
theorem dX10_drawn_221 : decode cX10_drawn 221 = .ok (.getfield 166, 3) := by decide +kernel
theorem dX10_drawn_224 : decode cX10_drawn 224 = .ok (.if_icmp .ge 107, 3) := by decide +kernel
theorem dX10_drawn_227 : decode cX10_drawn 227 = .ok (.lload 5, 2) := by decide +kernel
theorem dX10_drawn_229 : decode cX10_drawn 229 = .ok (.ldc2_w 387, 3) := by decide +kernel
theorem dX10_drawn_232 : decode cX10_drawn 232 = .ok (.lmul, 1) := by decide +kernel
theorem dX10_drawn_233 : decode cX10_drawn 233 = .ok (.ldc2_w 389, 3) := by decide +kernel
theorem dX10_drawn_236 : decode cX10_drawn 236 = .ok (.lrem, 1) := by decide +kernel
theorem dX10_drawn_237 : decode cX10_drawn 237 = .ok (.lstore 5, 2) := by decide +kernel
theorem dX10_drawn_239 : decode cX10_drawn 239 = .ok (.aload_n 0, 1) := by decide +kernel
theorem dX10_drawn_240 : decode cX10_drawn 240 = .ok (.aload_n 0, 1) := by decide +kernel
theorem dX10_drawn_241 : decode cX10_drawn 241 = .ok (.getfield 26, 3) := by decide +kernel
theorem dX10_drawn_244 : decode cX10_drawn 244 = .ok (.iload 9, 2) := by decide +kernel
theorem dX10_drawn_246 : decode cX10_drawn 246 = .ok (.iaload, 1) := by decide +kernel
theorem dX10_drawn_247 : decode cX10_drawn 247 = .ok (.aload_n 0, 1) := by decide +kernel
theorem dX10_drawn_248 : decode cX10_drawn 248 = .ok (.getfield 220, 3) := by decide +kernel
theorem dX10_drawn_251 : decode cX10_drawn 251 = .ok (.aload_n 0, 1) := by decide +kernel
theorem dX10_drawn_252 : decode cX10_drawn 252 = .ok (.getfield 223, 3) := by decide +kernel
theorem dX10_drawn_255 : decode cX10_drawn 255 = .ok (.invokevirtual 208, 3) := by decide +kernel
theorem dX10_drawn_258 : decode cX10_drawn 258 = .ok (.ifCond .eq 67, 3) := by decide +kernel
theorem dX10_drawn_261 : decode cX10_drawn 261 = .ok (.aload_n 0, 1) := by decide +kernel
theorem dX10_drawn_262 : decode cX10_drawn 262 = .ok (.iload 9, 2) := by decide +kernel
theorem dX10_drawn_264 : decode cX10_drawn 264 = .ok (.iload 7, 2) := by decide +kernel
theorem dX10_drawn_266 : decode cX10_drawn 266 = .ok (.invokevirtual 211, 3) := by decide +kernel
theorem dX10_drawn_269 : decode cX10_drawn 269 = .ok (.ifCond .eq 56, 3) := by decide +kernel
theorem dX10_drawn_272 : decode cX10_drawn 272 = .ok (.iload 8, 2) := by decide +kernel
theorem dX10_drawn_274 : decode cX10_drawn 274 = .ok (.aload_n 0, 1) := by decide +kernel
theorem dX10_drawn_275 : decode cX10_drawn 275 = .ok (.iload 9, 2) := by decide +kernel
theorem dX10_drawn_277 : decode cX10_drawn 277 = .ok (.invokevirtual 195, 3) := by decide +kernel
theorem dX10_drawn_280 : decode cX10_drawn 280 = .ok (.ifCond .ne 12, 3) := by decide +kernel
theorem dX10_drawn_283 : decode cX10_drawn 283 = .ok (.aload_n 0, 1) := by decide +kernel
theorem dX10_drawn_284 : decode cX10_drawn 284 = .ok (.iload 9, 2) := by decide +kernel
theorem dX10_drawn_286 : decode cX10_drawn 286 = .ok (.invokevirtual 191, 3) := by decide +kernel
theorem dX10_drawn_289 : decode cX10_drawn 289 = .ok (.goto 33, 3) := by decide +kernel
theorem dX10_drawn_292 : decode cX10_drawn 292 = .ok (.lload 5, 2) := by decide +kernel
theorem dX10_drawn_294 : decode cX10_drawn 294 = .ok (.ldc2_w 350, 3) := by decide +kernel
theorem dX10_drawn_297 : decode cX10_drawn 297 = .ok (.lrem, 1) := by decide +kernel
theorem dX10_drawn_298 : decode cX10_drawn 298 = .ok (.aload_n 0, 1) := by decide +kernel
theorem dX10_drawn_299 : decode cX10_drawn 299 = .ok (.getfield 38, 3) := by decide +kernel
theorem dX10_drawn_302 : decode cX10_drawn 302 = .ok (.iload 9, 2) := by decide +kernel
theorem dX10_drawn_304 : decode cX10_drawn 304 = .ok (.iaload, 1) := by decide +kernel
theorem dX10_drawn_305 : decode cX10_drawn 305 = .ok (.i2l, 1) := by decide +kernel
theorem dX10_drawn_306 : decode cX10_drawn 306 = .ok (.lcmp, 1) := by decide +kernel
theorem dX10_drawn_307 : decode cX10_drawn 307 = .ok (.ifCond .ge 14, 3) := by decide +kernel
theorem dX10_drawn_310 : decode cX10_drawn 310 = .ok (.aload_n 0, 1) := by decide +kernel
theorem dX10_drawn_311 : decode cX10_drawn 311 = .ok (.iload 9, 2) := by decide +kernel
theorem dX10_drawn_313 : decode cX10_drawn 313 = .ok (.bipush 10, 2) := by decide +kernel
theorem dX10_drawn_315 : decode cX10_drawn 315 = .ok (.invokevirtual 183, 3) := by decide +kernel
theorem dX10_drawn_318 : decode cX10_drawn 318 = .ok (.goto 4, 3) := by decide +kernel
theorem dX10_drawn_321 : decode cX10_drawn 321 = .ok (.iconst 0, 1) := by decide +kernel
theorem dX10_drawn_322 : decode cX10_drawn 322 = .ok (.iadd, 1) := by decide +kernel
theorem dX10_drawn_323 : decode cX10_drawn 323 = .ok (.istore 8, 2) := by decide +kernel
theorem dX10_drawn_325 : decode cX10_drawn 325 = .ok (.iinc 9 1, 3) := by decide +kernel
theorem dX10_drawn_328 : decode cX10_drawn 328 = .ok (.goto (-110), 3) := by decide +kernel
theorem dX10_drawn_331 : decode cX10_drawn 331 = .ok (.iload 8, 2) := by decide +kernel
theorem dX10_drawn_333 : decode cX10_drawn 333 = .ok (.ireturn, 1) := by decide +kernel
theorem dX10_image_0 : decode cX10_image 0 = .ok (.aload_n 0, 1) := by decide +kernel
theorem dX10_image_1 : decode cX10_image 1 = .ok (.iconst 1, 1) := by decide +kernel
theorem dX10_image_2 : decode cX10_image 2 = .ok (.putfield 393, 3) := by decide +kernel
theorem dX10_image_5 : decode cX10_image 5 = .ok (.aload_n 0, 1) := by decide +kernel
theorem dX10_image_6 : decode cX10_image 6 = .ok (.aload_n 0, 1) := by decide +kernel
theorem dX10_image_7 : decode cX10_image 7 = .ok (.getfield 166, 3) := by decide +kernel
theorem dX10_image_10 : decode cX10_image 10 = .ok (.putfield 397, 3) := by decide +kernel
theorem dX10_image_13 : decode cX10_image 13 = .ok (.aload_n 0, 1) := by decide +kernel
theorem dX10_image_14 : decode cX10_image 14 = .ok (.aload_n 0, 1) := by decide +kernel
theorem dX10_image_15 : decode cX10_image 15 = .ok (.getfield 169, 3) := by decide +kernel
theorem dX10_image_18 : decode cX10_image 18 = .ok (.putfield 400, 3) := by decide +kernel
theorem dX10_image_21 : decode cX10_image 21 = .ok (.aload_n 0, 1) := by decide +kernel
theorem dX10_image_22 : decode cX10_image 22 = .ok (.aload_n 0, 1) := by decide +kernel
theorem dX10_image_23 : decode cX10_image 23 = .ok (.getfield 16, 3) := by decide +kernel
theorem dX10_image_26 : decode cX10_image 26 = .ok (.putfield 403, 3) := by decide +kernel
theorem dX10_image_29 : decode cX10_image 29 = .ok (.aload_n 0, 1) := by decide +kernel
theorem dX10_image_30 : decode cX10_image 30 = .ok (.aload_n 0, 1) := by decide +kernel
theorem dX10_image_31 : decode cX10_image 31 = .ok (.getfield 20, 3) := by decide +kernel
theorem dX10_image_34 : decode cX10_image 34 = .ok (.putfield 406, 3) := by decide +kernel
theorem dX10_image_37 : decode cX10_image 37 = .ok (.aload_n 0, 1) := by decide +kernel
theorem dX10_image_38 : decode cX10_image 38 = .ok (.aload_n 0, 1) := by decide +kernel
theorem dX10_image_39 : decode cX10_image 39 = .ok (.getfield 202, 3) := by decide +kernel
theorem dX10_image_42 : decode cX10_image 42 = .ok (.putfield 409, 3) := by decide +kernel
theorem dX10_image_45 : decode cX10_image 45 = .ok (.iconst 0, 1) := by decide +kernel
theorem dX10_image_46 : decode cX10_image 46 = .ok (.istore_n 1, 1) := by decide +kernel
theorem dX10_image_47 : decode cX10_image 47 = .ok (.iload_n 1, 1) := by decide +kernel
theorem dX10_image_48 : decode cX10_image 48 = .ok (.bipush 40, 2) := by decide +kernel
theorem dX10_image_50 : decode cX10_image 50 = .ok (.if_icmp .gt 21, 3) := by decide +kernel
theorem dX10_image_53 : decode cX10_image 53 = .ok (.aload_n 0, 1) := by decide +kernel
theorem dX10_image_54 : decode cX10_image 54 = .ok (.getfield 68, 3) := by decide +kernel
theorem dX10_image_57 : decode cX10_image 57 = .ok (.iload_n 1, 1) := by decide +kernel
theorem dX10_image_58 : decode cX10_image 58 = .ok (.aload_n 0, 1) := by decide +kernel
theorem dX10_image_59 : decode cX10_image 59 = .ok (.getfield 7, 3) := by decide +kernel
theorem dX10_image_62 : decode cX10_image 62 = .ok (.iload_n 1, 1) := by decide +kernel
theorem dX10_image_63 : decode cX10_image 63 = .ok (.iaload, 1) := by decide +kernel
theorem dX10_image_64 : decode cX10_image 64 = .ok (.iastore, 1) := by decide +kernel
theorem dX10_image_65 : decode cX10_image 65 = .ok (.iinc 1 1, 3) := by decide +kernel
theorem dX10_image_68 : decode cX10_image 68 = .ok (.goto (-21), 3) := by decide +kernel
theorem dX10_image_71 : decode cX10_image 71 = .ok (.iconst 0, 1) := by decide +kernel
theorem dX10_image_72 : decode cX10_image 72 = .ok (.istore_n 1, 1) := by decide +kernel
theorem dX10_image_73 : decode cX10_image 73 = .ok (.iload_n 1, 1) := by decide +kernel
theorem dX10_image_74 : decode cX10_image 74 = .ok (.bipush 18, 2) := by decide +kernel
theorem dX10_image_76 : decode cX10_image 76 = .ok (.if_icmp .ge 21, 3) := by decide +kernel
theorem dX10_image_79 : decode cX10_image 79 = .ok (.aload_n 0, 1) := by decide +kernel
theorem dX10_image_80 : decode cX10_image 80 = .ok (.getfield 71, 3) := by decide +kernel
theorem dX10_image_83 : decode cX10_image 83 = .ok (.iload_n 1, 1) := by decide +kernel
theorem dX10_image_84 : decode cX10_image 84 = .ok (.aload_n 0, 1) := by decide +kernel
theorem dX10_image_85 : decode cX10_image 85 = .ok (.getfield 13, 3) := by decide +kernel
theorem dX10_image_88 : decode cX10_image 88 = .ok (.iload_n 1, 1) := by decide +kernel
theorem dX10_image_89 : decode cX10_image 89 = .ok (.iaload, 1) := by decide +kernel
theorem dX10_image_90 : decode cX10_image 90 = .ok (.iastore, 1) := by decide +kernel
theorem dX10_image_91 : decode cX10_image 91 = .ok (.iinc 1 1, 3) := by decide +kernel
theorem dX10_image_94 : decode cX10_image 94 = .ok (.goto (-21), 3) := by decide +kernel
theorem dX10_image_97 : decode cX10_image 97 = .ok (.iconst 0, 1) := by decide +kernel
theorem dX10_image_98 : decode cX10_image 98 = .ok (.istore_n 1, 1) := by decide +kernel
theorem dX10_image_99 : decode cX10_image 99 = .ok (.iload_n 1, 1) := by decide +kernel
theorem dX10_image_100 : decode cX10_image 100 = .ok (.bipush 8, 2) := by decide +kernel
theorem dX10_image_102 : decode cX10_image 102 = .ok (.if_icmp .ge 45, 3) := by decide +kernel
theorem dX10_image_105 : decode cX10_image 105 = .ok (.aload_n 0, 1) := by decide +kernel
theorem dX10_image_106 : decode cX10_image 106 = .ok (.getfield 74, 3) := by decide +kernel
theorem dX10_image_109 : decode cX10_image 109 = .ok (.iload_n 1, 1) := by decide +kernel
theorem dX10_image_110 : decode cX10_image 110 = .ok (.aload_n 0, 1) := by decide +kernel
theorem dX10_image_111 : decode cX10_image 111 = .ok (.getfield 35, 3) := by decide +kernel
theorem dX10_image_114 : decode cX10_image 114 = .ok (.iload_n 1, 1) := by decide +kernel
theorem dX10_image_115 : decode cX10_image 115 = .ok (.iaload, 1) := by decide +kernel
theorem dX10_image_116 : decode cX10_image 116 = .ok (.iastore, 1) := by decide +kernel
theorem dX10_image_117 : decode cX10_image 117 = .ok (.aload_n 0, 1) := by decide +kernel
theorem dX10_image_118 : decode cX10_image 118 = .ok (.getfield 77, 3) := by decide +kernel
theorem dX10_image_121 : decode cX10_image 121 = .ok (.iload_n 1, 1) := by decide +kernel
theorem dX10_image_122 : decode cX10_image 122 = .ok (.aload_n 0, 1) := by decide +kernel
theorem dX10_image_123 : decode cX10_image 123 = .ok (.getfield 38, 3) := by decide +kernel
theorem dX10_image_126 : decode cX10_image 126 = .ok (.iload_n 1, 1) := by decide +kernel
theorem dX10_image_127 : decode cX10_image 127 = .ok (.iaload, 1) := by decide +kernel
theorem dX10_image_128 : decode cX10_image 128 = .ok (.iastore, 1) := by decide +kernel
theorem dX10_image_129 : decode cX10_image 129 = .ok (.aload_n 0, 1) := by decide +kernel
theorem dX10_image_130 : decode cX10_image 130 = .ok (.getfield 80, 3) := by decide +kernel
theorem dX10_image_133 : decode cX10_image 133 = .ok (.iload_n 1, 1) := by decide +kernel
theorem dX10_image_134 : decode cX10_image 134 = .ok (.aload_n 0, 1) := by decide +kernel
theorem dX10_image_135 : decode cX10_image 135 = .ok (.getfield 41, 3) := by decide +kernel
theorem dX10_image_138 : decode cX10_image 138 = .ok (.iload_n 1, 1) := by decide +kernel
theorem dX10_image_139 : decode cX10_image 139 = .ok (.iaload, 1) := by decide +kernel
theorem dX10_image_140 : decode cX10_image 140 = .ok (.iastore, 1) := by decide +kernel
theorem dX10_image_141 : decode cX10_image 141 = .ok (.iinc 1 1, 3) := by decide +kernel
theorem dX10_image_144 : decode cX10_image 144 = .ok (.goto (-45), 3) := by decide +kernel
theorem dX10_image_147 : decode cX10_image 147 = .ok (.aload_n 0, 1) := by decide +kernel
theorem dX10_image_148 : decode cX10_image 148 = .ok (.getfield 166, 3) := by decide +kernel
theorem dX10_image_151 : decode cX10_image 151 = .ok (.ireturn, 1) := by decide +kernel
theorem dX10_back_0 : decode cX10_back 0 = .ok (.aload_n 0, 1) := by decide +kernel
theorem dX10_back_1 : decode cX10_back 1 = .ok (.getfield 393, 3) := by decide +kernel
theorem dX10_back_4 : decode cX10_back 4 = .ok (.ifCond .ne 6, 3) := by decide +kernel
theorem dX10_back_7 : decode cX10_back 7 = .ok (.bipush (-3), 2) := by decide +kernel
theorem dX10_back_9 : decode cX10_back 9 = .ok (.ireturn, 1) := by decide +kernel
theorem dX10_back_10 : decode cX10_back 10 = .ok (.aload_n 0, 1) := by decide +kernel
theorem dX10_back_11 : decode cX10_back 11 = .ok (.aload_n 0, 1) := by decide +kernel
theorem dX10_back_12 : decode cX10_back 12 = .ok (.getfield 400, 3) := by decide +kernel
theorem dX10_back_15 : decode cX10_back 15 = .ok (.putfield 169, 3) := by decide +kernel
theorem dX10_back_18 : decode cX10_back 18 = .ok (.aload_n 0, 1) := by decide +kernel
theorem dX10_back_19 : decode cX10_back 19 = .ok (.aload_n 0, 1) := by decide +kernel
theorem dX10_back_20 : decode cX10_back 20 = .ok (.getfield 403, 3) := by decide +kernel
theorem dX10_back_23 : decode cX10_back 23 = .ok (.putfield 16, 3) := by decide +kernel
theorem dX10_back_26 : decode cX10_back 26 = .ok (.aload_n 0, 1) := by decide +kernel
theorem dX10_back_27 : decode cX10_back 27 = .ok (.aload_n 0, 1) := by decide +kernel
theorem dX10_back_28 : decode cX10_back 28 = .ok (.getfield 406, 3) := by decide +kernel
theorem dX10_back_31 : decode cX10_back 31 = .ok (.putfield 20, 3) := by decide +kernel
theorem dX10_back_34 : decode cX10_back 34 = .ok (.aload_n 0, 1) := by decide +kernel
theorem dX10_back_35 : decode cX10_back 35 = .ok (.aload_n 0, 1) := by decide +kernel
theorem dX10_back_36 : decode cX10_back 36 = .ok (.getfield 409, 3) := by decide +kernel
theorem dX10_back_39 : decode cX10_back 39 = .ok (.putfield 202, 3) := by decide +kernel
theorem dX10_back_42 : decode cX10_back 42 = .ok (.iconst 0, 1) := by decide +kernel
theorem dX10_back_43 : decode cX10_back 43 = .ok (.istore_n 1, 1) := by decide +kernel
theorem dX10_back_44 : decode cX10_back 44 = .ok (.iload_n 1, 1) := by decide +kernel
theorem dX10_back_45 : decode cX10_back 45 = .ok (.bipush 40, 2) := by decide +kernel
theorem dX10_back_47 : decode cX10_back 47 = .ok (.if_icmp .gt 21, 3) := by decide +kernel
theorem dX10_back_50 : decode cX10_back 50 = .ok (.aload_n 0, 1) := by decide +kernel
theorem dX10_back_51 : decode cX10_back 51 = .ok (.getfield 7, 3) := by decide +kernel
theorem dX10_back_54 : decode cX10_back 54 = .ok (.iload_n 1, 1) := by decide +kernel
theorem dX10_back_55 : decode cX10_back 55 = .ok (.aload_n 0, 1) := by decide +kernel
theorem dX10_back_56 : decode cX10_back 56 = .ok (.getfield 68, 3) := by decide +kernel
theorem dX10_back_59 : decode cX10_back 59 = .ok (.iload_n 1, 1) := by decide +kernel
theorem dX10_back_60 : decode cX10_back 60 = .ok (.iaload, 1) := by decide +kernel
theorem dX10_back_61 : decode cX10_back 61 = .ok (.iastore, 1) := by decide +kernel
theorem dX10_back_62 : decode cX10_back 62 = .ok (.iinc 1 1, 3) := by decide +kernel
theorem dX10_back_65 : decode cX10_back 65 = .ok (.goto (-21), 3) := by decide +kernel
theorem dX10_back_68 : decode cX10_back 68 = .ok (.iconst 0, 1) := by decide +kernel
theorem dX10_back_69 : decode cX10_back 69 = .ok (.istore_n 1, 1) := by decide +kernel
theorem dX10_back_70 : decode cX10_back 70 = .ok (.iload_n 1, 1) := by decide +kernel
theorem dX10_back_71 : decode cX10_back 71 = .ok (.bipush 18, 2) := by decide +kernel
theorem dX10_back_73 : decode cX10_back 73 = .ok (.if_icmp .ge 21, 3) := by decide +kernel
theorem dX10_back_76 : decode cX10_back 76 = .ok (.aload_n 0, 1) := by decide +kernel
theorem dX10_back_77 : decode cX10_back 77 = .ok (.getfield 13, 3) := by decide +kernel
theorem dX10_back_80 : decode cX10_back 80 = .ok (.iload_n 1, 1) := by decide +kernel
theorem dX10_back_81 : decode cX10_back 81 = .ok (.aload_n 0, 1) := by decide +kernel
theorem dX10_back_82 : decode cX10_back 82 = .ok (.getfield 71, 3) := by decide +kernel
theorem dX10_back_85 : decode cX10_back 85 = .ok (.iload_n 1, 1) := by decide +kernel
theorem dX10_back_86 : decode cX10_back 86 = .ok (.iaload, 1) := by decide +kernel
theorem dX10_back_87 : decode cX10_back 87 = .ok (.iastore, 1) := by decide +kernel
theorem dX10_back_88 : decode cX10_back 88 = .ok (.iinc 1 1, 3) := by decide +kernel
theorem dX10_back_91 : decode cX10_back 91 = .ok (.goto (-21), 3) := by decide +kernel
theorem dX10_back_94 : decode cX10_back 94 = .ok (.iconst 0, 1) := by decide +kernel
theorem dX10_back_95 : decode cX10_back 95 = .ok (.istore_n 1, 1) := by decide +kernel
theorem dX10_back_96 : decode cX10_back 96 = .ok (.iload_n 1, 1) := by decide +kernel
theorem dX10_back_97 : decode cX10_back 97 = .ok (.aload_n 0, 1) := by decide +kernel
theorem dX10_back_98 : decode cX10_back 98 = .ok (.getfield 397, 3) := by decide +kernel
theorem dX10_back_101 : decode cX10_back 101 = .ok (.if_icmp .ge 45, 3) := by decide +kernel
theorem dX10_back_104 : decode cX10_back 104 = .ok (.aload_n 0, 1) := by decide +kernel
theorem dX10_back_105 : decode cX10_back 105 = .ok (.getfield 35, 3) := by decide +kernel
theorem dX10_back_108 : decode cX10_back 108 = .ok (.iload_n 1, 1) := by decide +kernel
theorem dX10_back_109 : decode cX10_back 109 = .ok (.aload_n 0, 1) := by decide +kernel
theorem dX10_back_110 : decode cX10_back 110 = .ok (.getfield 74, 3) := by decide +kernel
theorem dX10_back_113 : decode cX10_back 113 = .ok (.iload_n 1, 1) := by decide +kernel
theorem dX10_back_114 : decode cX10_back 114 = .ok (.iaload, 1) := by decide +kernel
theorem dX10_back_115 : decode cX10_back 115 = .ok (.iastore, 1) := by decide +kernel
theorem dX10_back_116 : decode cX10_back 116 = .ok (.aload_n 0, 1) := by decide +kernel
theorem dX10_back_117 : decode cX10_back 117 = .ok (.getfield 38, 3) := by decide +kernel
theorem dX10_back_120 : decode cX10_back 120 = .ok (.iload_n 1, 1) := by decide +kernel
theorem dX10_back_121 : decode cX10_back 121 = .ok (.aload_n 0, 1) := by decide +kernel
theorem dX10_back_122 : decode cX10_back 122 = .ok (.getfield 77, 3) := by decide +kernel
theorem dX10_back_125 : decode cX10_back 125 = .ok (.iload_n 1, 1) := by decide +kernel
theorem dX10_back_126 : decode cX10_back 126 = .ok (.iaload, 1) := by decide +kernel
theorem dX10_back_127 : decode cX10_back 127 = .ok (.iastore, 1) := by decide +kernel
theorem dX10_back_128 : decode cX10_back 128 = .ok (.aload_n 0, 1) := by decide +kernel
theorem dX10_back_129 : decode cX10_back 129 = .ok (.getfield 41, 3) := by decide +kernel
theorem dX10_back_132 : decode cX10_back 132 = .ok (.iload_n 1, 1) := by decide +kernel
theorem dX10_back_133 : decode cX10_back 133 = .ok (.aload_n 0, 1) := by decide +kernel
theorem dX10_back_134 : decode cX10_back 134 = .ok (.getfield 80, 3) := by decide +kernel
theorem dX10_back_137 : decode cX10_back 137 = .ok (.iload_n 1, 1) := by decide +kernel
theorem dX10_back_138 : decode cX10_back 138 = .ok (.iaload, 1) := by decide +kernel
theorem dX10_back_139 : decode cX10_back 139 = .ok (.iastore, 1) := by decide +kernel
theorem dX10_back_140 : decode cX10_back 140 = .ok (.iinc 1 1, 3) := by decide +kernel
theorem dX10_back_143 : decode cX10_back 143 = .ok (.goto (-47), 3) := by decide +kernel
theorem dX10_back_146 : decode cX10_back 146 = .ok (.aload_n 0, 1) := by decide +kernel
theorem dX10_back_147 : decode cX10_back 147 = .ok (.getfield 166, 3) := by decide +kernel
theorem dX10_back_150 : decode cX10_back 150 = .ok (.ireturn, 1) := by decide +kernel
theorem dX10_sheet_0 : decode cX10_sheet 0 = .ok (.iload_n 1, 1) := by decide +kernel
theorem dX10_sheet_1 : decode cX10_sheet 1 = .ok (.iconst 0, 1) := by decide +kernel
theorem dX10_sheet_2 : decode cX10_sheet 2 = .ok (.iconst 3, 1) := by decide +kernel
theorem dX10_sheet_3 : decode cX10_sheet 3 = .ok (.invokestatic 162, 3) := by decide +kernel
theorem dX10_sheet_6 : decode cX10_sheet 6 = .ok (.ifCond .eq 23, 3) := by decide +kernel
theorem dX10_sheet_9 : decode cX10_sheet 9 = .ok (.iload_n 2, 1) := by decide +kernel
theorem dX10_sheet_10 : decode cX10_sheet 10 = .ok (.iconst (-1), 1) := by decide +kernel
theorem dX10_sheet_11 : decode cX10_sheet 11 = .ok (.iconst 2, 1) := by decide +kernel
theorem dX10_sheet_12 : decode cX10_sheet 12 = .ok (.invokestatic 162, 3) := by decide +kernel
theorem dX10_sheet_15 : decode cX10_sheet 15 = .ok (.ifCond .eq 14, 3) := by decide +kernel
theorem dX10_sheet_18 : decode cX10_sheet 18 = .ok (.iload_n 2, 1) := by decide +kernel
theorem dX10_sheet_19 : decode cX10_sheet 19 = .ok (.iconst (-1), 1) := by decide +kernel
theorem dX10_sheet_20 : decode cX10_sheet 20 = .ok (.if_icmp .eq 12, 3) := by decide +kernel
theorem dX10_sheet_23 : decode cX10_sheet 23 = .ok (.iload_n 3, 1) := by decide +kernel
theorem dX10_sheet_24 : decode cX10_sheet 24 = .ok (.bipush 41, 2) := by decide +kernel
theorem dX10_sheet_26 : decode cX10_sheet 26 = .ok (.if_icmp .le 6, 3) := by decide +kernel
theorem dX10_sheet_29 : decode cX10_sheet 29 = .ok (.bipush (-2), 2) := by decide +kernel
theorem dX10_sheet_31 : decode cX10_sheet 31 = .ok (.ireturn, 1) := by decide +kernel
theorem dX10_sheet_32 : decode cX10_sheet 32 = .ok (.iload_n 2, 1) := by decide +kernel
theorem dX10_sheet_33 : decode cX10_sheet 33 = .ok (.iconst (-1), 1) := by decide +kernel
theorem dX10_sheet_34 : decode cX10_sheet 34 = .ok (.if_icmp .eq 10, 3) := by decide +kernel
theorem dX10_sheet_37 : decode cX10_sheet 37 = .ok (.iload_n 3, 1) := by decide +kernel
theorem dX10_sheet_38 : decode cX10_sheet 38 = .ok (.ifCond .ge 6, 3) := by decide +kernel
theorem dX10_sheet_41 : decode cX10_sheet 41 = .ok (.bipush (-14), 2) := by decide +kernel
theorem dX10_sheet_43 : decode cX10_sheet 43 = .ok (.ireturn, 1) := by decide +kernel
theorem dX10_sheet_44 : decode cX10_sheet 44 = .ok (.aload_n 0, 1) := by decide +kernel
theorem dX10_sheet_45 : decode cX10_sheet 45 = .ok (.getfield 83, 3) := by decide +kernel
theorem dX10_sheet_48 : decode cX10_sheet 48 = .ok (.iload_n 1, 1) := by decide +kernel
theorem dX10_sheet_49 : decode cX10_sheet 49 = .ok (.iload_n 2, 1) := by decide +kernel
theorem dX10_sheet_50 : decode cX10_sheet 50 = .ok (.iastore, 1) := by decide +kernel
theorem dX10_sheet_51 : decode cX10_sheet 51 = .ok (.aload_n 0, 1) := by decide +kernel
theorem dX10_sheet_52 : decode cX10_sheet 52 = .ok (.getfield 86, 3) := by decide +kernel
theorem dX10_sheet_55 : decode cX10_sheet 55 = .ok (.iload_n 1, 1) := by decide +kernel
theorem dX10_sheet_56 : decode cX10_sheet 56 = .ok (.iload_n 2, 1) := by decide +kernel
theorem dX10_sheet_57 : decode cX10_sheet 57 = .ok (.iconst (-1), 1) := by decide +kernel
theorem dX10_sheet_58 : decode cX10_sheet 58 = .ok (.if_icmp .ne 7, 3) := by decide +kernel
theorem dX10_sheet_61 : decode cX10_sheet 61 = .ok (.iconst 0, 1) := by decide +kernel
theorem dX10_sheet_62 : decode cX10_sheet 62 = .ok (.goto 4, 3) := by decide +kernel
theorem dX10_sheet_65 : decode cX10_sheet 65 = .ok (.iload_n 3, 1) := by decide +kernel
theorem dX10_sheet_66 : decode cX10_sheet 66 = .ok (.iastore, 1) := by decide +kernel
theorem dX10_sheet_67 : decode cX10_sheet 67 = .ok (.iconst 0, 1) := by decide +kernel
theorem dX10_sheet_68 : decode cX10_sheet 68 = .ok (.istore 4, 2) := by decide +kernel
theorem dX10_sheet_70 : decode cX10_sheet 70 = .ok (.iload 4, 2) := by decide +kernel
theorem dX10_sheet_72 : decode cX10_sheet 72 = .ok (.bipush 41, 2) := by decide +kernel
theorem dX10_sheet_74 : decode cX10_sheet 74 = .ok (.if_icmp .ge 22, 3) := by decide +kernel
theorem dX10_sheet_77 : decode cX10_sheet 77 = .ok (.aload_n 0, 1) := by decide +kernel
theorem dX10_sheet_78 : decode cX10_sheet 78 = .ok (.getfield 89, 3) := by decide +kernel
theorem dX10_sheet_81 : decode cX10_sheet 81 = .ok (.bipush 41, 2) := by decide +kernel
theorem dX10_sheet_83 : decode cX10_sheet 83 = .ok (.iload_n 1, 1) := by decide +kernel
theorem dX10_sheet_84 : decode cX10_sheet 84 = .ok (.imul, 1) := by decide +kernel
theorem dX10_sheet_85 : decode cX10_sheet 85 = .ok (.iload 4, 2) := by decide +kernel
theorem dX10_sheet_87 : decode cX10_sheet 87 = .ok (.iadd, 1) := by decide +kernel
theorem dX10_sheet_88 : decode cX10_sheet 88 = .ok (.iconst 0, 1) := by decide +kernel
theorem dX10_sheet_89 : decode cX10_sheet 89 = .ok (.iastore, 1) := by decide +kernel
theorem dX10_sheet_90 : decode cX10_sheet 90 = .ok (.iinc 4 1, 3) := by decide +kernel
theorem dX10_sheet_93 : decode cX10_sheet 93 = .ok (.goto (-23), 3) := by decide +kernel
theorem dX10_sheet_96 : decode cX10_sheet 96 = .ok (.iconst 1, 1) := by decide +kernel
theorem dX10_sheet_97 : decode cX10_sheet 97 = .ok (.ireturn, 1) := by decide +kernel
theorem dX10_cell_0 : decode cX10_cell 0 = .ok (.iload_n 1, 1) := by decide +kernel
theorem dX10_cell_1 : decode cX10_cell 1 = .ok (.iconst 0, 1) := by decide +kernel
theorem dX10_cell_2 : decode cX10_cell 2 = .ok (.iconst 3, 1) := by decide +kernel
theorem dX10_cell_3 : decode cX10_cell 3 = .ok (.invokestatic 162, 3) := by decide +kernel
theorem dX10_cell_6 : decode cX10_cell 6 = .ok (.ifCond .ne 6, 3) := by decide +kernel
theorem dX10_cell_9 : decode cX10_cell 9 = .ok (.bipush (-2), 2) := by decide +kernel
theorem dX10_cell_11 : decode cX10_cell 11 = .ok (.ireturn, 1) := by decide +kernel
theorem dX10_cell_12 : decode cX10_cell 12 = .ok (.aload_n 0, 1) := by decide +kernel
theorem dX10_cell_13 : decode cX10_cell 13 = .ok (.getfield 83, 3) := by decide +kernel
theorem dX10_cell_16 : decode cX10_cell 16 = .ok (.iload_n 1, 1) := by decide +kernel
theorem dX10_cell_17 : decode cX10_cell 17 = .ok (.iaload, 1) := by decide +kernel
theorem dX10_cell_18 : decode cX10_cell 18 = .ok (.iconst (-1), 1) := by decide +kernel
theorem dX10_cell_19 : decode cX10_cell 19 = .ok (.if_icmp .ne 6, 3) := by decide +kernel
theorem dX10_cell_22 : decode cX10_cell 22 = .ok (.bipush (-11), 2) := by decide +kernel
theorem dX10_cell_24 : decode cX10_cell 24 = .ok (.ireturn, 1) := by decide +kernel
theorem dX10_cell_25 : decode cX10_cell 25 = .ok (.iload_n 2, 1) := by decide +kernel
theorem dX10_cell_26 : decode cX10_cell 26 = .ok (.iconst 0, 1) := by decide +kernel
theorem dX10_cell_27 : decode cX10_cell 27 = .ok (.aload_n 0, 1) := by decide +kernel
theorem dX10_cell_28 : decode cX10_cell 28 = .ok (.getfield 86, 3) := by decide +kernel
theorem dX10_cell_31 : decode cX10_cell 31 = .ok (.iload_n 1, 1) := by decide +kernel
theorem dX10_cell_32 : decode cX10_cell 32 = .ok (.iaload, 1) := by decide +kernel
theorem dX10_cell_33 : decode cX10_cell 33 = .ok (.iconst 1, 1) := by decide +kernel
theorem dX10_cell_34 : decode cX10_cell 34 = .ok (.isub, 1) := by decide +kernel
theorem dX10_cell_35 : decode cX10_cell 35 = .ok (.invokestatic 162, 3) := by decide +kernel
theorem dX10_cell_38 : decode cX10_cell 38 = .ok (.ifCond .ne 6, 3) := by decide +kernel
theorem dX10_cell_41 : decode cX10_cell 41 = .ok (.bipush (-12), 2) := by decide +kernel
theorem dX10_cell_43 : decode cX10_cell 43 = .ok (.ireturn, 1) := by decide +kernel
theorem dX10_cell_44 : decode cX10_cell 44 = .ok (.aload_n 0, 1) := by decide +kernel
theorem dX10_cell_45 : decode cX10_cell 45 = .ok (.getfield 89, 3) := by decide +kernel
theorem dX10_cell_48 : decode cX10_cell 48 = .ok (.bipush 41, 2) := by decide +kernel
theorem dX10_cell_50 : decode cX10_cell 50 = .ok (.iload_n 1, 1) := by decide +kernel
theorem dX10_cell_51 : decode cX10_cell 51 = .ok (.imul, 1) := by decide +kernel
theorem dX10_cell_52 : decode cX10_cell 52 = .ok (.iload_n 2, 1) := by decide +kernel
theorem dX10_cell_53 : decode cX10_cell 53 = .ok (.iadd, 1) := by decide +kernel
theorem dX10_cell_54 : decode cX10_cell 54 = .ok (.aload_n 0, 1) := by decide +kernel
theorem dX10_cell_55 : decode cX10_cell 55 = .ok (.getfield 83, 3) := by decide +kernel
theorem dX10_cell_58 : decode cX10_cell 58 = .ok (.iload_n 1, 1) := by decide +kernel
theorem dX10_cell_59 : decode cX10_cell 59 = .ok (.iaload, 1) := by decide +kernel
theorem dX10_cell_60 : decode cX10_cell 60 = .ok (.ifCond .ne 8, 3) := by decide +kernel
theorem dX10_cell_63 : decode cX10_cell 63 = .ok (.iload_n 3, 1) := by decide +kernel
theorem dX10_cell_64 : decode cX10_cell 64 = .ok (.i2b, 1) := by decide +kernel
theorem dX10_cell_65 : decode cX10_cell 65 = .ok (.goto 19, 3) := by decide +kernel
theorem dX10_cell_68 : decode cX10_cell 68 = .ok (.aload_n 0, 1) := by decide +kernel
theorem dX10_cell_69 : decode cX10_cell 69 = .ok (.getfield 83, 3) := by decide +kernel
theorem dX10_cell_72 : decode cX10_cell 72 = .ok (.iload_n 1, 1) := by decide +kernel
theorem dX10_cell_73 : decode cX10_cell 73 = .ok (.iaload, 1) := by decide +kernel
theorem dX10_cell_74 : decode cX10_cell 74 = .ok (.iconst 1, 1) := by decide +kernel
theorem dX10_cell_75 : decode cX10_cell 75 = .ok (.if_icmp .ne 8, 3) := by decide +kernel
theorem dX10_cell_78 : decode cX10_cell 78 = .ok (.iload_n 3, 1) := by decide +kernel
theorem dX10_cell_79 : decode cX10_cell 79 = .ok (.i2s, 1) := by decide +kernel
theorem dX10_cell_80 : decode cX10_cell 80 = .ok (.goto 4, 3) := by decide +kernel
theorem dX10_cell_83 : decode cX10_cell 83 = .ok (.iload_n 3, 1) := by decide +kernel
theorem dX10_cell_84 : decode cX10_cell 84 = .ok (.iastore, 1) := by decide +kernel
theorem dX10_cell_85 : decode cX10_cell 85 = .ok (.iconst 1, 1) := by decide +kernel
theorem dX10_cell_86 : decode cX10_cell 86 = .ok (.ireturn, 1) := by decide +kernel
theorem dX10_copy_0 : decode cX10_copy 0 = .ok (.iload_n 1, 1) := by decide +kernel
theorem dX10_copy_1 : decode cX10_copy 1 = .ok (.iconst 0, 1) := by decide +kernel
theorem dX10_copy_2 : decode cX10_copy 2 = .ok (.iconst 3, 1) := by decide +kernel
theorem dX10_copy_3 : decode cX10_copy 3 = .ok (.invokestatic 162, 3) := by decide +kernel
theorem dX10_copy_6 : decode cX10_copy 6 = .ok (.ifCond .eq 12, 3) := by decide +kernel
theorem dX10_copy_9 : decode cX10_copy 9 = .ok (.iload_n 3, 1) := by decide +kernel
theorem dX10_copy_10 : decode cX10_copy 10 = .ok (.iconst 0, 1) := by decide +kernel
theorem dX10_copy_11 : decode cX10_copy 11 = .ok (.iconst 3, 1) := by decide +kernel
theorem dX10_copy_12 : decode cX10_copy 12 = .ok (.invokestatic 162, 3) := by decide +kernel
theorem dX10_copy_15 : decode cX10_copy 15 = .ok (.ifCond .ne 6, 3) := by decide +kernel
theorem dX10_copy_18 : decode cX10_copy 18 = .ok (.bipush (-2), 2) := by decide +kernel
theorem dX10_copy_20 : decode cX10_copy 20 = .ok (.ireturn, 1) := by decide +kernel
theorem dX10_copy_21 : decode cX10_copy 21 = .ok (.aload_n 0, 1) := by decide +kernel
theorem dX10_copy_22 : decode cX10_copy 22 = .ok (.getfield 83, 3) := by decide +kernel
theorem dX10_copy_25 : decode cX10_copy 25 = .ok (.iload_n 1, 1) := by decide +kernel
theorem dX10_copy_26 : decode cX10_copy 26 = .ok (.iaload, 1) := by decide +kernel
theorem dX10_copy_27 : decode cX10_copy 27 = .ok (.iconst (-1), 1) := by decide +kernel
theorem dX10_copy_28 : decode cX10_copy 28 = .ok (.if_icmp .eq 13, 3) := by decide +kernel
theorem dX10_copy_31 : decode cX10_copy 31 = .ok (.aload_n 0, 1) := by decide +kernel
theorem dX10_copy_32 : decode cX10_copy 32 = .ok (.getfield 83, 3) := by decide +kernel
theorem dX10_copy_35 : decode cX10_copy 35 = .ok (.iload_n 3, 1) := by decide +kernel
theorem dX10_copy_36 : decode cX10_copy 36 = .ok (.iaload, 1) := by decide +kernel
theorem dX10_copy_37 : decode cX10_copy 37 = .ok (.iconst (-1), 1) := by decide +kernel
theorem dX10_copy_38 : decode cX10_copy 38 = .ok (.if_icmp .ne 6, 3) := by decide +kernel
theorem dX10_copy_41 : decode cX10_copy 41 = .ok (.bipush (-11), 2) := by decide +kernel
theorem dX10_copy_43 : decode cX10_copy 43 = .ok (.ireturn, 1) := by decide +kernel
theorem dX10_copy_44 : decode cX10_copy 44 = .ok (.aload_n 0, 1) := by decide +kernel
theorem dX10_copy_45 : decode cX10_copy 45 = .ok (.getfield 83, 3) := by decide +kernel
theorem dX10_copy_48 : decode cX10_copy 48 = .ok (.iload_n 1, 1) := by decide +kernel
theorem dX10_copy_49 : decode cX10_copy 49 = .ok (.iaload, 1) := by decide +kernel
theorem dX10_copy_50 : decode cX10_copy 50 = .ok (.aload_n 0, 1) := by decide +kernel
theorem dX10_copy_51 : decode cX10_copy 51 = .ok (.getfield 83, 3) := by decide +kernel
theorem dX10_copy_54 : decode cX10_copy 54 = .ok (.iload_n 3, 1) := by decide +kernel
theorem dX10_copy_55 : decode cX10_copy 55 = .ok (.iaload, 1) := by decide +kernel
theorem dX10_copy_56 : decode cX10_copy 56 = .ok (.if_icmp .eq 6, 3) := by decide +kernel
theorem dX10_copy_59 : decode cX10_copy 59 = .ok (.bipush (-13), 2) := by decide +kernel
theorem dX10_copy_61 : decode cX10_copy 61 = .ok (.ireturn, 1) := by decide +kernel
theorem dX10_copy_62 : decode cX10_copy 62 = .ok (.iload 5, 2) := by decide +kernel
theorem dX10_copy_64 : decode cX10_copy 64 = .ok (.ifCond .lt 60, 3) := by decide +kernel
theorem dX10_copy_67 : decode cX10_copy 67 = .ok (.iload_n 2, 1) := by decide +kernel
theorem dX10_copy_68 : decode cX10_copy 68 = .ok (.ifCond .lt 56, 3) := by decide +kernel
theorem dX10_copy_71 : decode cX10_copy 71 = .ok (.iload 4, 2) := by decide +kernel
theorem dX10_copy_73 : decode cX10_copy 73 = .ok (.ifCond .lt 51, 3) := by decide +kernel
theorem dX10_copy_76 : decode cX10_copy 76 = .ok (.iload_n 2, 1) := by decide +kernel
theorem dX10_copy_77 : decode cX10_copy 77 = .ok (.aload_n 0, 1) := by decide +kernel
theorem dX10_copy_78 : decode cX10_copy 78 = .ok (.getfield 86, 3) := by decide +kernel
theorem dX10_copy_81 : decode cX10_copy 81 = .ok (.iload_n 1, 1) := by decide +kernel
theorem dX10_copy_82 : decode cX10_copy 82 = .ok (.iaload, 1) := by decide +kernel
theorem dX10_copy_83 : decode cX10_copy 83 = .ok (.if_icmp .gt 41, 3) := by decide +kernel
theorem dX10_copy_86 : decode cX10_copy 86 = .ok (.iload 4, 2) := by decide +kernel
theorem dX10_copy_88 : decode cX10_copy 88 = .ok (.aload_n 0, 1) := by decide +kernel
theorem dX10_copy_89 : decode cX10_copy 89 = .ok (.getfield 86, 3) := by decide +kernel
theorem dX10_copy_92 : decode cX10_copy 92 = .ok (.iload_n 3, 1) := by decide +kernel
theorem dX10_copy_93 : decode cX10_copy 93 = .ok (.iaload, 1) := by decide +kernel
theorem dX10_copy_94 : decode cX10_copy 94 = .ok (.if_icmp .gt 30, 3) := by decide +kernel
theorem dX10_copy_97 : decode cX10_copy 97 = .ok (.iload 5, 2) := by decide +kernel
theorem dX10_copy_99 : decode cX10_copy 99 = .ok (.aload_n 0, 1) := by decide +kernel
theorem dX10_copy_100 : decode cX10_copy 100 = .ok (.getfield 86, 3) := by decide +kernel
theorem dX10_copy_103 : decode cX10_copy 103 = .ok (.iload_n 1, 1) := by decide +kernel
theorem dX10_copy_104 : decode cX10_copy 104 = .ok (.iaload, 1) := by decide +kernel
theorem dX10_copy_105 : decode cX10_copy 105 = .ok (.iload_n 2, 1) := by decide +kernel
theorem dX10_copy_106 : decode cX10_copy 106 = .ok (.isub, 1) := by decide +kernel
theorem dX10_copy_107 : decode cX10_copy 107 = .ok (.if_icmp .gt 17, 3) := by decide +kernel
theorem dX10_copy_110 : decode cX10_copy 110 = .ok (.iload 5, 2) := by decide +kernel
theorem dX10_copy_112 : decode cX10_copy 112 = .ok (.aload_n 0, 1) := by decide +kernel
theorem dX10_copy_113 : decode cX10_copy 113 = .ok (.getfield 86, 3) := by decide +kernel
theorem dX10_copy_116 : decode cX10_copy 116 = .ok (.iload_n 3, 1) := by decide +kernel
theorem dX10_copy_117 : decode cX10_copy 117 = .ok (.iaload, 1) := by decide +kernel
theorem dX10_copy_118 : decode cX10_copy 118 = .ok (.iload 4, 2) := by decide +kernel
theorem dX10_copy_120 : decode cX10_copy 120 = .ok (.isub, 1) := by decide +kernel
theorem dX10_copy_121 : decode cX10_copy 121 = .ok (.if_icmp .le 6, 3) := by decide +kernel
theorem dX10_copy_124 : decode cX10_copy 124 = .ok (.bipush (-12), 2) := by decide +kernel
theorem dX10_copy_126 : decode cX10_copy 126 = .ok (.ireturn, 1) := by decide +kernel
theorem dX10_copy_127 : decode cX10_copy 127 = .ok (.bipush 41, 2) := by decide +kernel
theorem dX10_copy_129 : decode cX10_copy 129 = .ok (.iload_n 1, 1) := by decide +kernel
theorem dX10_copy_130 : decode cX10_copy 130 = .ok (.imul, 1) := by decide +kernel
theorem dX10_copy_131 : decode cX10_copy 131 = .ok (.iload_n 2, 1) := by decide +kernel
theorem dX10_copy_132 : decode cX10_copy 132 = .ok (.iadd, 1) := by decide +kernel
theorem dX10_copy_133 : decode cX10_copy 133 = .ok (.istore 6, 2) := by decide +kernel
theorem dX10_copy_135 : decode cX10_copy 135 = .ok (.bipush 41, 2) := by decide +kernel
theorem dX10_copy_137 : decode cX10_copy 137 = .ok (.iload_n 3, 1) := by decide +kernel
theorem dX10_copy_138 : decode cX10_copy 138 = .ok (.imul, 1) := by decide +kernel
theorem dX10_copy_139 : decode cX10_copy 139 = .ok (.iload 4, 2) := by decide +kernel
theorem dX10_copy_141 : decode cX10_copy 141 = .ok (.iadd, 1) := by decide +kernel
theorem dX10_copy_142 : decode cX10_copy 142 = .ok (.istore 7, 2) := by decide +kernel
theorem dX10_copy_144 : decode cX10_copy 144 = .ok (.iconst 0, 1) := by decide +kernel
theorem dX10_copy_145 : decode cX10_copy 145 = .ok (.istore 8, 2) := by decide +kernel
theorem dX10_copy_147 : decode cX10_copy 147 = .ok (.iload 8, 2) := by decide +kernel
theorem dX10_copy_149 : decode cX10_copy 149 = .ok (.iload 5, 2) := by decide +kernel
theorem dX10_copy_151 : decode cX10_copy 151 = .ok (.if_icmp .ge 50, 3) := by decide +kernel
theorem dX10_copy_154 : decode cX10_copy 154 = .ok (.iload 6, 2) := by decide +kernel
theorem dX10_copy_156 : decode cX10_copy 156 = .ok (.iload 7, 2) := by decide +kernel
theorem dX10_copy_158 : decode cX10_copy 158 = .ok (.if_icmp .ge 13, 3) := by decide +kernel
theorem dX10_copy_161 : decode cX10_copy 161 = .ok (.iload 5, 2) := by decide +kernel
theorem dX10_copy_163 : decode cX10_copy 163 = .ok (.iconst 1, 1) := by decide +kernel
theorem dX10_copy_164 : decode cX10_copy 164 = .ok (.isub, 1) := by decide +kernel
theorem dX10_copy_165 : decode cX10_copy 165 = .ok (.iload 8, 2) := by decide +kernel
theorem dX10_copy_167 : decode cX10_copy 167 = .ok (.isub, 1) := by decide +kernel
theorem dX10_copy_168 : decode cX10_copy 168 = .ok (.goto 5, 3) := by decide +kernel
theorem dX10_copy_171 : decode cX10_copy 171 = .ok (.iload 8, 2) := by decide +kernel
theorem dX10_copy_173 : decode cX10_copy 173 = .ok (.istore 9, 2) := by decide +kernel
theorem dX10_copy_175 : decode cX10_copy 175 = .ok (.aload_n 0, 1) := by decide +kernel
theorem dX10_copy_176 : decode cX10_copy 176 = .ok (.getfield 89, 3) := by decide +kernel
theorem dX10_copy_179 : decode cX10_copy 179 = .ok (.iload 7, 2) := by decide +kernel
theorem dX10_copy_181 : decode cX10_copy 181 = .ok (.iload 9, 2) := by decide +kernel
theorem dX10_copy_183 : decode cX10_copy 183 = .ok (.iadd, 1) := by decide +kernel
theorem dX10_copy_184 : decode cX10_copy 184 = .ok (.aload_n 0, 1) := by decide +kernel
theorem dX10_copy_185 : decode cX10_copy 185 = .ok (.getfield 89, 3) := by decide +kernel
theorem dX10_copy_188 : decode cX10_copy 188 = .ok (.iload 6, 2) := by decide +kernel
theorem dX10_copy_190 : decode cX10_copy 190 = .ok (.iload 9, 2) := by decide +kernel
theorem dX10_copy_192 : decode cX10_copy 192 = .ok (.iadd, 1) := by decide +kernel
theorem dX10_copy_193 : decode cX10_copy 193 = .ok (.iaload, 1) := by decide +kernel
theorem dX10_copy_194 : decode cX10_copy 194 = .ok (.iastore, 1) := by decide +kernel
theorem dX10_copy_195 : decode cX10_copy 195 = .ok (.iinc 8 1, 3) := by decide +kernel
theorem dX10_copy_198 : decode cX10_copy 198 = .ok (.goto (-51), 3) := by decide +kernel
theorem dX10_copy_201 : decode cX10_copy 201 = .ok (.iload 5, 2) := by decide +kernel
theorem dX10_copy_203 : decode cX10_copy 203 = .ok (.ireturn, 1) := by decide +kernel
theorem dX10_tripsBy_0 : decode cX10_tripsBy 0 = .ok (.iload_n 1, 1) := by decide +kernel
theorem dX10_tripsBy_1 : decode cX10_tripsBy 1 = .ok (.iconst 0, 1) := by decide +kernel
theorem dX10_tripsBy_2 : decode cX10_tripsBy 2 = .ok (.iconst 3, 1) := by decide +kernel
theorem dX10_tripsBy_3 : decode cX10_tripsBy 3 = .ok (.invokestatic 162, 3) := by decide +kernel
theorem dX10_tripsBy_6 : decode cX10_tripsBy 6 = .ok (.ifCond .eq 23, 3) := by decide +kernel
theorem dX10_tripsBy_9 : decode cX10_tripsBy 9 = .ok (.iload_n 2, 1) := by decide +kernel
theorem dX10_tripsBy_10 : decode cX10_tripsBy 10 = .ok (.iconst 0, 1) := by decide +kernel
theorem dX10_tripsBy_11 : decode cX10_tripsBy 11 = .ok (.iconst 2, 1) := by decide +kernel
theorem dX10_tripsBy_12 : decode cX10_tripsBy 12 = .ok (.invokestatic 162, 3) := by decide +kernel
theorem dX10_tripsBy_15 : decode cX10_tripsBy 15 = .ok (.ifCond .eq 14, 3) := by decide +kernel
theorem dX10_tripsBy_18 : decode cX10_tripsBy 18 = .ok (.iload 4, 2) := by decide +kernel
theorem dX10_tripsBy_20 : decode cX10_tripsBy 20 = .ok (.iconst 0, 1) := by decide +kernel
theorem dX10_tripsBy_21 : decode cX10_tripsBy 21 = .ok (.bipush 8, 2) := by decide +kernel
theorem dX10_tripsBy_23 : decode cX10_tripsBy 23 = .ok (.invokestatic 162, 3) := by decide +kernel
theorem dX10_tripsBy_26 : decode cX10_tripsBy 26 = .ok (.ifCond .ne 6, 3) := by decide +kernel
theorem dX10_tripsBy_29 : decode cX10_tripsBy 29 = .ok (.bipush (-2), 2) := by decide +kernel
theorem dX10_tripsBy_31 : decode cX10_tripsBy 31 = .ok (.ireturn, 1) := by decide +kernel
theorem dX10_tripsBy_32 : decode cX10_tripsBy 32 = .ok (.aload_n 0, 1) := by decide +kernel
theorem dX10_tripsBy_33 : decode cX10_tripsBy 33 = .ok (.getfield 83, 3) := by decide +kernel
theorem dX10_tripsBy_36 : decode cX10_tripsBy 36 = .ok (.iload_n 1, 1) := by decide +kernel
theorem dX10_tripsBy_37 : decode cX10_tripsBy 37 = .ok (.iaload, 1) := by decide +kernel
theorem dX10_tripsBy_38 : decode cX10_tripsBy 38 = .ok (.iconst (-1), 1) := by decide +kernel
theorem dX10_tripsBy_39 : decode cX10_tripsBy 39 = .ok (.if_icmp .ne 6, 3) := by decide +kernel
theorem dX10_tripsBy_42 : decode cX10_tripsBy 42 = .ok (.bipush (-11), 2) := by decide +kernel
theorem dX10_tripsBy_44 : decode cX10_tripsBy 44 = .ok (.ireturn, 1) := by decide +kernel
theorem dX10_tripsBy_45 : decode cX10_tripsBy 45 = .ok (.aload_n 0, 1) := by decide +kernel
theorem dX10_tripsBy_46 : decode cX10_tripsBy 46 = .ok (.getfield 83, 3) := by decide +kernel
theorem dX10_tripsBy_49 : decode cX10_tripsBy 49 = .ok (.iload_n 1, 1) := by decide +kernel
theorem dX10_tripsBy_50 : decode cX10_tripsBy 50 = .ok (.iaload, 1) := by decide +kernel
theorem dX10_tripsBy_51 : decode cX10_tripsBy 51 = .ok (.iload_n 2, 1) := by decide +kernel
theorem dX10_tripsBy_52 : decode cX10_tripsBy 52 = .ok (.if_icmp .eq 6, 3) := by decide +kernel
theorem dX10_tripsBy_55 : decode cX10_tripsBy 55 = .ok (.bipush (-13), 2) := by decide +kernel
theorem dX10_tripsBy_57 : decode cX10_tripsBy 57 = .ok (.ireturn, 1) := by decide +kernel
theorem dX10_tripsBy_58 : decode cX10_tripsBy 58 = .ok (.iconst 0, 1) := by decide +kernel
theorem dX10_tripsBy_59 : decode cX10_tripsBy 59 = .ok (.istore 5, 2) := by decide +kernel
theorem dX10_tripsBy_61 : decode cX10_tripsBy 61 = .ok (.iconst 0, 1) := by decide +kernel
theorem dX10_tripsBy_62 : decode cX10_tripsBy 62 = .ok (.istore 6, 2) := by decide +kernel
theorem dX10_tripsBy_64 : decode cX10_tripsBy 64 = .ok (.iload 6, 2) := by decide +kernel
theorem dX10_tripsBy_66 : decode cX10_tripsBy 66 = .ok (.iload 4, 2) := by decide +kernel
theorem dX10_tripsBy_68 : decode cX10_tripsBy 68 = .ok (.if_icmp .ge 103, 3) := by decide +kernel
theorem dX10_tripsBy_71 : decode cX10_tripsBy 71 = .ok (.iload_n 3, 1) := by decide +kernel
theorem dX10_tripsBy_72 : decode cX10_tripsBy 72 = .ok (.iconst 4, 1) := by decide +kernel
theorem dX10_tripsBy_73 : decode cX10_tripsBy 73 = .ok (.iload 6, 2) := by decide +kernel
theorem dX10_tripsBy_75 : decode cX10_tripsBy 75 = .ok (.imul, 1) := by decide +kernel
theorem dX10_tripsBy_76 : decode cX10_tripsBy 76 = .ok (.iadd, 1) := by decide +kernel
theorem dX10_tripsBy_77 : decode cX10_tripsBy 77 = .ok (.istore 7, 2) := by decide +kernel
theorem dX10_tripsBy_79 : decode cX10_tripsBy 79 = .ok (.iload_n 3, 1) := by decide +kernel
theorem dX10_tripsBy_80 : decode cX10_tripsBy 80 = .ok (.ifCond .lt 22, 3) := by decide +kernel
theorem dX10_tripsBy_83 : decode cX10_tripsBy 83 = .ok (.iload 7, 2) := by decide +kernel
theorem dX10_tripsBy_85 : decode cX10_tripsBy 85 = .ok (.iload_n 3, 1) := by decide +kernel
theorem dX10_tripsBy_86 : decode cX10_tripsBy 86 = .ok (.if_icmp .lt 16, 3) := by decide +kernel
theorem dX10_tripsBy_89 : decode cX10_tripsBy 89 = .ok (.iload 7, 2) := by decide +kernel
theorem dX10_tripsBy_91 : decode cX10_tripsBy 91 = .ok (.aload_n 0, 1) := by decide +kernel
theorem dX10_tripsBy_92 : decode cX10_tripsBy 92 = .ok (.getfield 86, 3) := by decide +kernel
theorem dX10_tripsBy_95 : decode cX10_tripsBy 95 = .ok (.iload_n 1, 1) := by decide +kernel
theorem dX10_tripsBy_96 : decode cX10_tripsBy 96 = .ok (.iaload, 1) := by decide +kernel
theorem dX10_tripsBy_97 : decode cX10_tripsBy 97 = .ok (.iconst 4, 1) := by decide +kernel
theorem dX10_tripsBy_98 : decode cX10_tripsBy 98 = .ok (.isub, 1) := by decide +kernel
theorem dX10_tripsBy_99 : decode cX10_tripsBy 99 = .ok (.if_icmp .le 6, 3) := by decide +kernel
theorem dX10_tripsBy_102 : decode cX10_tripsBy 102 = .ok (.bipush (-12), 2) := by decide +kernel
theorem dX10_tripsBy_104 : decode cX10_tripsBy 104 = .ok (.ireturn, 1) := by decide +kernel
theorem dX10_tripsBy_105 : decode cX10_tripsBy 105 = .ok (.bipush 41, 2) := by decide +kernel
theorem dX10_tripsBy_107 : decode cX10_tripsBy 107 = .ok (.iload_n 1, 1) := by decide +kernel
theorem dX10_tripsBy_108 : decode cX10_tripsBy 108 = .ok (.imul, 1) := by decide +kernel
theorem dX10_tripsBy_109 : decode cX10_tripsBy 109 = .ok (.iload 7, 2) := by decide +kernel
theorem dX10_tripsBy_111 : decode cX10_tripsBy 111 = .ok (.iadd, 1) := by decide +kernel
theorem dX10_tripsBy_112 : decode cX10_tripsBy 112 = .ok (.istore 8, 2) := by decide +kernel
theorem dX10_tripsBy_114 : decode cX10_tripsBy 114 = .ok (.iload 5, 2) := by decide +kernel
theorem dX10_tripsBy_116 : decode cX10_tripsBy 116 = .ok (.aload_n 0, 1) := by decide +kernel
theorem dX10_tripsBy_117 : decode cX10_tripsBy 117 = .ok (.aload_n 0, 1) := by decide +kernel
theorem dX10_tripsBy_118 : decode cX10_tripsBy 118 = .ok (.getfield 89, 3) := by decide +kernel
theorem dX10_tripsBy_121 : decode cX10_tripsBy 121 = .ok (.iload 8, 2) := by decide +kernel
theorem dX10_tripsBy_123 : decode cX10_tripsBy 123 = .ok (.iaload, 1) := by decide +kernel
theorem dX10_tripsBy_124 : decode cX10_tripsBy 124 = .ok (.aload_n 0, 1) := by decide +kernel
theorem dX10_tripsBy_125 : decode cX10_tripsBy 125 = .ok (.getfield 89, 3) := by decide +kernel
theorem dX10_tripsBy_128 : decode cX10_tripsBy 128 = .ok (.iload 8, 2) := by decide +kernel
theorem dX10_tripsBy_130 : decode cX10_tripsBy 130 = .ok (.iconst 1, 1) := by decide +kernel
theorem dX10_tripsBy_131 : decode cX10_tripsBy 131 = .ok (.iadd, 1) := by decide +kernel
theorem dX10_tripsBy_132 : decode cX10_tripsBy 132 = .ok (.iaload, 1) := by decide +kernel
theorem dX10_tripsBy_133 : decode cX10_tripsBy 133 = .ok (.aload_n 0, 1) := by decide +kernel
theorem dX10_tripsBy_134 : decode cX10_tripsBy 134 = .ok (.getfield 89, 3) := by decide +kernel
theorem dX10_tripsBy_137 : decode cX10_tripsBy 137 = .ok (.iload 8, 2) := by decide +kernel
theorem dX10_tripsBy_139 : decode cX10_tripsBy 139 = .ok (.iconst 2, 1) := by decide +kernel
theorem dX10_tripsBy_140 : decode cX10_tripsBy 140 = .ok (.iadd, 1) := by decide +kernel
theorem dX10_tripsBy_141 : decode cX10_tripsBy 141 = .ok (.iaload, 1) := by decide +kernel
theorem dX10_tripsBy_142 : decode cX10_tripsBy 142 = .ok (.aload_n 0, 1) := by decide +kernel
theorem dX10_tripsBy_143 : decode cX10_tripsBy 143 = .ok (.getfield 89, 3) := by decide +kernel
theorem dX10_tripsBy_146 : decode cX10_tripsBy 146 = .ok (.iload 8, 2) := by decide +kernel
theorem dX10_tripsBy_148 : decode cX10_tripsBy 148 = .ok (.iconst 3, 1) := by decide +kernel
theorem dX10_tripsBy_149 : decode cX10_tripsBy 149 = .ok (.iadd, 1) := by decide +kernel
theorem dX10_tripsBy_150 : decode cX10_tripsBy 150 = .ok (.iaload, 1) := by decide +kernel
theorem dX10_tripsBy_151 : decode cX10_tripsBy 151 = .ok (.invokevirtual 412, 3) := by decide +kernel
theorem dX10_tripsBy_154 : decode cX10_tripsBy 154 = .ok (.ifCond .lt 7, 3) := by decide +kernel
theorem dX10_tripsBy_157 : decode cX10_tripsBy 157 = .ok (.iconst 1, 1) := by decide +kernel
theorem dX10_tripsBy_158 : decode cX10_tripsBy 158 = .ok (.goto 4, 3) := by decide +kernel
theorem dX10_tripsBy_161 : decode cX10_tripsBy 161 = .ok (.iconst 0, 1) := by decide +kernel
theorem dX10_tripsBy_162 : decode cX10_tripsBy 162 = .ok (.iadd, 1) := by decide +kernel
theorem dX10_tripsBy_163 : decode cX10_tripsBy 163 = .ok (.istore 5, 2) := by decide +kernel
theorem dX10_tripsBy_165 : decode cX10_tripsBy 165 = .ok (.iinc 6 1, 3) := by decide +kernel
theorem dX10_tripsBy_168 : decode cX10_tripsBy 168 = .ok (.goto (-104), 3) := by decide +kernel
theorem dX10_tripsBy_171 : decode cX10_tripsBy 171 = .ok (.iload 5, 2) := by decide +kernel
theorem dX10_tripsBy_173 : decode cX10_tripsBy 173 = .ok (.ireturn, 1) := by decide +kernel
theorem dX10_isUnder_0 : decode cX10_isUnder 0 = .ok (.iload_n 1, 1) := by decide +kernel
theorem dX10_isUnder_1 : decode cX10_isUnder 1 = .ok (.ifCond .eq 28, 3) := by decide +kernel
theorem dX10_isUnder_4 : decode cX10_isUnder 4 = .ok (.iload_n 0, 1) := by decide +kernel
theorem dX10_isUnder_5 : decode cX10_isUnder 5 = .ok (.iload_n 1, 1) := by decide +kernel
theorem dX10_isUnder_6 : decode cX10_isUnder 6 = .ok (.if_icmp .eq 23, 3) := by decide +kernel
theorem dX10_isUnder_9 : decode cX10_isUnder 9 = .ok (.iload_n 1, 1) := by decide +kernel
theorem dX10_isUnder_10 : decode cX10_isUnder 10 = .ok (.iconst 1, 1) := by decide +kernel
theorem dX10_isUnder_11 : decode cX10_isUnder 11 = .ok (.if_icmp .ne 8, 3) := by decide +kernel
theorem dX10_isUnder_14 : decode cX10_isUnder 14 = .ok (.iload_n 0, 1) := by decide +kernel
theorem dX10_isUnder_15 : decode cX10_isUnder 15 = .ok (.iconst 5, 1) := by decide +kernel
theorem dX10_isUnder_16 : decode cX10_isUnder 16 = .ok (.if_icmp .eq 13, 3) := by decide +kernel
theorem dX10_isUnder_19 : decode cX10_isUnder 19 = .ok (.iload_n 1, 1) := by decide +kernel
theorem dX10_isUnder_20 : decode cX10_isUnder 20 = .ok (.iconst 2, 1) := by decide +kernel
theorem dX10_isUnder_21 : decode cX10_isUnder 21 = .ok (.if_icmp .ne 12, 3) := by decide +kernel
theorem dX10_isUnder_24 : decode cX10_isUnder 24 = .ok (.iload_n 0, 1) := by decide +kernel
theorem dX10_isUnder_25 : decode cX10_isUnder 25 = .ok (.iconst 4, 1) := by decide +kernel
theorem dX10_isUnder_26 : decode cX10_isUnder 26 = .ok (.if_icmp .ne 7, 3) := by decide +kernel
theorem dX10_isUnder_29 : decode cX10_isUnder 29 = .ok (.iconst 1, 1) := by decide +kernel
theorem dX10_isUnder_30 : decode cX10_isUnder 30 = .ok (.goto 4, 3) := by decide +kernel
theorem dX10_isUnder_33 : decode cX10_isUnder 33 = .ok (.iconst 0, 1) := by decide +kernel
theorem dX10_isUnder_34 : decode cX10_isUnder 34 = .ok (.ireturn, 1) := by decide +kernel
theorem dX10_taken_0 : decode cX10_taken 0 = .ok (.iload_n 2, 1) := by decide +kernel
theorem dX10_taken_1 : decode cX10_taken 1 = .ok (.iconst 0, 1) := by decide +kernel
theorem dX10_taken_2 : decode cX10_taken 2 = .ok (.bipush 6, 2) := by decide +kernel
theorem dX10_taken_4 : decode cX10_taken 4 = .ok (.invokestatic 162, 3) := by decide +kernel
theorem dX10_taken_7 : decode cX10_taken 7 = .ok (.ifCond .ne 6, 3) := by decide +kernel
theorem dX10_taken_10 : decode cX10_taken 10 = .ok (.bipush (-2), 2) := by decide +kernel
theorem dX10_taken_12 : decode cX10_taken 12 = .ok (.ireturn, 1) := by decide +kernel
theorem dX10_taken_13 : decode cX10_taken 13 = .ok (.iload_n 1, 1) := by decide +kernel
theorem dX10_taken_14 : decode cX10_taken 14 = .ok (.iconst 0, 1) := by decide +kernel
theorem dX10_taken_15 : decode cX10_taken 15 = .ok (.bipush 15, 2) := by decide +kernel
theorem dX10_taken_17 : decode cX10_taken 17 = .ok (.invokestatic 162, 3) := by decide +kernel
theorem dX10_taken_20 : decode cX10_taken 20 = .ok (.ifCond .ne 6, 3) := by decide +kernel
theorem dX10_taken_23 : decode cX10_taken 23 = .ok (.bipush (-12), 2) := by decide +kernel
theorem dX10_taken_25 : decode cX10_taken 25 = .ok (.ireturn, 1) := by decide +kernel
theorem dX10_taken_26 : decode cX10_taken 26 = .ok (.iload_n 1, 1) := by decide +kernel
theorem dX10_taken_27 : decode cX10_taken 27 = .ok (.bipush 8, 2) := by decide +kernel
theorem dX10_taken_29 : decode cX10_taken 29 = .ok (.if_icmp .ge 34, 3) := by decide +kernel
theorem dX10_taken_32 : decode cX10_taken 32 = .ok (.iload_n 1, 1) := by decide +kernel
theorem dX10_taken_33 : decode cX10_taken 33 = .ok (.aload_n 0, 1) := by decide +kernel
theorem dX10_taken_34 : decode cX10_taken 34 = .ok (.getfield 169, 3) := by decide +kernel
theorem dX10_taken_37 : decode cX10_taken 37 = .ok (.if_icmp .lt 8, 3) := by decide +kernel
theorem dX10_taken_40 : decode cX10_taken 40 = .ok (.bipush (-11), 2) := by decide +kernel
theorem dX10_taken_42 : decode cX10_taken 42 = .ok (.goto 20, 3) := by decide +kernel
theorem dX10_taken_45 : decode cX10_taken 45 = .ok (.iload_n 2, 1) := by decide +kernel
theorem dX10_taken_46 : decode cX10_taken 46 = .ok (.bipush 6, 2) := by decide +kernel
theorem dX10_taken_48 : decode cX10_taken 48 = .ok (.if_icmp .ne 12, 3) := by decide +kernel
theorem dX10_taken_51 : decode cX10_taken 51 = .ok (.aload_n 0, 1) := by decide +kernel
theorem dX10_taken_52 : decode cX10_taken 52 = .ok (.getfield 50, 3) := by decide +kernel
theorem dX10_taken_55 : decode cX10_taken 55 = .ok (.iload_n 1, 1) := by decide +kernel
theorem dX10_taken_56 : decode cX10_taken 56 = .ok (.iaload, 1) := by decide +kernel
theorem dX10_taken_57 : decode cX10_taken 57 = .ok (.goto 5, 3) := by decide +kernel
theorem dX10_taken_60 : decode cX10_taken 60 = .ok (.bipush (-13), 2) := by decide +kernel
theorem dX10_taken_62 : decode cX10_taken 62 = .ok (.ireturn, 1) := by decide +kernel
theorem dX10_taken_63 : decode cX10_taken 63 = .ok (.iload_n 1, 1) := by decide +kernel
theorem dX10_taken_64 : decode cX10_taken 64 = .ok (.bipush 8, 2) := by decide +kernel
theorem dX10_taken_66 : decode cX10_taken 66 = .ok (.isub, 1) := by decide +kernel
theorem dX10_taken_67 : decode cX10_taken 67 = .ok (.aload_n 0, 1) := by decide +kernel
theorem dX10_taken_68 : decode cX10_taken 68 = .ok (.getfield 166, 3) := by decide +kernel
theorem dX10_taken_71 : decode cX10_taken 71 = .ok (.if_icmp .lt 8, 3) := by decide +kernel
theorem dX10_taken_74 : decode cX10_taken 74 = .ok (.bipush (-11), 2) := by decide +kernel
theorem dX10_taken_76 : decode cX10_taken 76 = .ok (.goto 34, 3) := by decide +kernel
theorem dX10_taken_79 : decode cX10_taken 79 = .ok (.iload_n 2, 1) := by decide +kernel
theorem dX10_taken_80 : decode cX10_taken 80 = .ok (.bipush 6, 2) := by decide +kernel
theorem dX10_taken_82 : decode cX10_taken 82 = .ok (.if_icmp .ge 26, 3) := by decide +kernel
theorem dX10_taken_85 : decode cX10_taken 85 = .ok (.aload_n 0, 1) := by decide +kernel
theorem dX10_taken_86 : decode cX10_taken 86 = .ok (.getfield 23, 3) := by decide +kernel
theorem dX10_taken_89 : decode cX10_taken 89 = .ok (.iload_n 1, 1) := by decide +kernel
theorem dX10_taken_90 : decode cX10_taken 90 = .ok (.bipush 8, 2) := by decide +kernel
theorem dX10_taken_92 : decode cX10_taken 92 = .ok (.isub, 1) := by decide +kernel
theorem dX10_taken_93 : decode cX10_taken 93 = .ok (.iaload, 1) := by decide +kernel
theorem dX10_taken_94 : decode cX10_taken 94 = .ok (.iload_n 2, 1) := by decide +kernel
theorem dX10_taken_95 : decode cX10_taken 95 = .ok (.invokestatic 416, 3) := by decide +kernel
theorem dX10_taken_98 : decode cX10_taken 98 = .ok (.ifCond .eq 10, 3) := by decide +kernel
theorem dX10_taken_101 : decode cX10_taken 101 = .ok (.iload_n 1, 1) := by decide +kernel
theorem dX10_taken_102 : decode cX10_taken 102 = .ok (.bipush 8, 2) := by decide +kernel
theorem dX10_taken_104 : decode cX10_taken 104 = .ok (.isub, 1) := by decide +kernel
theorem dX10_taken_105 : decode cX10_taken 105 = .ok (.goto 5, 3) := by decide +kernel
theorem dX10_taken_108 : decode cX10_taken 108 = .ok (.bipush (-13), 2) := by decide +kernel
theorem dX10_taken_110 : decode cX10_taken 110 = .ok (.ireturn, 1) := by decide +kernel
theorem dJ11_isValidCodePoint_9a6ad_0 : decode cJ11_isValidCodePoint_9a6ad 0 = .ok (.iload_n 0, 1) := by decide +kernel
theorem dJ11_isValidCodePoint_9a6ad_1 : decode cJ11_isValidCodePoint_9a6ad 1 = .ok (.bipush 16, 2) := by decide +kernel
theorem dJ11_isValidCodePoint_9a6ad_3 : decode cJ11_isValidCodePoint_9a6ad 3 = .ok (.iushr, 1) := by decide +kernel
theorem dJ11_isValidCodePoint_9a6ad_4 : decode cJ11_isValidCodePoint_9a6ad 4 = .ok (.istore_n 1, 1) := by decide +kernel
theorem dJ11_isValidCodePoint_9a6ad_5 : decode cJ11_isValidCodePoint_9a6ad 5 = .ok (.iload_n 1, 1) := by decide +kernel
theorem dJ11_isValidCodePoint_9a6ad_6 : decode cJ11_isValidCodePoint_9a6ad 6 = .ok (.bipush 17, 2) := by decide +kernel
theorem dJ11_isValidCodePoint_9a6ad_8 : decode cJ11_isValidCodePoint_9a6ad 8 = .ok (.if_icmp .ge 7, 3) := by decide +kernel
theorem dJ11_isValidCodePoint_9a6ad_11 : decode cJ11_isValidCodePoint_9a6ad 11 = .ok (.iconst 1, 1) := by decide +kernel
theorem dJ11_isValidCodePoint_9a6ad_12 : decode cJ11_isValidCodePoint_9a6ad 12 = .ok (.goto 4, 3) := by decide +kernel
theorem dJ11_isValidCodePoint_9a6ad_15 : decode cJ11_isValidCodePoint_9a6ad 15 = .ok (.iconst 0, 1) := by decide +kernel
theorem dJ11_isValidCodePoint_9a6ad_16 : decode cJ11_isValidCodePoint_9a6ad 16 = .ok (.ireturn, 1) := by decide +kernel
theorem dJ11_highSurrogate_5068e_0 : decode cJ11_highSurrogate_5068e 0 = .ok (.iload_n 0, 1) := by decide +kernel
theorem dJ11_highSurrogate_5068e_1 : decode cJ11_highSurrogate_5068e 1 = .ok (.bipush 10, 2) := by decide +kernel
theorem dJ11_highSurrogate_5068e_3 : decode cJ11_highSurrogate_5068e 3 = .ok (.iushr, 1) := by decide +kernel
theorem dJ11_highSurrogate_5068e_4 : decode cJ11_highSurrogate_5068e 4 = .ok (.ldc 110, 2) := by decide +kernel
theorem dJ11_highSurrogate_5068e_6 : decode cJ11_highSurrogate_5068e 6 = .ok (.iadd, 1) := by decide +kernel
theorem dJ11_highSurrogate_5068e_7 : decode cJ11_highSurrogate_5068e 7 = .ok (.i2c, 1) := by decide +kernel
theorem dJ11_highSurrogate_5068e_8 : decode cJ11_highSurrogate_5068e 8 = .ok (.ireturn, 1) := by decide +kernel
theorem dJ11_lowSurrogate_5068e_0 : decode cJ11_lowSurrogate_5068e 0 = .ok (.iload_n 0, 1) := by decide +kernel
theorem dJ11_lowSurrogate_5068e_1 : decode cJ11_lowSurrogate_5068e 1 = .ok (.sipush 1023, 3) := by decide +kernel
theorem dJ11_lowSurrogate_5068e_4 : decode cJ11_lowSurrogate_5068e 4 = .ok (.iand, 1) := by decide +kernel
theorem dJ11_lowSurrogate_5068e_5 : decode cJ11_lowSurrogate_5068e 5 = .ok (.ldc 76, 2) := by decide +kernel
theorem dJ11_lowSurrogate_5068e_7 : decode cJ11_lowSurrogate_5068e 7 = .ok (.iadd, 1) := by decide +kernel
theorem dJ11_lowSurrogate_5068e_8 : decode cJ11_lowSurrogate_5068e 8 = .ok (.i2c, 1) := by decide +kernel
theorem dJ11_lowSurrogate_5068e_9 : decode cJ11_lowSurrogate_5068e 9 = .ok (.ireturn, 1) := by decide +kernel
theorem dJ6_bitCount_0f7a4_0 : decode cJ6_bitCount_0f7a4 0 = .ok (.iload_n 0, 1) := by decide +kernel
theorem dJ6_bitCount_0f7a4_1 : decode cJ6_bitCount_0f7a4 1 = .ok (.iload_n 0, 1) := by decide +kernel
theorem dJ6_bitCount_0f7a4_2 : decode cJ6_bitCount_0f7a4 2 = .ok (.iconst 1, 1) := by decide +kernel
theorem dJ6_bitCount_0f7a4_3 : decode cJ6_bitCount_0f7a4 3 = .ok (.iushr, 1) := by decide +kernel
theorem dJ6_bitCount_0f7a4_4 : decode cJ6_bitCount_0f7a4 4 = .ok (.ldc_w 265, 3) := by decide +kernel
theorem dJ6_bitCount_0f7a4_7 : decode cJ6_bitCount_0f7a4 7 = .ok (.iand, 1) := by decide +kernel
theorem dJ6_bitCount_0f7a4_8 : decode cJ6_bitCount_0f7a4 8 = .ok (.isub, 1) := by decide +kernel
theorem dJ6_bitCount_0f7a4_9 : decode cJ6_bitCount_0f7a4 9 = .ok (.istore_n 0, 1) := by decide +kernel
theorem dJ6_bitCount_0f7a4_10 : decode cJ6_bitCount_0f7a4 10 = .ok (.iload_n 0, 1) := by decide +kernel
theorem dJ6_bitCount_0f7a4_11 : decode cJ6_bitCount_0f7a4 11 = .ok (.ldc_w 266, 3) := by decide +kernel
theorem dJ6_bitCount_0f7a4_14 : decode cJ6_bitCount_0f7a4 14 = .ok (.iand, 1) := by decide +kernel
theorem dJ6_bitCount_0f7a4_15 : decode cJ6_bitCount_0f7a4 15 = .ok (.iload_n 0, 1) := by decide +kernel
theorem dJ6_bitCount_0f7a4_16 : decode cJ6_bitCount_0f7a4 16 = .ok (.iconst 2, 1) := by decide +kernel
theorem dJ6_bitCount_0f7a4_17 : decode cJ6_bitCount_0f7a4 17 = .ok (.iushr, 1) := by decide +kernel
theorem dJ6_bitCount_0f7a4_18 : decode cJ6_bitCount_0f7a4 18 = .ok (.ldc_w 266, 3) := by decide +kernel
theorem dJ6_bitCount_0f7a4_21 : decode cJ6_bitCount_0f7a4 21 = .ok (.iand, 1) := by decide +kernel
theorem dJ6_bitCount_0f7a4_22 : decode cJ6_bitCount_0f7a4 22 = .ok (.iadd, 1) := by decide +kernel
theorem dJ6_bitCount_0f7a4_23 : decode cJ6_bitCount_0f7a4 23 = .ok (.istore_n 0, 1) := by decide +kernel
theorem dJ6_bitCount_0f7a4_24 : decode cJ6_bitCount_0f7a4 24 = .ok (.iload_n 0, 1) := by decide +kernel
theorem dJ6_bitCount_0f7a4_25 : decode cJ6_bitCount_0f7a4 25 = .ok (.iload_n 0, 1) := by decide +kernel
theorem dJ6_bitCount_0f7a4_26 : decode cJ6_bitCount_0f7a4 26 = .ok (.iconst 4, 1) := by decide +kernel
theorem dJ6_bitCount_0f7a4_27 : decode cJ6_bitCount_0f7a4 27 = .ok (.iushr, 1) := by decide +kernel
theorem dJ6_bitCount_0f7a4_28 : decode cJ6_bitCount_0f7a4 28 = .ok (.iadd, 1) := by decide +kernel
theorem dJ6_bitCount_0f7a4_29 : decode cJ6_bitCount_0f7a4 29 = .ok (.ldc_w 267, 3) := by decide +kernel
theorem dJ6_bitCount_0f7a4_32 : decode cJ6_bitCount_0f7a4 32 = .ok (.iand, 1) := by decide +kernel
theorem dJ6_bitCount_0f7a4_33 : decode cJ6_bitCount_0f7a4 33 = .ok (.istore_n 0, 1) := by decide +kernel
theorem dJ6_bitCount_0f7a4_34 : decode cJ6_bitCount_0f7a4 34 = .ok (.iload_n 0, 1) := by decide +kernel
theorem dJ6_bitCount_0f7a4_35 : decode cJ6_bitCount_0f7a4 35 = .ok (.iload_n 0, 1) := by decide +kernel
theorem dJ6_bitCount_0f7a4_36 : decode cJ6_bitCount_0f7a4 36 = .ok (.bipush 8, 2) := by decide +kernel
theorem dJ6_bitCount_0f7a4_38 : decode cJ6_bitCount_0f7a4 38 = .ok (.iushr, 1) := by decide +kernel
theorem dJ6_bitCount_0f7a4_39 : decode cJ6_bitCount_0f7a4 39 = .ok (.iadd, 1) := by decide +kernel
theorem dJ6_bitCount_0f7a4_40 : decode cJ6_bitCount_0f7a4 40 = .ok (.istore_n 0, 1) := by decide +kernel
theorem dJ6_bitCount_0f7a4_41 : decode cJ6_bitCount_0f7a4 41 = .ok (.iload_n 0, 1) := by decide +kernel
theorem dJ6_bitCount_0f7a4_42 : decode cJ6_bitCount_0f7a4 42 = .ok (.iload_n 0, 1) := by decide +kernel
theorem dJ6_bitCount_0f7a4_43 : decode cJ6_bitCount_0f7a4 43 = .ok (.bipush 16, 2) := by decide +kernel
theorem dJ6_bitCount_0f7a4_45 : decode cJ6_bitCount_0f7a4 45 = .ok (.iushr, 1) := by decide +kernel
theorem dJ6_bitCount_0f7a4_46 : decode cJ6_bitCount_0f7a4 46 = .ok (.iadd, 1) := by decide +kernel
theorem dJ6_bitCount_0f7a4_47 : decode cJ6_bitCount_0f7a4 47 = .ok (.istore_n 0, 1) := by decide +kernel
theorem dJ6_bitCount_0f7a4_48 : decode cJ6_bitCount_0f7a4 48 = .ok (.iload_n 0, 1) := by decide +kernel
theorem dJ6_bitCount_0f7a4_49 : decode cJ6_bitCount_0f7a4 49 = .ok (.bipush 63, 2) := by decide +kernel
theorem dJ6_bitCount_0f7a4_51 : decode cJ6_bitCount_0f7a4 51 = .ok (.iand, 1) := by decide +kernel
theorem dJ6_bitCount_0f7a4_52 : decode cJ6_bitCount_0f7a4 52 = .ok (.ireturn, 1) := by decide +kernel
theorem dJ9_abs_0f7a4_0 : decode cJ9_abs_0f7a4 0 = .ok (.iload_n 0, 1) := by decide +kernel
theorem dJ9_abs_0f7a4_1 : decode cJ9_abs_0f7a4 1 = .ok (.ifCond .ge 8, 3) := by decide +kernel
theorem dJ9_abs_0f7a4_4 : decode cJ9_abs_0f7a4 4 = .ok (.iload_n 0, 1) := by decide +kernel
theorem dJ9_abs_0f7a4_5 : decode cJ9_abs_0f7a4 5 = .ok (.ineg, 1) := by decide +kernel
theorem dJ9_abs_0f7a4_6 : decode cJ9_abs_0f7a4 6 = .ok (.goto 4, 3) := by decide +kernel
theorem dJ9_abs_0f7a4_9 : decode cJ9_abs_0f7a4 9 = .ok (.iload_n 0, 1) := by decide +kernel
theorem dJ9_abs_0f7a4_10 : decode cJ9_abs_0f7a4 10 = .ok (.ireturn, 1) := by decide +kernel
theorem dJ9_max_7cf53_0 : decode cJ9_max_7cf53 0 = .ok (.iload_n 0, 1) := by decide +kernel
theorem dJ9_max_7cf53_1 : decode cJ9_max_7cf53 1 = .ok (.iload_n 1, 1) := by decide +kernel
theorem dJ9_max_7cf53_2 : decode cJ9_max_7cf53 2 = .ok (.if_icmp .lt 7, 3) := by decide +kernel
theorem dJ9_max_7cf53_5 : decode cJ9_max_7cf53 5 = .ok (.iload_n 0, 1) := by decide +kernel
theorem dJ9_max_7cf53_6 : decode cJ9_max_7cf53 6 = .ok (.goto 4, 3) := by decide +kernel
theorem dJ9_max_7cf53_9 : decode cJ9_max_7cf53 9 = .ok (.iload_n 1, 1) := by decide +kernel
theorem dJ9_max_7cf53_10 : decode cJ9_max_7cf53 10 = .ok (.ireturn, 1) := by decide +kernel
theorem dJ9_min_7cf53_0 : decode cJ9_min_7cf53 0 = .ok (.iload_n 0, 1) := by decide +kernel
theorem dJ9_min_7cf53_1 : decode cJ9_min_7cf53 1 = .ok (.iload_n 1, 1) := by decide +kernel
theorem dJ9_min_7cf53_2 : decode cJ9_min_7cf53 2 = .ok (.if_icmp .gt 7, 3) := by decide +kernel
theorem dJ9_min_7cf53_5 : decode cJ9_min_7cf53 5 = .ok (.iload_n 0, 1) := by decide +kernel
theorem dJ9_min_7cf53_6 : decode cJ9_min_7cf53 6 = .ok (.goto 4, 3) := by decide +kernel
theorem dJ9_min_7cf53_9 : decode cJ9_min_7cf53 9 = .ok (.iload_n 1, 1) := by decide +kernel
theorem dJ9_min_7cf53_10 : decode cJ9_min_7cf53 10 = .ok (.ireturn, 1) := by decide +kernel
theorem dJ0_length_8abf5_0 : decode cJ0_length_8abf5 0 = .ok (.aload_n 0, 1) := by decide +kernel
theorem dJ0_length_8abf5_1 : decode cJ0_length_8abf5 1 = .ok (.getfield 9, 3) := by decide +kernel
theorem dJ0_length_8abf5_4 : decode cJ0_length_8abf5 4 = .ok (.arraylength, 1) := by decide +kernel
theorem dJ0_length_8abf5_5 : decode cJ0_length_8abf5 5 = .ok (.aload_n 0, 1) := by decide +kernel
theorem dJ0_length_8abf5_6 : decode cJ0_length_8abf5 6 = .ok (.invokevirtual 335, 3) := by decide +kernel
theorem dJ0_length_8abf5_9 : decode cJ0_length_8abf5 9 = .ok (.ishr, 1) := by decide +kernel
theorem dJ0_length_8abf5_10 : decode cJ0_length_8abf5 10 = .ok (.ireturn, 1) := by decide +kernel
theorem dJ0_charAt_5068e_0 : decode cJ0_charAt_5068e 0 = .ok (.aload_n 0, 1) := by decide +kernel
theorem dJ0_charAt_5068e_1 : decode cJ0_charAt_5068e 1 = .ok (.invokevirtual 492, 3) := by decide +kernel
theorem dJ0_charAt_5068e_4 : decode cJ0_charAt_5068e 4 = .ok (.ifCond .eq 12, 3) := by decide +kernel
theorem dJ0_charAt_5068e_7 : decode cJ0_charAt_5068e 7 = .ok (.aload_n 0, 1) := by decide +kernel
theorem dJ0_charAt_5068e_8 : decode cJ0_charAt_5068e 8 = .ok (.getfield 9, 3) := by decide +kernel
theorem dJ0_charAt_5068e_11 : decode cJ0_charAt_5068e 11 = .ok (.iload_n 1, 1) := by decide +kernel
theorem dJ0_charAt_5068e_12 : decode cJ0_charAt_5068e 12 = .ok (.invokestatic 495, 3) := by decide +kernel
theorem dJ0_charAt_5068e_15 : decode cJ0_charAt_5068e 15 = .ok (.ireturn, 1) := by decide +kernel
theorem dJ0_charAt_5068e_16 : decode cJ0_charAt_5068e 16 = .ok (.aload_n 0, 1) := by decide +kernel
theorem dJ0_charAt_5068e_17 : decode cJ0_charAt_5068e 17 = .ok (.getfield 9, 3) := by decide +kernel
theorem dJ0_charAt_5068e_20 : decode cJ0_charAt_5068e 20 = .ok (.iload_n 1, 1) := by decide +kernel
theorem dJ0_charAt_5068e_21 : decode cJ0_charAt_5068e 21 = .ok (.invokestatic 498, 3) := by decide +kernel
theorem dJ0_charAt_5068e_24 : decode cJ0_charAt_5068e 24 = .ok (.ireturn, 1) := by decide +kernel
theorem dJ0_indexOf_0f7a4_0 : decode cJ0_indexOf_0f7a4 0 = .ok (.aload_n 0, 1) := by decide +kernel
theorem dJ0_indexOf_0f7a4_1 : decode cJ0_indexOf_0f7a4 1 = .ok (.iload_n 1, 1) := by decide +kernel
theorem dJ0_indexOf_0f7a4_2 : decode cJ0_indexOf_0f7a4 2 = .ok (.iconst 0, 1) := by decide +kernel
theorem dJ0_indexOf_0f7a4_3 : decode cJ0_indexOf_0f7a4 3 = .ok (.invokevirtual 633, 3) := by decide +kernel
theorem dJ0_indexOf_0f7a4_6 : decode cJ0_indexOf_0f7a4 6 = .ok (.ireturn, 1) := by decide +kernel
theorem dJ0_indexOf_7cf53_0 : decode cJ0_indexOf_7cf53 0 = .ok (.aload_n 0, 1) := by decide +kernel
theorem dJ0_indexOf_7cf53_1 : decode cJ0_indexOf_7cf53 1 = .ok (.invokevirtual 492, 3) := by decide +kernel
theorem dJ0_indexOf_7cf53_4 : decode cJ0_indexOf_7cf53 4 = .ok (.ifCond .eq 19, 3) := by decide +kernel
theorem dJ0_indexOf_7cf53_7 : decode cJ0_indexOf_7cf53 7 = .ok (.aload_n 0, 1) := by decide +kernel
theorem dJ0_indexOf_7cf53_8 : decode cJ0_indexOf_7cf53 8 = .ok (.getfield 9, 3) := by decide +kernel
theorem dJ0_indexOf_7cf53_11 : decode cJ0_indexOf_7cf53 11 = .ok (.iload_n 1, 1) := by decide +kernel
theorem dJ0_indexOf_7cf53_12 : decode cJ0_indexOf_7cf53 12 = .ok (.iload_n 2, 1) := by decide +kernel
theorem dJ0_indexOf_7cf53_13 : decode cJ0_indexOf_7cf53 13 = .ok (.aload_n 0, 1) := by decide +kernel
theorem dJ0_indexOf_7cf53_14 : decode cJ0_indexOf_7cf53 14 = .ok (.invokevirtual 505, 3) := by decide +kernel
theorem dJ0_indexOf_7cf53_17 : decode cJ0_indexOf_7cf53 17 = .ok (.invokestatic 637, 3) := by decide +kernel
theorem dJ0_indexOf_7cf53_20 : decode cJ0_indexOf_7cf53 20 = .ok (.goto 16, 3) := by decide +kernel
theorem dJ0_indexOf_7cf53_23 : decode cJ0_indexOf_7cf53 23 = .ok (.aload_n 0, 1) := by decide +kernel
theorem dJ0_indexOf_7cf53_24 : decode cJ0_indexOf_7cf53 24 = .ok (.getfield 9, 3) := by decide +kernel
theorem dJ0_indexOf_7cf53_27 : decode cJ0_indexOf_7cf53 27 = .ok (.iload_n 1, 1) := by decide +kernel
theorem dJ0_indexOf_7cf53_28 : decode cJ0_indexOf_7cf53 28 = .ok (.iload_n 2, 1) := by decide +kernel
theorem dJ0_indexOf_7cf53_29 : decode cJ0_indexOf_7cf53 29 = .ok (.aload_n 0, 1) := by decide +kernel
theorem dJ0_indexOf_7cf53_30 : decode cJ0_indexOf_7cf53 30 = .ok (.invokevirtual 505, 3) := by decide +kernel
theorem dJ0_indexOf_7cf53_33 : decode cJ0_indexOf_7cf53 33 = .ok (.invokestatic 640, 3) := by decide +kernel
theorem dJ0_indexOf_7cf53_36 : decode cJ0_indexOf_7cf53 36 = .ok (.ireturn, 1) := by decide +kernel
theorem dJ0_coder_7d493_0 : decode cJ0_coder_7d493 0 = .ok (.getstatic 38, 3) := by decide +kernel
theorem dJ0_coder_7d493_3 : decode cJ0_coder_7d493 3 = .ok (.ifCond .eq 10, 3) := by decide +kernel
theorem dJ0_coder_7d493_6 : decode cJ0_coder_7d493 6 = .ok (.aload_n 0, 1) := by decide +kernel
theorem dJ0_coder_7d493_7 : decode cJ0_coder_7d493 7 = .ok (.getfield 15, 3) := by decide +kernel
theorem dJ0_coder_7d493_10 : decode cJ0_coder_7d493 10 = .ok (.goto 4, 3) := by decide +kernel
theorem dJ0_coder_7d493_13 : decode cJ0_coder_7d493 13 = .ok (.iconst 1, 1) := by decide +kernel
theorem dJ0_coder_7d493_14 : decode cJ0_coder_7d493 14 = .ok (.ireturn, 1) := by decide +kernel
theorem dJ0_isLatin1_aae02_0 : decode cJ0_isLatin1_aae02 0 = .ok (.getstatic 38, 3) := by decide +kernel
theorem dJ0_isLatin1_aae02_3 : decode cJ0_isLatin1_aae02 3 = .ok (.ifCond .eq 14, 3) := by decide +kernel
theorem dJ0_isLatin1_aae02_6 : decode cJ0_isLatin1_aae02 6 = .ok (.aload_n 0, 1) := by decide +kernel
theorem dJ0_isLatin1_aae02_7 : decode cJ0_isLatin1_aae02 7 = .ok (.getfield 15, 3) := by decide +kernel
theorem dJ0_isLatin1_aae02_10 : decode cJ0_isLatin1_aae02 10 = .ok (.ifCond .ne 7, 3) := by decide +kernel
theorem dJ0_isLatin1_aae02_13 : decode cJ0_isLatin1_aae02 13 = .ok (.iconst 1, 1) := by decide +kernel
theorem dJ0_isLatin1_aae02_14 : decode cJ0_isLatin1_aae02 14 = .ok (.goto 4, 3) := by decide +kernel
theorem dJ0_isLatin1_aae02_17 : decode cJ0_isLatin1_aae02 17 = .ok (.iconst 0, 1) := by decide +kernel
theorem dJ0_isLatin1_aae02_18 : decode cJ0_isLatin1_aae02 18 = .ok (.ireturn, 1) := by decide +kernel
theorem dJ0_checkIndex_df160_0 : decode cJ0_checkIndex_df160 0 = .ok (.iload_n 0, 1) := by decide +kernel
theorem dJ0_checkIndex_df160_1 : decode cJ0_checkIndex_df160 1 = .ok (.iload_n 1, 1) := by decide +kernel
theorem dJ0_checkIndex_df160_2 : decode cJ0_checkIndex_df160 2 = .ok (.getstatic 1053, 3) := by decide +kernel
theorem dJ0_checkIndex_df160_5 : decode cJ0_checkIndex_df160 5 = .ok (.invokestatic 1059, 3) := by decide +kernel
theorem dJ0_checkIndex_df160_8 : decode cJ0_checkIndex_df160 8 = .ok (.pop, 1) := by decide +kernel
theorem dJ0_checkIndex_df160_9 : decode cJ0_checkIndex_df160 9 = .ok (.return_, 1) := by decide +kernel
theorem dJ0_checkBoundsBeginEnd_23922_0 : decode cJ0_checkBoundsBeginEnd_23922 0 = .ok (.iload_n 0, 1) := by decide +kernel
theorem dJ0_checkBoundsBeginEnd_23922_1 : decode cJ0_checkBoundsBeginEnd_23922 1 = .ok (.iload_n 1, 1) := by decide +kernel
theorem dJ0_checkBoundsBeginEnd_23922_2 : decode cJ0_checkBoundsBeginEnd_23922 2 = .ok (.iload_n 2, 1) := by decide +kernel
theorem dJ0_checkBoundsBeginEnd_23922_3 : decode cJ0_checkBoundsBeginEnd_23922 3 = .ok (.getstatic 1053, 3) := by decide +kernel
theorem dJ0_checkBoundsBeginEnd_23922_6 : decode cJ0_checkBoundsBeginEnd_23922 6 = .ok (.invokestatic 1062, 3) := by decide +kernel
theorem dJ0_checkBoundsBeginEnd_23922_9 : decode cJ0_checkBoundsBeginEnd_23922 9 = .ok (.pop, 1) := by decide +kernel
theorem dJ0_checkBoundsBeginEnd_23922_10 : decode cJ0_checkBoundsBeginEnd_23922 10 = .ok (.return_, 1) := by decide +kernel
theorem dJ1_charAt_3b067_0 : decode cJ1_charAt_3b067 0 = .ok (.iload_n 1, 1) := by decide +kernel
theorem dJ1_charAt_3b067_1 : decode cJ1_charAt_3b067 1 = .ok (.aload_n 0, 1) := by decide +kernel
theorem dJ1_charAt_3b067_2 : decode cJ1_charAt_3b067 2 = .ok (.arraylength, 1) := by decide +kernel
theorem dJ1_charAt_3b067_3 : decode cJ1_charAt_3b067 3 = .ok (.invokestatic 9, 3) := by decide +kernel
theorem dJ1_charAt_3b067_6 : decode cJ1_charAt_3b067 6 = .ok (.aload_n 0, 1) := by decide +kernel
theorem dJ1_charAt_3b067_7 : decode cJ1_charAt_3b067 7 = .ok (.iload_n 1, 1) := by decide +kernel
theorem dJ1_charAt_3b067_8 : decode cJ1_charAt_3b067 8 = .ok (.baload, 1) := by decide +kernel
theorem dJ1_charAt_3b067_9 : decode cJ1_charAt_3b067 9 = .ok (.sipush 255, 3) := by decide +kernel
theorem dJ1_charAt_3b067_12 : decode cJ1_charAt_3b067 12 = .ok (.iand, 1) := by decide +kernel
theorem dJ1_charAt_3b067_13 : decode cJ1_charAt_3b067 13 = .ok (.i2c, 1) := by decide +kernel
theorem dJ1_charAt_3b067_14 : decode cJ1_charAt_3b067 14 = .ok (.ireturn, 1) := by decide +kernel
theorem dJ1_canEncode_9a6ad_0 : decode cJ1_canEncode_9a6ad 0 = .ok (.iload_n 0, 1) := by decide +kernel
theorem dJ1_canEncode_9a6ad_1 : decode cJ1_canEncode_9a6ad 1 = .ok (.ifCond .lt 14, 3) := by decide +kernel
theorem dJ1_canEncode_9a6ad_4 : decode cJ1_canEncode_9a6ad 4 = .ok (.iload_n 0, 1) := by decide +kernel
theorem dJ1_canEncode_9a6ad_5 : decode cJ1_canEncode_9a6ad 5 = .ok (.sipush 255, 3) := by decide +kernel
theorem dJ1_canEncode_9a6ad_8 : decode cJ1_canEncode_9a6ad 8 = .ok (.if_icmp .gt 7, 3) := by decide +kernel
theorem dJ1_canEncode_9a6ad_11 : decode cJ1_canEncode_9a6ad 11 = .ok (.iconst 1, 1) := by decide +kernel
theorem dJ1_canEncode_9a6ad_12 : decode cJ1_canEncode_9a6ad 12 = .ok (.goto 4, 3) := by decide +kernel
theorem dJ1_canEncode_9a6ad_15 : decode cJ1_canEncode_9a6ad 15 = .ok (.iconst 0, 1) := by decide +kernel
theorem dJ1_canEncode_9a6ad_16 : decode cJ1_canEncode_9a6ad 16 = .ok (.ireturn, 1) := by decide +kernel
theorem dJ1_indexOf_4cfef_0 : decode cJ1_indexOf_4cfef 0 = .ok (.iload_n 1, 1) := by decide +kernel
theorem dJ1_indexOf_4cfef_1 : decode cJ1_indexOf_4cfef 1 = .ok (.invokestatic 88, 3) := by decide +kernel
theorem dJ1_indexOf_4cfef_4 : decode cJ1_indexOf_4cfef 4 = .ok (.ifCond .ne 5, 3) := by decide +kernel
theorem dJ1_indexOf_4cfef_7 : decode cJ1_indexOf_4cfef 7 = .ok (.iconst (-1), 1) := by decide +kernel
theorem dJ1_indexOf_4cfef_8 : decode cJ1_indexOf_4cfef 8 = .ok (.ireturn, 1) := by decide +kernel
theorem dJ1_indexOf_4cfef_9 : decode cJ1_indexOf_4cfef 9 = .ok (.iload_n 2, 1) := by decide +kernel
theorem dJ1_indexOf_4cfef_10 : decode cJ1_indexOf_4cfef 10 = .ok (.iconst 0, 1) := by decide +kernel
theorem dJ1_indexOf_4cfef_11 : decode cJ1_indexOf_4cfef 11 = .ok (.invokestatic 92, 3) := by decide +kernel
theorem dJ1_indexOf_4cfef_14 : decode cJ1_indexOf_4cfef 14 = .ok (.istore_n 2, 1) := by decide +kernel
theorem dJ1_indexOf_4cfef_15 : decode cJ1_indexOf_4cfef 15 = .ok (.iload_n 3, 1) := by decide +kernel
theorem dJ1_indexOf_4cfef_16 : decode cJ1_indexOf_4cfef 16 = .ok (.aload_n 0, 1) := by decide +kernel
theorem dJ1_indexOf_4cfef_17 : decode cJ1_indexOf_4cfef 17 = .ok (.arraylength, 1) := by decide +kernel
theorem dJ1_indexOf_4cfef_18 : decode cJ1_indexOf_4cfef 18 = .ok (.invokestatic 38, 3) := by decide +kernel
theorem dJ1_indexOf_4cfef_21 : decode cJ1_indexOf_4cfef 21 = .ok (.istore_n 3, 1) := by decide +kernel
theorem dJ1_indexOf_4cfef_22 : decode cJ1_indexOf_4cfef 22 = .ok (.iload_n 2, 1) := by decide +kernel
theorem dJ1_indexOf_4cfef_23 : decode cJ1_indexOf_4cfef 23 = .ok (.iload_n 3, 1) := by decide +kernel
theorem dJ1_indexOf_4cfef_24 : decode cJ1_indexOf_4cfef 24 = .ok (.if_icmp .lt 5, 3) := by decide +kernel
theorem dJ1_indexOf_4cfef_27 : decode cJ1_indexOf_4cfef 27 = .ok (.iconst (-1), 1) := by decide +kernel
theorem dJ1_indexOf_4cfef_28 : decode cJ1_indexOf_4cfef 28 = .ok (.ireturn, 1) := by decide +kernel
theorem dJ1_indexOf_4cfef_29 : decode cJ1_indexOf_4cfef 29 = .ok (.aload_n 0, 1) := by decide +kernel
theorem dJ1_indexOf_4cfef_30 : decode cJ1_indexOf_4cfef 30 = .ok (.iload_n 1, 1) := by decide +kernel
theorem dJ1_indexOf_4cfef_31 : decode cJ1_indexOf_4cfef 31 = .ok (.iload_n 2, 1) := by decide +kernel
theorem dJ1_indexOf_4cfef_32 : decode cJ1_indexOf_4cfef 32 = .ok (.iload_n 3, 1) := by decide +kernel
theorem dJ1_indexOf_4cfef_33 : decode cJ1_indexOf_4cfef 33 = .ok (.invokestatic 95, 3) := by decide +kernel
theorem dJ1_indexOf_4cfef_36 : decode cJ1_indexOf_4cfef 36 = .ok (.ireturn, 1) := by decide +kernel
theorem dJ1_indexOfChar_4cfef_0 : decode cJ1_indexOfChar_4cfef 0 = .ok (.iload_n 1, 1) := by decide +kernel
theorem dJ1_indexOfChar_4cfef_1 : decode cJ1_indexOfChar_4cfef 1 = .ok (.i2b, 1) := by decide +kernel
theorem dJ1_indexOfChar_4cfef_2 : decode cJ1_indexOfChar_4cfef 2 = .ok (.istore 4, 2) := by decide +kernel
theorem dJ1_indexOfChar_4cfef_4 : decode cJ1_indexOfChar_4cfef 4 = .ok (.iload_n 2, 1) := by decide +kernel
theorem dJ1_indexOfChar_4cfef_5 : decode cJ1_indexOfChar_4cfef 5 = .ok (.istore 5, 2) := by decide +kernel
theorem dJ1_indexOfChar_4cfef_7 : decode cJ1_indexOfChar_4cfef 7 = .ok (.iload 5, 2) := by decide +kernel
theorem dJ1_indexOfChar_4cfef_9 : decode cJ1_indexOfChar_4cfef 9 = .ok (.iload_n 3, 1) := by decide +kernel
theorem dJ1_indexOfChar_4cfef_10 : decode cJ1_indexOfChar_4cfef 10 = .ok (.if_icmp .ge 21, 3) := by decide +kernel
theorem dJ1_indexOfChar_4cfef_13 : decode cJ1_indexOfChar_4cfef 13 = .ok (.aload_n 0, 1) := by decide +kernel
theorem dJ1_indexOfChar_4cfef_14 : decode cJ1_indexOfChar_4cfef 14 = .ok (.iload 5, 2) := by decide +kernel
theorem dJ1_indexOfChar_4cfef_16 : decode cJ1_indexOfChar_4cfef 16 = .ok (.baload, 1) := by decide +kernel
theorem dJ1_indexOfChar_4cfef_17 : decode cJ1_indexOfChar_4cfef 17 = .ok (.iload 4, 2) := by decide +kernel
theorem dJ1_indexOfChar_4cfef_19 : decode cJ1_indexOfChar_4cfef 19 = .ok (.if_icmp .ne 6, 3) := by decide +kernel
theorem dJ1_indexOfChar_4cfef_22 : decode cJ1_indexOfChar_4cfef 22 = .ok (.iload 5, 2) := by decide +kernel
theorem dJ1_indexOfChar_4cfef_24 : decode cJ1_indexOfChar_4cfef 24 = .ok (.ireturn, 1) := by decide +kernel
theorem dJ1_indexOfChar_4cfef_25 : decode cJ1_indexOfChar_4cfef 25 = .ok (.iinc 5 1, 3) := by decide +kernel
theorem dJ1_indexOfChar_4cfef_28 : decode cJ1_indexOfChar_4cfef 28 = .ok (.goto (-21), 3) := by decide +kernel
theorem dJ1_indexOfChar_4cfef_31 : decode cJ1_indexOfChar_4cfef 31 = .ok (.iconst (-1), 1) := by decide +kernel
theorem dJ1_indexOfChar_4cfef_32 : decode cJ1_indexOfChar_4cfef 32 = .ok (.ireturn, 1) := by decide +kernel
theorem dJ2_getChar_3b067_0 : decode cJ2_getChar_3b067 0 = .ok (.getstatic 44, 3) := by decide +kernel
theorem dJ2_getChar_3b067_3 : decode cJ2_getChar_3b067 3 = .ok (.ifCond .ne 25, 3) := by decide +kernel
theorem dJ2_getChar_3b067_6 : decode cJ2_getChar_3b067 6 = .ok (.iload_n 1, 1) := by decide +kernel
theorem dJ2_getChar_3b067_7 : decode cJ2_getChar_3b067 7 = .ok (.ifCond .lt 11, 3) := by decide +kernel
theorem dJ2_getChar_3b067_10 : decode cJ2_getChar_3b067 10 = .ok (.iload_n 1, 1) := by decide +kernel
theorem dJ2_getChar_3b067_11 : decode cJ2_getChar_3b067 11 = .ok (.aload_n 0, 1) := by decide +kernel
theorem dJ2_getChar_3b067_12 : decode cJ2_getChar_3b067 12 = .ok (.invokestatic 48, 3) := by decide +kernel
theorem dJ2_getChar_3b067_15 : decode cJ2_getChar_3b067 15 = .ok (.if_icmp .lt 13, 3) := by decide +kernel
theorem dJ2_getChar_3b067_18 : decode cJ2_getChar_3b067 18 = .ok (.new 52, 3) := by decide +kernel
theorem dJ2_getChar_3b067_21 : decode cJ2_getChar_3b067 21 = .ok (.dup, 1) := by decide +kernel
theorem dJ2_getChar_3b067_22 : decode cJ2_getChar_3b067 22 = .ok (.ldc 54, 2) := by decide +kernel
theorem dJ2_getChar_3b067_24 : decode cJ2_getChar_3b067 24 = .ok (.invokespecial 56, 3) := by decide +kernel
theorem dJ2_getChar_3b067_27 : decode cJ2_getChar_3b067 27 = .ok (.athrow, 1) := by decide +kernel
theorem dJ2_getChar_3b067_28 : decode cJ2_getChar_3b067 28 = .ok (.iload_n 1, 1) := by decide +kernel
theorem dJ2_getChar_3b067_29 : decode cJ2_getChar_3b067 29 = .ok (.iconst 1, 1) := by decide +kernel
theorem dJ2_getChar_3b067_30 : decode cJ2_getChar_3b067 30 = .ok (.ishl, 1) := by decide +kernel
theorem dJ2_getChar_3b067_31 : decode cJ2_getChar_3b067 31 = .ok (.istore_n 1, 1) := by decide +kernel
theorem dJ2_getChar_3b067_32 : decode cJ2_getChar_3b067 32 = .ok (.aload_n 0, 1) := by decide +kernel
theorem dJ2_getChar_3b067_33 : decode cJ2_getChar_3b067 33 = .ok (.iload_n 1, 1) := by decide +kernel
theorem dJ2_getChar_3b067_34 : decode cJ2_getChar_3b067 34 = .ok (.iinc 1 1, 3) := by decide +kernel
theorem dJ2_getChar_3b067_37 : decode cJ2_getChar_3b067 37 = .ok (.baload, 1) := by decide +kernel
theorem dJ2_getChar_3b067_38 : decode cJ2_getChar_3b067 38 = .ok (.sipush 255, 3) := by decide +kernel
theorem dJ2_getChar_3b067_41 : decode cJ2_getChar_3b067 41 = .ok (.iand, 1) := by decide +kernel
theorem dJ2_getChar_3b067_42 : decode cJ2_getChar_3b067 42 = .ok (.getstatic 59, 3) := by decide +kernel
theorem dJ2_getChar_3b067_45 : decode cJ2_getChar_3b067 45 = .ok (.ishl, 1) := by decide +kernel
theorem dJ2_getChar_3b067_46 : decode cJ2_getChar_3b067 46 = .ok (.aload_n 0, 1) := by decide +kernel
theorem dJ2_getChar_3b067_47 : decode cJ2_getChar_3b067 47 = .ok (.iload_n 1, 1) := by decide +kernel
theorem dJ2_getChar_3b067_48 : decode cJ2_getChar_3b067 48 = .ok (.baload, 1) := by decide +kernel
theorem dJ2_getChar_3b067_49 : decode cJ2_getChar_3b067 49 = .ok (.sipush 255, 3) := by decide +kernel
theorem dJ2_getChar_3b067_52 : decode cJ2_getChar_3b067 52 = .ok (.iand, 1) := by decide +kernel
theorem dJ2_getChar_3b067_53 : decode cJ2_getChar_3b067 53 = .ok (.getstatic 63, 3) := by decide +kernel
theorem dJ2_getChar_3b067_56 : decode cJ2_getChar_3b067 56 = .ok (.ishl, 1) := by decide +kernel
theorem dJ2_getChar_3b067_57 : decode cJ2_getChar_3b067 57 = .ok (.ior, 1) := by decide +kernel
theorem dJ2_getChar_3b067_58 : decode cJ2_getChar_3b067 58 = .ok (.i2c, 1) := by decide +kernel
theorem dJ2_getChar_3b067_59 : decode cJ2_getChar_3b067 59 = .ok (.ireturn, 1) := by decide +kernel
theorem dJ2_length_9d52b_0 : decode cJ2_length_9d52b 0 = .ok (.aload_n 0, 1) := by decide +kernel
theorem dJ2_length_9d52b_1 : decode cJ2_length_9d52b 1 = .ok (.arraylength, 1) := by decide +kernel
theorem dJ2_length_9d52b_2 : decode cJ2_length_9d52b 2 = .ok (.iconst 1, 1) := by decide +kernel
theorem dJ2_length_9d52b_3 : decode cJ2_length_9d52b 3 = .ok (.ishr, 1) := by decide +kernel
theorem dJ2_length_9d52b_4 : decode cJ2_length_9d52b 4 = .ok (.ireturn, 1) := by decide +kernel
theorem dJ2_indexOf_4cfef_0 : decode cJ2_indexOf_4cfef 0 = .ok (.iload_n 2, 1) := by decide +kernel
theorem dJ2_indexOf_4cfef_1 : decode cJ2_indexOf_4cfef 1 = .ok (.iconst 0, 1) := by decide +kernel
theorem dJ2_indexOf_4cfef_2 : decode cJ2_indexOf_4cfef 2 = .ok (.invokestatic 224, 3) := by decide +kernel
theorem dJ2_indexOf_4cfef_5 : decode cJ2_indexOf_4cfef 5 = .ok (.istore_n 2, 1) := by decide +kernel
theorem dJ2_indexOf_4cfef_6 : decode cJ2_indexOf_4cfef 6 = .ok (.iload_n 3, 1) := by decide +kernel
theorem dJ2_indexOf_4cfef_7 : decode cJ2_indexOf_4cfef 7 = .ok (.aload_n 0, 1) := by decide +kernel
theorem dJ2_indexOf_4cfef_8 : decode cJ2_indexOf_4cfef 8 = .ok (.arraylength, 1) := by decide +kernel
theorem dJ2_indexOf_4cfef_9 : decode cJ2_indexOf_4cfef 9 = .ok (.iconst 1, 1) := by decide +kernel
theorem dJ2_indexOf_4cfef_10 : decode cJ2_indexOf_4cfef 10 = .ok (.ishr, 1) := by decide +kernel
theorem dJ2_indexOf_4cfef_11 : decode cJ2_indexOf_4cfef 11 = .ok (.invokestatic 183, 3) := by decide +kernel
theorem dJ2_indexOf_4cfef_14 : decode cJ2_indexOf_4cfef 14 = .ok (.istore_n 3, 1) := by decide +kernel
theorem dJ2_indexOf_4cfef_15 : decode cJ2_indexOf_4cfef 15 = .ok (.iload_n 2, 1) := by decide +kernel
theorem dJ2_indexOf_4cfef_16 : decode cJ2_indexOf_4cfef 16 = .ok (.iload_n 3, 1) := by decide +kernel
theorem dJ2_indexOf_4cfef_17 : decode cJ2_indexOf_4cfef 17 = .ok (.if_icmp .lt 5, 3) := by decide +kernel
theorem dJ2_indexOf_4cfef_20 : decode cJ2_indexOf_4cfef 20 = .ok (.iconst (-1), 1) := by decide +kernel
theorem dJ2_indexOf_4cfef_21 : decode cJ2_indexOf_4cfef 21 = .ok (.ireturn, 1) := by decide +kernel
theorem dJ2_indexOf_4cfef_22 : decode cJ2_indexOf_4cfef 22 = .ok (.iload_n 1, 1) := by decide +kernel
theorem dJ2_indexOf_4cfef_23 : decode cJ2_indexOf_4cfef 23 = .ok (.ldc 227, 2) := by decide +kernel
theorem dJ2_indexOf_4cfef_25 : decode cJ2_indexOf_4cfef 25 = .ok (.if_icmp .ge 11, 3) := by decide +kernel
theorem dJ2_indexOf_4cfef_28 : decode cJ2_indexOf_4cfef 28 = .ok (.aload_n 0, 1) := by decide +kernel
theorem dJ2_indexOf_4cfef_29 : decode cJ2_indexOf_4cfef 29 = .ok (.iload_n 1, 1) := by decide +kernel
theorem dJ2_indexOf_4cfef_30 : decode cJ2_indexOf_4cfef 30 = .ok (.iload_n 2, 1) := by decide +kernel
theorem dJ2_indexOf_4cfef_31 : decode cJ2_indexOf_4cfef 31 = .ok (.iload_n 3, 1) := by decide +kernel
theorem dJ2_indexOf_4cfef_32 : decode cJ2_indexOf_4cfef 32 = .ok (.invokestatic 228, 3) := by decide +kernel
theorem dJ2_indexOf_4cfef_35 : decode cJ2_indexOf_4cfef 35 = .ok (.ireturn, 1) := by decide +kernel
theorem dJ2_indexOf_4cfef_36 : decode cJ2_indexOf_4cfef 36 = .ok (.aload_n 0, 1) := by decide +kernel
theorem dJ2_indexOf_4cfef_37 : decode cJ2_indexOf_4cfef 37 = .ok (.iload_n 1, 1) := by decide +kernel
theorem dJ2_indexOf_4cfef_38 : decode cJ2_indexOf_4cfef 38 = .ok (.iload_n 2, 1) := by decide +kernel
theorem dJ2_indexOf_4cfef_39 : decode cJ2_indexOf_4cfef 39 = .ok (.iload_n 3, 1) := by decide +kernel
theorem dJ2_indexOf_4cfef_40 : decode cJ2_indexOf_4cfef 40 = .ok (.invokestatic 232, 3) := by decide +kernel
theorem dJ2_indexOf_4cfef_43 : decode cJ2_indexOf_4cfef 43 = .ok (.ireturn, 1) := by decide +kernel
theorem dJ2_indexOfChar_4cfef_0 : decode cJ2_indexOfChar_4cfef 0 = .ok (.iload_n 2, 1) := by decide +kernel
theorem dJ2_indexOfChar_4cfef_1 : decode cJ2_indexOfChar_4cfef 1 = .ok (.iload_n 3, 1) := by decide +kernel
theorem dJ2_indexOfChar_4cfef_2 : decode cJ2_indexOfChar_4cfef 2 = .ok (.aload_n 0, 1) := by decide +kernel
theorem dJ2_indexOfChar_4cfef_3 : decode cJ2_indexOfChar_4cfef 3 = .ok (.invokestatic 96, 3) := by decide +kernel
theorem dJ2_indexOfChar_4cfef_6 : decode cJ2_indexOfChar_4cfef 6 = .ok (.aload_n 0, 1) := by decide +kernel
theorem dJ2_indexOfChar_4cfef_7 : decode cJ2_indexOfChar_4cfef 7 = .ok (.iload_n 1, 1) := by decide +kernel
theorem dJ2_indexOfChar_4cfef_8 : decode cJ2_indexOfChar_4cfef 8 = .ok (.iload_n 2, 1) := by decide +kernel
theorem dJ2_indexOfChar_4cfef_9 : decode cJ2_indexOfChar_4cfef 9 = .ok (.iload_n 3, 1) := by decide +kernel
theorem dJ2_indexOfChar_4cfef_10 : decode cJ2_indexOfChar_4cfef 10 = .ok (.invokestatic 244, 3) := by decide +kernel
theorem dJ2_indexOfChar_4cfef_13 : decode cJ2_indexOfChar_4cfef 13 = .ok (.ireturn, 1) := by decide +kernel
theorem dJ2_indexOfCharUnsafe_4cfef_0 : decode cJ2_indexOfCharUnsafe_4cfef 0 = .ok (.iload_n 2, 1) := by decide +kernel
theorem dJ2_indexOfCharUnsafe_4cfef_1 : decode cJ2_indexOfCharUnsafe_4cfef 1 = .ok (.istore 4, 2) := by decide +kernel
theorem dJ2_indexOfCharUnsafe_4cfef_3 : decode cJ2_indexOfCharUnsafe_4cfef 3 = .ok (.iload 4, 2) := by decide +kernel
theorem dJ2_indexOfCharUnsafe_4cfef_5 : decode cJ2_indexOfCharUnsafe_4cfef 5 = .ok (.iload_n 3, 1) := by decide +kernel
theorem dJ2_indexOfCharUnsafe_4cfef_6 : decode cJ2_indexOfCharUnsafe_4cfef 6 = .ok (.if_icmp .ge 22, 3) := by decide +kernel
theorem dJ2_indexOfCharUnsafe_4cfef_9 : decode cJ2_indexOfCharUnsafe_4cfef 9 = .ok (.aload_n 0, 1) := by decide +kernel
theorem dJ2_indexOfCharUnsafe_4cfef_10 : decode cJ2_indexOfCharUnsafe_4cfef 10 = .ok (.iload 4, 2) := by decide +kernel
theorem dJ2_indexOfCharUnsafe_4cfef_12 : decode cJ2_indexOfCharUnsafe_4cfef 12 = .ok (.invokestatic 71, 3) := by decide +kernel
theorem dJ2_indexOfCharUnsafe_4cfef_15 : decode cJ2_indexOfCharUnsafe_4cfef 15 = .ok (.iload_n 1, 1) := by decide +kernel
theorem dJ2_indexOfCharUnsafe_4cfef_16 : decode cJ2_indexOfCharUnsafe_4cfef 16 = .ok (.if_icmp .ne 6, 3) := by decide +kernel
theorem dJ2_indexOfCharUnsafe_4cfef_19 : decode cJ2_indexOfCharUnsafe_4cfef 19 = .ok (.iload 4, 2) := by decide +kernel
theorem dJ2_indexOfCharUnsafe_4cfef_21 : decode cJ2_indexOfCharUnsafe_4cfef 21 = .ok (.ireturn, 1) := by decide +kernel
theorem dJ2_indexOfCharUnsafe_4cfef_22 : decode cJ2_indexOfCharUnsafe_4cfef 22 = .ok (.iinc 4 1, 3) := by decide +kernel
theorem dJ2_indexOfCharUnsafe_4cfef_25 : decode cJ2_indexOfCharUnsafe_4cfef 25 = .ok (.goto (-22), 3) := by decide +kernel
theorem dJ2_indexOfCharUnsafe_4cfef_28 : decode cJ2_indexOfCharUnsafe_4cfef 28 = .ok (.iconst (-1), 1) := by decide +kernel
theorem dJ2_indexOfCharUnsafe_4cfef_29 : decode cJ2_indexOfCharUnsafe_4cfef 29 = .ok (.ireturn, 1) := by decide +kernel
theorem dJ2_indexOfSupplementary_4cfef_0 : decode cJ2_indexOfSupplementary_4cfef 0 = .ok (.iload_n 1, 1) := by decide +kernel
theorem dJ2_indexOfSupplementary_4cfef_1 : decode cJ2_indexOfSupplementary_4cfef 1 = .ok (.invokestatic 164, 3) := by decide +kernel
theorem dJ2_indexOfSupplementary_4cfef_4 : decode cJ2_indexOfSupplementary_4cfef 4 = .ok (.ifCond .eq 65, 3) := by decide +kernel
theorem dJ2_indexOfSupplementary_4cfef_7 : decode cJ2_indexOfSupplementary_4cfef 7 = .ok (.iload_n 1, 1) := by decide +kernel
theorem dJ2_indexOfSupplementary_4cfef_8 : decode cJ2_indexOfSupplementary_4cfef 8 = .ok (.invokestatic 157, 3) := by decide +kernel
theorem dJ2_indexOfSupplementary_4cfef_11 : decode cJ2_indexOfSupplementary_4cfef 11 = .ok (.istore 4, 2) := by decide +kernel
theorem dJ2_indexOfSupplementary_4cfef_13 : decode cJ2_indexOfSupplementary_4cfef 13 = .ok (.iload_n 1, 1) := by decide +kernel
theorem dJ2_indexOfSupplementary_4cfef_14 : decode cJ2_indexOfSupplementary_4cfef 14 = .ok (.invokestatic 161, 3) := by decide +kernel
theorem dJ2_indexOfSupplementary_4cfef_17 : decode cJ2_indexOfSupplementary_4cfef 17 = .ok (.istore 5, 2) := by decide +kernel
theorem dJ2_indexOfSupplementary_4cfef_19 : decode cJ2_indexOfSupplementary_4cfef 19 = .ok (.iload_n 2, 1) := by decide +kernel
theorem dJ2_indexOfSupplementary_4cfef_20 : decode cJ2_indexOfSupplementary_4cfef 20 = .ok (.iload_n 3, 1) := by decide +kernel
theorem dJ2_indexOfSupplementary_4cfef_21 : decode cJ2_indexOfSupplementary_4cfef 21 = .ok (.aload_n 0, 1) := by decide +kernel
theorem dJ2_indexOfSupplementary_4cfef_22 : decode cJ2_indexOfSupplementary_4cfef 22 = .ok (.invokestatic 96, 3) := by decide +kernel
theorem dJ2_indexOfSupplementary_4cfef_25 : decode cJ2_indexOfSupplementary_4cfef 25 = .ok (.iload_n 2, 1) := by decide +kernel
theorem dJ2_indexOfSupplementary_4cfef_26 : decode cJ2_indexOfSupplementary_4cfef 26 = .ok (.istore 6, 2) := by decide +kernel
theorem dJ2_indexOfSupplementary_4cfef_28 : decode cJ2_indexOfSupplementary_4cfef 28 = .ok (.iload 6, 2) := by decide +kernel
theorem dJ2_indexOfSupplementary_4cfef_30 : decode cJ2_indexOfSupplementary_4cfef 30 = .ok (.iload_n 3, 1) := by decide +kernel
theorem dJ2_indexOfSupplementary_4cfef_31 : decode cJ2_indexOfSupplementary_4cfef 31 = .ok (.iconst 1, 1) := by decide +kernel
theorem dJ2_indexOfSupplementary_4cfef_32 : decode cJ2_indexOfSupplementary_4cfef 32 = .ok (.isub, 1) := by decide +kernel
theorem dJ2_indexOfSupplementary_4cfef_33 : decode cJ2_indexOfSupplementary_4cfef 33 = .ok (.if_icmp .ge 36, 3) := by decide +kernel
theorem dJ2_indexOfSupplementary_4cfef_36 : decode cJ2_indexOfSupplementary_4cfef 36 = .ok (.aload_n 0, 1) := by decide +kernel
theorem dJ2_indexOfSupplementary_4cfef_37 : decode cJ2_indexOfSupplementary_4cfef 37 = .ok (.iload 6, 2) := by decide +kernel
theorem dJ2_indexOfSupplementary_4cfef_39 : decode cJ2_indexOfSupplementary_4cfef 39 = .ok (.invokestatic 71, 3) := by decide +kernel
theorem dJ2_indexOfSupplementary_4cfef_42 : decode cJ2_indexOfSupplementary_4cfef 42 = .ok (.iload 4, 2) := by decide +kernel
theorem dJ2_indexOfSupplementary_4cfef_44 : decode cJ2_indexOfSupplementary_4cfef 44 = .ok (.if_icmp .ne 19, 3) := by decide +kernel
theorem dJ2_indexOfSupplementary_4cfef_47 : decode cJ2_indexOfSupplementary_4cfef 47 = .ok (.aload_n 0, 1) := by decide +kernel
theorem dJ2_indexOfSupplementary_4cfef_48 : decode cJ2_indexOfSupplementary_4cfef 48 = .ok (.iload 6, 2) := by decide +kernel
theorem dJ2_indexOfSupplementary_4cfef_50 : decode cJ2_indexOfSupplementary_4cfef 50 = .ok (.iconst 1, 1) := by decide +kernel
theorem dJ2_indexOfSupplementary_4cfef_51 : decode cJ2_indexOfSupplementary_4cfef 51 = .ok (.iadd, 1) := by decide +kernel
theorem dJ2_indexOfSupplementary_4cfef_52 : decode cJ2_indexOfSupplementary_4cfef 52 = .ok (.invokestatic 71, 3) := by decide +kernel
theorem dJ2_indexOfSupplementary_4cfef_55 : decode cJ2_indexOfSupplementary_4cfef 55 = .ok (.iload 5, 2) := by decide +kernel
theorem dJ2_indexOfSupplementary_4cfef_57 : decode cJ2_indexOfSupplementary_4cfef 57 = .ok (.if_icmp .ne 6, 3) := by decide +kernel
theorem dJ2_indexOfSupplementary_4cfef_60 : decode cJ2_indexOfSupplementary_4cfef 60 = .ok (.iload 6, 2) := by decide +kernel
theorem dJ2_indexOfSupplementary_4cfef_62 : decode cJ2_indexOfSupplementary_4cfef 62 = .ok (.ireturn, 1) := by decide +kernel
theorem dJ2_indexOfSupplementary_4cfef_63 : decode cJ2_indexOfSupplementary_4cfef 63 = .ok (.iinc 6 1, 3) := by decide +kernel
theorem dJ2_indexOfSupplementary_4cfef_66 : decode cJ2_indexOfSupplementary_4cfef 66 = .ok (.goto (-38), 3) := by decide +kernel
theorem dJ2_indexOfSupplementary_4cfef_69 : decode cJ2_indexOfSupplementary_4cfef 69 = .ok (.iconst (-1), 1) := by decide +kernel
theorem dJ2_indexOfSupplementary_4cfef_70 : decode cJ2_indexOfSupplementary_4cfef 70 = .ok (.ireturn, 1) := by decide +kernel
theorem dJ2_charAt_3b067_0 : decode cJ2_charAt_3b067 0 = .ok (.iload_n 1, 1) := by decide +kernel
theorem dJ2_charAt_3b067_1 : decode cJ2_charAt_3b067 1 = .ok (.aload_n 0, 1) := by decide +kernel
theorem dJ2_charAt_3b067_2 : decode cJ2_charAt_3b067 2 = .ok (.invokestatic 67, 3) := by decide +kernel
theorem dJ2_charAt_3b067_5 : decode cJ2_charAt_3b067 5 = .ok (.aload_n 0, 1) := by decide +kernel
theorem dJ2_charAt_3b067_6 : decode cJ2_charAt_3b067 6 = .ok (.iload_n 1, 1) := by decide +kernel
theorem dJ2_charAt_3b067_7 : decode cJ2_charAt_3b067 7 = .ok (.invokestatic 71, 3) := by decide +kernel
theorem dJ2_charAt_3b067_10 : decode cJ2_charAt_3b067 10 = .ok (.ireturn, 1) := by decide +kernel
theorem dJ2_checkIndex_2214a_0 : decode cJ2_checkIndex_2214a 0 = .ok (.iload_n 0, 1) := by decide +kernel
theorem dJ2_checkIndex_2214a_1 : decode cJ2_checkIndex_2214a 1 = .ok (.aload_n 1, 1) := by decide +kernel
theorem dJ2_checkIndex_2214a_2 : decode cJ2_checkIndex_2214a 2 = .ok (.invokestatic 48, 3) := by decide +kernel
theorem dJ2_checkIndex_2214a_5 : decode cJ2_checkIndex_2214a 5 = .ok (.invokestatic 414, 3) := by decide +kernel
theorem dJ2_checkIndex_2214a_8 : decode cJ2_checkIndex_2214a 8 = .ok (.return_, 1) := by decide +kernel
theorem dJ2_checkBoundsBeginEnd_d044e_0 : decode cJ2_checkBoundsBeginEnd_d044e 0 = .ok (.iload_n 0, 1) := by decide +kernel
theorem dJ2_checkBoundsBeginEnd_d044e_1 : decode cJ2_checkBoundsBeginEnd_d044e 1 = .ok (.iload_n 1, 1) := by decide +kernel
theorem dJ2_checkBoundsBeginEnd_d044e_2 : decode cJ2_checkBoundsBeginEnd_d044e 2 = .ok (.aload_n 2, 1) := by decide +kernel
theorem dJ2_checkBoundsBeginEnd_d044e_3 : decode cJ2_checkBoundsBeginEnd_d044e 3 = .ok (.invokestatic 48, 3) := by decide +kernel
theorem dJ2_checkBoundsBeginEnd_d044e_6 : decode cJ2_checkBoundsBeginEnd_d044e 6 = .ok (.invokestatic 241, 3) := by decide +kernel
theorem dJ2_checkBoundsBeginEnd_d044e_9 : decode cJ2_checkBoundsBeginEnd_d044e 9 = .ok (.return_, 1) := by decide +kernel
theorem dJ7_fill_53178_0 : decode cJ7_fill_53178 0 = .ok (.iconst 0, 1) := by decide +kernel
theorem dJ7_fill_53178_1 : decode cJ7_fill_53178 1 = .ok (.istore_n 2, 1) := by decide +kernel
theorem dJ7_fill_53178_2 : decode cJ7_fill_53178 2 = .ok (.aload_n 0, 1) := by decide +kernel
theorem dJ7_fill_53178_3 : decode cJ7_fill_53178 3 = .ok (.arraylength, 1) := by decide +kernel
theorem dJ7_fill_53178_4 : decode cJ7_fill_53178 4 = .ok (.istore_n 3, 1) := by decide +kernel
theorem dJ7_fill_53178_5 : decode cJ7_fill_53178 5 = .ok (.iload_n 2, 1) := by decide +kernel
theorem dJ7_fill_53178_6 : decode cJ7_fill_53178 6 = .ok (.iload_n 3, 1) := by decide +kernel
theorem dJ7_fill_53178_7 : decode cJ7_fill_53178 7 = .ok (.if_icmp .ge 13, 3) := by decide +kernel
theorem dJ7_fill_53178_10 : decode cJ7_fill_53178 10 = .ok (.aload_n 0, 1) := by decide +kernel
theorem dJ7_fill_53178_11 : decode cJ7_fill_53178 11 = .ok (.iload_n 2, 1) := by decide +kernel
theorem dJ7_fill_53178_12 : decode cJ7_fill_53178 12 = .ok (.iload_n 1, 1) := by decide +kernel
theorem dJ7_fill_53178_13 : decode cJ7_fill_53178 13 = .ok (.iastore, 1) := by decide +kernel
theorem dJ7_fill_53178_14 : decode cJ7_fill_53178 14 = .ok (.iinc 2 1, 3) := by decide +kernel
theorem dJ7_fill_53178_17 : decode cJ7_fill_53178 17 = .ok (.goto (-12), 3) := by decide +kernel
theorem dJ7_fill_53178_20 : decode cJ7_fill_53178 20 = .ok (.return_, 1) := by decide +kernel
theorem dJ3_checkIndex_8e157_0 : decode cJ3_checkIndex_8e157 0 = .ok (.iload_n 0, 1) := by decide +kernel
theorem dJ3_checkIndex_8e157_1 : decode cJ3_checkIndex_8e157 1 = .ok (.ifCond .lt 8, 3) := by decide +kernel
theorem dJ3_checkIndex_8e157_4 : decode cJ3_checkIndex_8e157 4 = .ok (.iload_n 0, 1) := by decide +kernel
theorem dJ3_checkIndex_8e157_5 : decode cJ3_checkIndex_8e157 5 = .ok (.iload_n 1, 1) := by decide +kernel
theorem dJ3_checkIndex_8e157_6 : decode cJ3_checkIndex_8e157 6 = .ok (.if_icmp .lt 10, 3) := by decide +kernel
theorem dJ3_checkIndex_8e157_9 : decode cJ3_checkIndex_8e157 9 = .ok (.aload_n 2, 1) := by decide +kernel
theorem dJ3_checkIndex_8e157_10 : decode cJ3_checkIndex_8e157 10 = .ok (.iload_n 0, 1) := by decide +kernel
theorem dJ3_checkIndex_8e157_11 : decode cJ3_checkIndex_8e157 11 = .ok (.iload_n 1, 1) := by decide +kernel
theorem dJ3_checkIndex_8e157_12 : decode cJ3_checkIndex_8e157 12 = .ok (.invokestatic 95, 3) := by decide +kernel
theorem dJ3_checkIndex_8e157_15 : decode cJ3_checkIndex_8e157 15 = .ok (.athrow, 1) := by decide +kernel
theorem dJ3_checkIndex_8e157_16 : decode cJ3_checkIndex_8e157 16 = .ok (.iload_n 0, 1) := by decide +kernel
theorem dJ3_checkIndex_8e157_17 : decode cJ3_checkIndex_8e157 17 = .ok (.ireturn, 1) := by decide +kernel
theorem dJ3_checkFromToIndex_8c36e_0 : decode cJ3_checkFromToIndex_8c36e 0 = .ok (.iload_n 0, 1) := by decide +kernel
theorem dJ3_checkFromToIndex_8c36e_1 : decode cJ3_checkFromToIndex_8c36e 1 = .ok (.ifCond .lt 13, 3) := by decide +kernel
theorem dJ3_checkFromToIndex_8c36e_4 : decode cJ3_checkFromToIndex_8c36e 4 = .ok (.iload_n 0, 1) := by decide +kernel
theorem dJ3_checkFromToIndex_8c36e_5 : decode cJ3_checkFromToIndex_8c36e 5 = .ok (.iload_n 1, 1) := by decide +kernel
theorem dJ3_checkFromToIndex_8c36e_6 : decode cJ3_checkFromToIndex_8c36e 6 = .ok (.if_icmp .gt 8, 3) := by decide +kernel
theorem dJ3_checkFromToIndex_8c36e_9 : decode cJ3_checkFromToIndex_8c36e 9 = .ok (.iload_n 1, 1) := by decide +kernel
theorem dJ3_checkFromToIndex_8c36e_10 : decode cJ3_checkFromToIndex_8c36e 10 = .ok (.iload_n 2, 1) := by decide +kernel
theorem dJ3_checkFromToIndex_8c36e_11 : decode cJ3_checkFromToIndex_8c36e 11 = .ok (.if_icmp .le 11, 3) := by decide +kernel
theorem dJ3_checkFromToIndex_8c36e_14 : decode cJ3_checkFromToIndex_8c36e 14 = .ok (.aload_n 3, 1) := by decide +kernel
theorem dJ3_checkFromToIndex_8c36e_15 : decode cJ3_checkFromToIndex_8c36e 15 = .ok (.iload_n 0, 1) := by decide +kernel
theorem dJ3_checkFromToIndex_8c36e_16 : decode cJ3_checkFromToIndex_8c36e 16 = .ok (.iload_n 1, 1) := by decide +kernel
theorem dJ3_checkFromToIndex_8c36e_17 : decode cJ3_checkFromToIndex_8c36e 17 = .ok (.iload_n 2, 1) := by decide +kernel
theorem dJ3_checkFromToIndex_8c36e_18 : decode cJ3_checkFromToIndex_8c36e 18 = .ok (.invokestatic 99, 3) := by decide +kernel
theorem dJ3_checkFromToIndex_8c36e_21 : decode cJ3_checkFromToIndex_8c36e 21 = .ok (.athrow, 1) := by decide +kernel
theorem dJ3_checkFromToIndex_8c36e_22 : decode cJ3_checkFromToIndex_8c36e 22 = .ok (.iload_n 0, 1) := by decide +kernel
theorem dJ3_checkFromToIndex_8c36e_23 : decode cJ3_checkFromToIndex_8c36e 23 = .ok (.ireturn, 1) := by decide +kernel
theorem dL_law_0 : decode cL_law 0 = .ok (.new 7, 3) := by decide +kernel
theorem dL_law_3 : decode cL_law 3 = .ok (.dup, 1) := by decide +kernel
theorem dL_law_4 : decode cL_law 4 = .ok (.invokespecial 9, 3) := by decide +kernel
theorem dL_law_7 : decode cL_law 7 = .ok (.astore_n 1, 1) := by decide +kernel
theorem dL_law_8 : decode cL_law 8 = .ok (.new 10, 3) := by decide +kernel
theorem dL_law_11 : decode cL_law 11 = .ok (.dup, 1) := by decide +kernel
theorem dL_law_12 : decode cL_law 12 = .ok (.invokespecial 12, 3) := by decide +kernel
theorem dL_law_15 : decode cL_law 15 = .ok (.astore_n 2, 1) := by decide +kernel
theorem dL_law_16 : decode cL_law 16 = .ok (.iconst 0, 1) := by decide +kernel
theorem dL_law_17 : decode cL_law 17 = .ok (.istore_n 3, 1) := by decide +kernel
theorem dL_law_18 : decode cL_law 18 = .ok (.iload_n 3, 1) := by decide +kernel
theorem dL_law_19 : decode cL_law 19 = .ok (.aload_n 0, 1) := by decide +kernel
theorem dL_law_20 : decode cL_law 20 = .ok (.arraylength, 1) := by decide +kernel
theorem dL_law_21 : decode cL_law 21 = .ok (.bipush 6, 2) := by decide +kernel
theorem dL_law_23 : decode cL_law 23 = .ok (.isub, 1) := by decide +kernel
theorem dL_law_24 : decode cL_law 24 = .ok (.if_icmp .gt 1513, 3) := by decide +kernel
theorem dL_law_27 : decode cL_law 27 = .ok (.aload_n 0, 1) := by decide +kernel
theorem dL_law_28 : decode cL_law 28 = .ok (.iload_n 3, 1) := by decide +kernel
theorem dL_law_29 : decode cL_law 29 = .ok (.iaload, 1) := by decide +kernel
theorem dL_law_30 : decode cL_law 30 = .ok (.bipush 63, 2) := by decide +kernel
theorem dL_law_32 : decode cL_law 32 = .ok (.iand, 1) := by decide +kernel
theorem dL_law_33 : decode cL_law 33 = .ok (.tableswitch 1498 0 43 #[191, 224, 267, 300, 343, 396, 429, 462, 495, 528, 581, 604, 637, 661, 684, 747, 760, 783, 807, 830, 853, 866, 889, 912, 936, 970, 983, 1006, 1019, 1043, 1056, 1079, 1102, 1125, 1138, 1171, 1204, 1237, 1250, 1263, 1306, 1349, 1412, 1465], 191) := by decide +kernel
theorem dL_law_224 : decode cL_law 224 = .ok (.aload_n 1, 1) := by decide +kernel
theorem dL_law_225 : decode cL_law 225 = .ok (.aload_n 0, 1) := by decide +kernel
theorem dL_law_226 : decode cL_law 226 = .ok (.iload_n 3, 1) := by decide +kernel
theorem dL_law_227 : decode cL_law 227 = .ok (.iconst 1, 1) := by decide +kernel
theorem dL_law_228 : decode cL_law 228 = .ok (.iadd, 1) := by decide +kernel
theorem dL_law_229 : decode cL_law 229 = .ok (.iaload, 1) := by decide +kernel
theorem dL_law_230 : decode cL_law 230 = .ok (.aload_n 0, 1) := by decide +kernel
theorem dL_law_231 : decode cL_law 231 = .ok (.iload_n 3, 1) := by decide +kernel
theorem dL_law_232 : decode cL_law 232 = .ok (.iconst 2, 1) := by decide +kernel
theorem dL_law_233 : decode cL_law 233 = .ok (.iadd, 1) := by decide +kernel
theorem dL_law_234 : decode cL_law 234 = .ok (.iaload, 1) := by decide +kernel
theorem dL_law_235 : decode cL_law 235 = .ok (.invokevirtual 13, 3) := by decide +kernel
theorem dL_law_238 : decode cL_law 238 = .ok (.aload_n 2, 1) := by decide +kernel
theorem dL_law_239 : decode cL_law 239 = .ok (.aload_n 0, 1) := by decide +kernel
theorem dL_law_240 : decode cL_law 240 = .ok (.iload_n 3, 1) := by decide +kernel
theorem dL_law_241 : decode cL_law 241 = .ok (.iconst 1, 1) := by decide +kernel
theorem dL_law_242 : decode cL_law 242 = .ok (.iadd, 1) := by decide +kernel
theorem dL_law_243 : decode cL_law 243 = .ok (.iaload, 1) := by decide +kernel
theorem dL_law_244 : decode cL_law 244 = .ok (.aload_n 0, 1) := by decide +kernel
theorem dL_law_245 : decode cL_law 245 = .ok (.iload_n 3, 1) := by decide +kernel
theorem dL_law_246 : decode cL_law 246 = .ok (.iconst 2, 1) := by decide +kernel
theorem dL_law_247 : decode cL_law 247 = .ok (.iadd, 1) := by decide +kernel
theorem dL_law_248 : decode cL_law 248 = .ok (.iaload, 1) := by decide +kernel
theorem dL_law_249 : decode cL_law 249 = .ok (.invokevirtual 17, 3) := by decide +kernel
theorem dL_law_252 : decode cL_law 252 = .ok (.if_icmp .eq 1279, 3) := by decide +kernel
theorem dL_law_255 : decode cL_law 255 = .ok (.iconst 0, 1) := by decide +kernel
theorem dL_law_256 : decode cL_law 256 = .ok (.ireturn, 1) := by decide +kernel
theorem dL_law_257 : decode cL_law 257 = .ok (.aload_n 1, 1) := by decide +kernel
theorem dL_law_258 : decode cL_law 258 = .ok (.aload_n 0, 1) := by decide +kernel
theorem dL_law_259 : decode cL_law 259 = .ok (.iload_n 3, 1) := by decide +kernel
theorem dL_law_260 : decode cL_law 260 = .ok (.iconst 1, 1) := by decide +kernel
theorem dL_law_261 : decode cL_law 261 = .ok (.iadd, 1) := by decide +kernel
theorem dL_law_262 : decode cL_law 262 = .ok (.iaload, 1) := by decide +kernel
theorem dL_law_263 : decode cL_law 263 = .ok (.aload_n 0, 1) := by decide +kernel
theorem dL_law_264 : decode cL_law 264 = .ok (.iload_n 3, 1) := by decide +kernel
theorem dL_law_265 : decode cL_law 265 = .ok (.iconst 2, 1) := by decide +kernel
theorem dL_law_266 : decode cL_law 266 = .ok (.iadd, 1) := by decide +kernel
theorem dL_law_267 : decode cL_law 267 = .ok (.iaload, 1) := by decide +kernel
theorem dL_law_268 : decode cL_law 268 = .ok (.aload_n 0, 1) := by decide +kernel
theorem dL_law_269 : decode cL_law 269 = .ok (.iload_n 3, 1) := by decide +kernel
theorem dL_law_270 : decode cL_law 270 = .ok (.iconst 3, 1) := by decide +kernel
theorem dL_law_271 : decode cL_law 271 = .ok (.iadd, 1) := by decide +kernel
theorem dL_law_272 : decode cL_law 272 = .ok (.iaload, 1) := by decide +kernel
theorem dL_law_273 : decode cL_law 273 = .ok (.invokevirtual 18, 3) := by decide +kernel
theorem dL_law_276 : decode cL_law 276 = .ok (.aload_n 2, 1) := by decide +kernel
theorem dL_law_277 : decode cL_law 277 = .ok (.aload_n 0, 1) := by decide +kernel
theorem dL_law_278 : decode cL_law 278 = .ok (.iload_n 3, 1) := by decide +kernel
theorem dL_law_279 : decode cL_law 279 = .ok (.iconst 1, 1) := by decide +kernel
theorem dL_law_280 : decode cL_law 280 = .ok (.iadd, 1) := by decide +kernel
theorem dL_law_281 : decode cL_law 281 = .ok (.iaload, 1) := by decide +kernel
theorem dL_law_282 : decode cL_law 282 = .ok (.aload_n 0, 1) := by decide +kernel
theorem dL_law_283 : decode cL_law 283 = .ok (.iload_n 3, 1) := by decide +kernel
theorem dL_law_284 : decode cL_law 284 = .ok (.iconst 2, 1) := by decide +kernel
theorem dL_law_285 : decode cL_law 285 = .ok (.iadd, 1) := by decide +kernel
theorem dL_law_286 : decode cL_law 286 = .ok (.iaload, 1) := by decide +kernel
theorem dL_law_287 : decode cL_law 287 = .ok (.aload_n 0, 1) := by decide +kernel
theorem dL_law_288 : decode cL_law 288 = .ok (.iload_n 3, 1) := by decide +kernel
theorem dL_law_289 : decode cL_law 289 = .ok (.iconst 3, 1) := by decide +kernel
theorem dL_law_290 : decode cL_law 290 = .ok (.iadd, 1) := by decide +kernel
theorem dL_law_291 : decode cL_law 291 = .ok (.iaload, 1) := by decide +kernel
theorem dL_law_292 : decode cL_law 292 = .ok (.invokevirtual 22, 3) := by decide +kernel
theorem dL_law_295 : decode cL_law 295 = .ok (.if_icmp .eq 1236, 3) := by decide +kernel
theorem dL_law_298 : decode cL_law 298 = .ok (.iconst 0, 1) := by decide +kernel
theorem dL_law_299 : decode cL_law 299 = .ok (.ireturn, 1) := by decide +kernel
theorem dL_law_300 : decode cL_law 300 = .ok (.aload_n 1, 1) := by decide +kernel
theorem dL_law_301 : decode cL_law 301 = .ok (.aload_n 0, 1) := by decide +kernel
theorem dL_law_302 : decode cL_law 302 = .ok (.iload_n 3, 1) := by decide +kernel
theorem dL_law_303 : decode cL_law 303 = .ok (.iconst 1, 1) := by decide +kernel
theorem dL_law_304 : decode cL_law 304 = .ok (.iadd, 1) := by decide +kernel
theorem dL_law_305 : decode cL_law 305 = .ok (.iaload, 1) := by decide +kernel
theorem dL_law_306 : decode cL_law 306 = .ok (.aload_n 0, 1) := by decide +kernel
theorem dL_law_307 : decode cL_law 307 = .ok (.iload_n 3, 1) := by decide +kernel
theorem dL_law_308 : decode cL_law 308 = .ok (.iconst 2, 1) := by decide +kernel
theorem dL_law_309 : decode cL_law 309 = .ok (.iadd, 1) := by decide +kernel
theorem dL_law_310 : decode cL_law 310 = .ok (.iaload, 1) := by decide +kernel
theorem dL_law_311 : decode cL_law 311 = .ok (.invokevirtual 23, 3) := by decide +kernel
theorem dL_law_314 : decode cL_law 314 = .ok (.aload_n 2, 1) := by decide +kernel
theorem dL_law_315 : decode cL_law 315 = .ok (.aload_n 0, 1) := by decide +kernel
theorem dL_law_316 : decode cL_law 316 = .ok (.iload_n 3, 1) := by decide +kernel
theorem dL_law_317 : decode cL_law 317 = .ok (.iconst 1, 1) := by decide +kernel
theorem dL_law_318 : decode cL_law 318 = .ok (.iadd, 1) := by decide +kernel
theorem dL_law_319 : decode cL_law 319 = .ok (.iaload, 1) := by decide +kernel
theorem dL_law_320 : decode cL_law 320 = .ok (.aload_n 0, 1) := by decide +kernel
theorem dL_law_321 : decode cL_law 321 = .ok (.iload_n 3, 1) := by decide +kernel
theorem dL_law_322 : decode cL_law 322 = .ok (.iconst 2, 1) := by decide +kernel
theorem dL_law_323 : decode cL_law 323 = .ok (.iadd, 1) := by decide +kernel
theorem dL_law_324 : decode cL_law 324 = .ok (.iaload, 1) := by decide +kernel
theorem dL_law_325 : decode cL_law 325 = .ok (.invokevirtual 26, 3) := by decide +kernel
theorem dL_law_328 : decode cL_law 328 = .ok (.if_icmp .eq 1203, 3) := by decide +kernel
theorem dL_law_331 : decode cL_law 331 = .ok (.iconst 0, 1) := by decide +kernel
theorem dL_law_332 : decode cL_law 332 = .ok (.ireturn, 1) := by decide +kernel
theorem dL_law_333 : decode cL_law 333 = .ok (.aload_n 1, 1) := by decide +kernel
theorem dL_law_334 : decode cL_law 334 = .ok (.aload_n 0, 1) := by decide +kernel
theorem dL_law_335 : decode cL_law 335 = .ok (.iload_n 3, 1) := by decide +kernel
theorem dL_law_336 : decode cL_law 336 = .ok (.iconst 1, 1) := by decide +kernel
theorem dL_law_337 : decode cL_law 337 = .ok (.iadd, 1) := by decide +kernel
theorem dL_law_338 : decode cL_law 338 = .ok (.iaload, 1) := by decide +kernel
theorem dL_law_339 : decode cL_law 339 = .ok (.aload_n 0, 1) := by decide +kernel
theorem dL_law_340 : decode cL_law 340 = .ok (.iload_n 3, 1) := by decide +kernel
theorem dL_law_341 : decode cL_law 341 = .ok (.iconst 2, 1) := by decide +kernel
theorem dL_law_342 : decode cL_law 342 = .ok (.iadd, 1) := by decide +kernel
theorem dL_law_343 : decode cL_law 343 = .ok (.iaload, 1) := by decide +kernel
theorem dL_law_344 : decode cL_law 344 = .ok (.aload_n 0, 1) := by decide +kernel
theorem dL_law_345 : decode cL_law 345 = .ok (.iload_n 3, 1) := by decide +kernel
theorem dL_law_346 : decode cL_law 346 = .ok (.iconst 3, 1) := by decide +kernel
theorem dL_law_347 : decode cL_law 347 = .ok (.iadd, 1) := by decide +kernel
theorem dL_law_348 : decode cL_law 348 = .ok (.iaload, 1) := by decide +kernel
theorem dL_law_349 : decode cL_law 349 = .ok (.invokevirtual 27, 3) := by decide +kernel
theorem dL_law_352 : decode cL_law 352 = .ok (.aload_n 2, 1) := by decide +kernel
theorem dL_law_353 : decode cL_law 353 = .ok (.aload_n 0, 1) := by decide +kernel
theorem dL_law_354 : decode cL_law 354 = .ok (.iload_n 3, 1) := by decide +kernel
theorem dL_law_355 : decode cL_law 355 = .ok (.iconst 1, 1) := by decide +kernel
theorem dL_law_356 : decode cL_law 356 = .ok (.iadd, 1) := by decide +kernel
theorem dL_law_357 : decode cL_law 357 = .ok (.iaload, 1) := by decide +kernel
theorem dL_law_358 : decode cL_law 358 = .ok (.aload_n 0, 1) := by decide +kernel
theorem dL_law_359 : decode cL_law 359 = .ok (.iload_n 3, 1) := by decide +kernel
theorem dL_law_360 : decode cL_law 360 = .ok (.iconst 2, 1) := by decide +kernel
theorem dL_law_361 : decode cL_law 361 = .ok (.iadd, 1) := by decide +kernel
theorem dL_law_362 : decode cL_law 362 = .ok (.iaload, 1) := by decide +kernel
theorem dL_law_363 : decode cL_law 363 = .ok (.aload_n 0, 1) := by decide +kernel
theorem dL_law_364 : decode cL_law 364 = .ok (.iload_n 3, 1) := by decide +kernel
theorem dL_law_365 : decode cL_law 365 = .ok (.iconst 3, 1) := by decide +kernel
theorem dL_law_366 : decode cL_law 366 = .ok (.iadd, 1) := by decide +kernel
theorem dL_law_367 : decode cL_law 367 = .ok (.iaload, 1) := by decide +kernel
theorem dL_law_368 : decode cL_law 368 = .ok (.invokevirtual 30, 3) := by decide +kernel
theorem dL_law_371 : decode cL_law 371 = .ok (.if_icmp .eq 1160, 3) := by decide +kernel
theorem dL_law_374 : decode cL_law 374 = .ok (.iconst 0, 1) := by decide +kernel
theorem dL_law_375 : decode cL_law 375 = .ok (.ireturn, 1) := by decide +kernel
theorem dL_law_376 : decode cL_law 376 = .ok (.aload_n 1, 1) := by decide +kernel
theorem dL_law_377 : decode cL_law 377 = .ok (.aload_n 0, 1) := by decide +kernel
theorem dL_law_378 : decode cL_law 378 = .ok (.iload_n 3, 1) := by decide +kernel
theorem dL_law_379 : decode cL_law 379 = .ok (.iconst 1, 1) := by decide +kernel
theorem dL_law_380 : decode cL_law 380 = .ok (.iadd, 1) := by decide +kernel
theorem dL_law_381 : decode cL_law 381 = .ok (.iaload, 1) := by decide +kernel
theorem dL_law_382 : decode cL_law 382 = .ok (.aload_n 0, 1) := by decide +kernel
theorem dL_law_383 : decode cL_law 383 = .ok (.iload_n 3, 1) := by decide +kernel
theorem dL_law_384 : decode cL_law 384 = .ok (.iconst 2, 1) := by decide +kernel
theorem dL_law_385 : decode cL_law 385 = .ok (.iadd, 1) := by decide +kernel
theorem dL_law_386 : decode cL_law 386 = .ok (.iaload, 1) := by decide +kernel
theorem dL_law_387 : decode cL_law 387 = .ok (.aload_n 0, 1) := by decide +kernel
theorem dL_law_388 : decode cL_law 388 = .ok (.iload_n 3, 1) := by decide +kernel
theorem dL_law_389 : decode cL_law 389 = .ok (.iconst 3, 1) := by decide +kernel
theorem dL_law_390 : decode cL_law 390 = .ok (.iadd, 1) := by decide +kernel
theorem dL_law_391 : decode cL_law 391 = .ok (.iaload, 1) := by decide +kernel
theorem dL_law_392 : decode cL_law 392 = .ok (.aload_n 0, 1) := by decide +kernel
theorem dL_law_393 : decode cL_law 393 = .ok (.iload_n 3, 1) := by decide +kernel
theorem dL_law_394 : decode cL_law 394 = .ok (.iconst 4, 1) := by decide +kernel
theorem dL_law_395 : decode cL_law 395 = .ok (.iadd, 1) := by decide +kernel
theorem dL_law_396 : decode cL_law 396 = .ok (.iaload, 1) := by decide +kernel
theorem dL_law_397 : decode cL_law 397 = .ok (.invokevirtual 31, 3) := by decide +kernel
theorem dL_law_400 : decode cL_law 400 = .ok (.aload_n 2, 1) := by decide +kernel
theorem dL_law_401 : decode cL_law 401 = .ok (.aload_n 0, 1) := by decide +kernel
theorem dL_law_402 : decode cL_law 402 = .ok (.iload_n 3, 1) := by decide +kernel
theorem dL_law_403 : decode cL_law 403 = .ok (.iconst 1, 1) := by decide +kernel
theorem dL_law_404 : decode cL_law 404 = .ok (.iadd, 1) := by decide +kernel
theorem dL_law_405 : decode cL_law 405 = .ok (.iaload, 1) := by decide +kernel
theorem dL_law_406 : decode cL_law 406 = .ok (.aload_n 0, 1) := by decide +kernel
theorem dL_law_407 : decode cL_law 407 = .ok (.iload_n 3, 1) := by decide +kernel
theorem dL_law_408 : decode cL_law 408 = .ok (.iconst 2, 1) := by decide +kernel
theorem dL_law_409 : decode cL_law 409 = .ok (.iadd, 1) := by decide +kernel
theorem dL_law_410 : decode cL_law 410 = .ok (.iaload, 1) := by decide +kernel
theorem dL_law_411 : decode cL_law 411 = .ok (.aload_n 0, 1) := by decide +kernel
theorem dL_law_412 : decode cL_law 412 = .ok (.iload_n 3, 1) := by decide +kernel
theorem dL_law_413 : decode cL_law 413 = .ok (.iconst 3, 1) := by decide +kernel
theorem dL_law_414 : decode cL_law 414 = .ok (.iadd, 1) := by decide +kernel
theorem dL_law_415 : decode cL_law 415 = .ok (.iaload, 1) := by decide +kernel
theorem dL_law_416 : decode cL_law 416 = .ok (.aload_n 0, 1) := by decide +kernel
theorem dL_law_417 : decode cL_law 417 = .ok (.iload_n 3, 1) := by decide +kernel
theorem dL_law_418 : decode cL_law 418 = .ok (.iconst 4, 1) := by decide +kernel
theorem dL_law_419 : decode cL_law 419 = .ok (.iadd, 1) := by decide +kernel
theorem dL_law_420 : decode cL_law 420 = .ok (.iaload, 1) := by decide +kernel
theorem dL_law_421 : decode cL_law 421 = .ok (.invokevirtual 35, 3) := by decide +kernel
theorem dL_law_424 : decode cL_law 424 = .ok (.if_icmp .eq 1107, 3) := by decide +kernel
theorem dL_law_427 : decode cL_law 427 = .ok (.iconst 0, 1) := by decide +kernel
theorem dL_law_428 : decode cL_law 428 = .ok (.ireturn, 1) := by decide +kernel
theorem dL_law_429 : decode cL_law 429 = .ok (.aload_n 1, 1) := by decide +kernel
theorem dL_law_430 : decode cL_law 430 = .ok (.aload_n 0, 1) := by decide +kernel
theorem dL_law_431 : decode cL_law 431 = .ok (.iload_n 3, 1) := by decide +kernel
theorem dL_law_432 : decode cL_law 432 = .ok (.iconst 1, 1) := by decide +kernel
theorem dL_law_433 : decode cL_law 433 = .ok (.iadd, 1) := by decide +kernel
theorem dL_law_434 : decode cL_law 434 = .ok (.iaload, 1) := by decide +kernel
theorem dL_law_435 : decode cL_law 435 = .ok (.aload_n 0, 1) := by decide +kernel
theorem dL_law_436 : decode cL_law 436 = .ok (.iload_n 3, 1) := by decide +kernel
theorem dL_law_437 : decode cL_law 437 = .ok (.iconst 2, 1) := by decide +kernel
theorem dL_law_438 : decode cL_law 438 = .ok (.iadd, 1) := by decide +kernel
theorem dL_law_439 : decode cL_law 439 = .ok (.iaload, 1) := by decide +kernel
theorem dL_law_440 : decode cL_law 440 = .ok (.invokevirtual 36, 3) := by decide +kernel
theorem dL_law_443 : decode cL_law 443 = .ok (.aload_n 2, 1) := by decide +kernel
theorem dL_law_444 : decode cL_law 444 = .ok (.aload_n 0, 1) := by decide +kernel
theorem dL_law_445 : decode cL_law 445 = .ok (.iload_n 3, 1) := by decide +kernel
theorem dL_law_446 : decode cL_law 446 = .ok (.iconst 1, 1) := by decide +kernel
theorem dL_law_447 : decode cL_law 447 = .ok (.iadd, 1) := by decide +kernel
theorem dL_law_448 : decode cL_law 448 = .ok (.iaload, 1) := by decide +kernel
theorem dL_law_449 : decode cL_law 449 = .ok (.aload_n 0, 1) := by decide +kernel
theorem dL_law_450 : decode cL_law 450 = .ok (.iload_n 3, 1) := by decide +kernel
theorem dL_law_451 : decode cL_law 451 = .ok (.iconst 2, 1) := by decide +kernel
theorem dL_law_452 : decode cL_law 452 = .ok (.iadd, 1) := by decide +kernel
theorem dL_law_453 : decode cL_law 453 = .ok (.iaload, 1) := by decide +kernel
theorem dL_law_454 : decode cL_law 454 = .ok (.invokevirtual 39, 3) := by decide +kernel
theorem dL_law_457 : decode cL_law 457 = .ok (.if_icmp .eq 1074, 3) := by decide +kernel
theorem dL_law_460 : decode cL_law 460 = .ok (.iconst 0, 1) := by decide +kernel
theorem dL_law_461 : decode cL_law 461 = .ok (.ireturn, 1) := by decide +kernel
theorem dL_law_462 : decode cL_law 462 = .ok (.aload_n 1, 1) := by decide +kernel
theorem dL_law_463 : decode cL_law 463 = .ok (.aload_n 0, 1) := by decide +kernel
theorem dL_law_464 : decode cL_law 464 = .ok (.iload_n 3, 1) := by decide +kernel
theorem dL_law_465 : decode cL_law 465 = .ok (.iconst 1, 1) := by decide +kernel
theorem dL_law_466 : decode cL_law 466 = .ok (.iadd, 1) := by decide +kernel
theorem dL_law_467 : decode cL_law 467 = .ok (.iaload, 1) := by decide +kernel
theorem dL_law_468 : decode cL_law 468 = .ok (.aload_n 0, 1) := by decide +kernel
theorem dL_law_469 : decode cL_law 469 = .ok (.iload_n 3, 1) := by decide +kernel
theorem dL_law_470 : decode cL_law 470 = .ok (.iconst 2, 1) := by decide +kernel
theorem dL_law_471 : decode cL_law 471 = .ok (.iadd, 1) := by decide +kernel
theorem dL_law_472 : decode cL_law 472 = .ok (.iaload, 1) := by decide +kernel
theorem dL_law_473 : decode cL_law 473 = .ok (.invokevirtual 40, 3) := by decide +kernel
theorem dL_law_476 : decode cL_law 476 = .ok (.aload_n 2, 1) := by decide +kernel
theorem dL_law_477 : decode cL_law 477 = .ok (.aload_n 0, 1) := by decide +kernel
theorem dL_law_478 : decode cL_law 478 = .ok (.iload_n 3, 1) := by decide +kernel
theorem dL_law_479 : decode cL_law 479 = .ok (.iconst 1, 1) := by decide +kernel
theorem dL_law_480 : decode cL_law 480 = .ok (.iadd, 1) := by decide +kernel
theorem dL_law_481 : decode cL_law 481 = .ok (.iaload, 1) := by decide +kernel
theorem dL_law_482 : decode cL_law 482 = .ok (.aload_n 0, 1) := by decide +kernel
theorem dL_law_483 : decode cL_law 483 = .ok (.iload_n 3, 1) := by decide +kernel
theorem dL_law_484 : decode cL_law 484 = .ok (.iconst 2, 1) := by decide +kernel
theorem dL_law_485 : decode cL_law 485 = .ok (.iadd, 1) := by decide +kernel
theorem dL_law_486 : decode cL_law 486 = .ok (.iaload, 1) := by decide +kernel
theorem dL_law_487 : decode cL_law 487 = .ok (.invokevirtual 43, 3) := by decide +kernel
theorem dL_law_490 : decode cL_law 490 = .ok (.if_icmp .eq 1041, 3) := by decide +kernel
theorem dL_law_493 : decode cL_law 493 = .ok (.iconst 0, 1) := by decide +kernel
theorem dL_law_494 : decode cL_law 494 = .ok (.ireturn, 1) := by decide +kernel
theorem dL_law_495 : decode cL_law 495 = .ok (.aload_n 1, 1) := by decide +kernel
theorem dL_law_496 : decode cL_law 496 = .ok (.aload_n 0, 1) := by decide +kernel
theorem dL_law_497 : decode cL_law 497 = .ok (.iload_n 3, 1) := by decide +kernel
theorem dL_law_498 : decode cL_law 498 = .ok (.iconst 1, 1) := by decide +kernel
theorem dL_law_499 : decode cL_law 499 = .ok (.iadd, 1) := by decide +kernel
theorem dL_law_500 : decode cL_law 500 = .ok (.iaload, 1) := by decide +kernel
theorem dL_law_501 : decode cL_law 501 = .ok (.aload_n 0, 1) := by decide +kernel
theorem dL_law_502 : decode cL_law 502 = .ok (.iload_n 3, 1) := by decide +kernel
theorem dL_law_503 : decode cL_law 503 = .ok (.iconst 2, 1) := by decide +kernel
theorem dL_law_504 : decode cL_law 504 = .ok (.iadd, 1) := by decide +kernel
theorem dL_law_505 : decode cL_law 505 = .ok (.iaload, 1) := by decide +kernel
theorem dL_law_506 : decode cL_law 506 = .ok (.invokevirtual 44, 3) := by decide +kernel
theorem dL_law_509 : decode cL_law 509 = .ok (.aload_n 2, 1) := by decide +kernel
theorem dL_law_510 : decode cL_law 510 = .ok (.aload_n 0, 1) := by decide +kernel
theorem dL_law_511 : decode cL_law 511 = .ok (.iload_n 3, 1) := by decide +kernel
theorem dL_law_512 : decode cL_law 512 = .ok (.iconst 1, 1) := by decide +kernel
theorem dL_law_513 : decode cL_law 513 = .ok (.iadd, 1) := by decide +kernel
theorem dL_law_514 : decode cL_law 514 = .ok (.iaload, 1) := by decide +kernel
theorem dL_law_515 : decode cL_law 515 = .ok (.aload_n 0, 1) := by decide +kernel
theorem dL_law_516 : decode cL_law 516 = .ok (.iload_n 3, 1) := by decide +kernel
theorem dL_law_517 : decode cL_law 517 = .ok (.iconst 2, 1) := by decide +kernel
theorem dL_law_518 : decode cL_law 518 = .ok (.iadd, 1) := by decide +kernel
theorem dL_law_519 : decode cL_law 519 = .ok (.iaload, 1) := by decide +kernel
theorem dL_law_520 : decode cL_law 520 = .ok (.invokevirtual 47, 3) := by decide +kernel
theorem dL_law_523 : decode cL_law 523 = .ok (.if_icmp .eq 1008, 3) := by decide +kernel
theorem dL_law_526 : decode cL_law 526 = .ok (.iconst 0, 1) := by decide +kernel
theorem dL_law_527 : decode cL_law 527 = .ok (.ireturn, 1) := by decide +kernel
theorem dL_law_528 : decode cL_law 528 = .ok (.aload_n 1, 1) := by decide +kernel
theorem dL_law_529 : decode cL_law 529 = .ok (.aload_n 0, 1) := by decide +kernel
theorem dL_law_530 : decode cL_law 530 = .ok (.iload_n 3, 1) := by decide +kernel
theorem dL_law_531 : decode cL_law 531 = .ok (.iconst 1, 1) := by decide +kernel
theorem dL_law_532 : decode cL_law 532 = .ok (.iadd, 1) := by decide +kernel
theorem dL_law_533 : decode cL_law 533 = .ok (.iaload, 1) := by decide +kernel
theorem dL_law_534 : decode cL_law 534 = .ok (.aload_n 0, 1) := by decide +kernel
theorem dL_law_535 : decode cL_law 535 = .ok (.iload_n 3, 1) := by decide +kernel
theorem dL_law_536 : decode cL_law 536 = .ok (.iconst 2, 1) := by decide +kernel
theorem dL_law_537 : decode cL_law 537 = .ok (.iadd, 1) := by decide +kernel
theorem dL_law_538 : decode cL_law 538 = .ok (.iaload, 1) := by decide +kernel
theorem dL_law_539 : decode cL_law 539 = .ok (.invokevirtual 48, 3) := by decide +kernel
theorem dL_law_542 : decode cL_law 542 = .ok (.aload_n 2, 1) := by decide +kernel
theorem dL_law_543 : decode cL_law 543 = .ok (.aload_n 0, 1) := by decide +kernel
theorem dL_law_544 : decode cL_law 544 = .ok (.iload_n 3, 1) := by decide +kernel
theorem dL_law_545 : decode cL_law 545 = .ok (.iconst 1, 1) := by decide +kernel
theorem dL_law_546 : decode cL_law 546 = .ok (.iadd, 1) := by decide +kernel
theorem dL_law_547 : decode cL_law 547 = .ok (.iaload, 1) := by decide +kernel
theorem dL_law_548 : decode cL_law 548 = .ok (.aload_n 0, 1) := by decide +kernel
theorem dL_law_549 : decode cL_law 549 = .ok (.iload_n 3, 1) := by decide +kernel
theorem dL_law_550 : decode cL_law 550 = .ok (.iconst 2, 1) := by decide +kernel
theorem dL_law_551 : decode cL_law 551 = .ok (.iadd, 1) := by decide +kernel
theorem dL_law_552 : decode cL_law 552 = .ok (.iaload, 1) := by decide +kernel
theorem dL_law_553 : decode cL_law 553 = .ok (.invokevirtual 51, 3) := by decide +kernel
theorem dL_law_556 : decode cL_law 556 = .ok (.if_icmp .eq 975, 3) := by decide +kernel
theorem dL_law_559 : decode cL_law 559 = .ok (.iconst 0, 1) := by decide +kernel
theorem dL_law_560 : decode cL_law 560 = .ok (.ireturn, 1) := by decide +kernel
theorem dL_law_561 : decode cL_law 561 = .ok (.aload_n 1, 1) := by decide +kernel
theorem dL_law_562 : decode cL_law 562 = .ok (.aload_n 0, 1) := by decide +kernel
theorem dL_law_563 : decode cL_law 563 = .ok (.iload_n 3, 1) := by decide +kernel
theorem dL_law_564 : decode cL_law 564 = .ok (.iconst 1, 1) := by decide +kernel
theorem dL_law_565 : decode cL_law 565 = .ok (.iadd, 1) := by decide +kernel
theorem dL_law_566 : decode cL_law 566 = .ok (.iaload, 1) := by decide +kernel
theorem dL_law_567 : decode cL_law 567 = .ok (.aload_n 0, 1) := by decide +kernel
theorem dL_law_568 : decode cL_law 568 = .ok (.iload_n 3, 1) := by decide +kernel
theorem dL_law_569 : decode cL_law 569 = .ok (.iconst 2, 1) := by decide +kernel
theorem dL_law_570 : decode cL_law 570 = .ok (.iadd, 1) := by decide +kernel
theorem dL_law_571 : decode cL_law 571 = .ok (.iaload, 1) := by decide +kernel
theorem dL_law_572 : decode cL_law 572 = .ok (.aload_n 0, 1) := by decide +kernel
theorem dL_law_573 : decode cL_law 573 = .ok (.iload_n 3, 1) := by decide +kernel
theorem dL_law_574 : decode cL_law 574 = .ok (.iconst 3, 1) := by decide +kernel
theorem dL_law_575 : decode cL_law 575 = .ok (.iadd, 1) := by decide +kernel
theorem dL_law_576 : decode cL_law 576 = .ok (.iaload, 1) := by decide +kernel
theorem dL_law_577 : decode cL_law 577 = .ok (.aload_n 0, 1) := by decide +kernel
theorem dL_law_578 : decode cL_law 578 = .ok (.iload_n 3, 1) := by decide +kernel
theorem dL_law_579 : decode cL_law 579 = .ok (.iconst 4, 1) := by decide +kernel
theorem dL_law_580 : decode cL_law 580 = .ok (.iadd, 1) := by decide +kernel
theorem dL_law_581 : decode cL_law 581 = .ok (.iaload, 1) := by decide +kernel
theorem dL_law_582 : decode cL_law 582 = .ok (.invokevirtual 52, 3) := by decide +kernel
theorem dL_law_585 : decode cL_law 585 = .ok (.aload_n 2, 1) := by decide +kernel
theorem dL_law_586 : decode cL_law 586 = .ok (.aload_n 0, 1) := by decide +kernel
theorem dL_law_587 : decode cL_law 587 = .ok (.iload_n 3, 1) := by decide +kernel
theorem dL_law_588 : decode cL_law 588 = .ok (.iconst 1, 1) := by decide +kernel
theorem dL_law_589 : decode cL_law 589 = .ok (.iadd, 1) := by decide +kernel
theorem dL_law_590 : decode cL_law 590 = .ok (.iaload, 1) := by decide +kernel
theorem dL_law_591 : decode cL_law 591 = .ok (.aload_n 0, 1) := by decide +kernel
theorem dL_law_592 : decode cL_law 592 = .ok (.iload_n 3, 1) := by decide +kernel
theorem dL_law_593 : decode cL_law 593 = .ok (.iconst 2, 1) := by decide +kernel
theorem dL_law_594 : decode cL_law 594 = .ok (.iadd, 1) := by decide +kernel
theorem dL_law_595 : decode cL_law 595 = .ok (.iaload, 1) := by decide +kernel
theorem dL_law_596 : decode cL_law 596 = .ok (.aload_n 0, 1) := by decide +kernel
theorem dL_law_597 : decode cL_law 597 = .ok (.iload_n 3, 1) := by decide +kernel
theorem dL_law_598 : decode cL_law 598 = .ok (.iconst 3, 1) := by decide +kernel
theorem dL_law_599 : decode cL_law 599 = .ok (.iadd, 1) := by decide +kernel
theorem dL_law_600 : decode cL_law 600 = .ok (.iaload, 1) := by decide +kernel
theorem dL_law_601 : decode cL_law 601 = .ok (.aload_n 0, 1) := by decide +kernel
theorem dL_law_602 : decode cL_law 602 = .ok (.iload_n 3, 1) := by decide +kernel
theorem dL_law_603 : decode cL_law 603 = .ok (.iconst 4, 1) := by decide +kernel
theorem dL_law_604 : decode cL_law 604 = .ok (.iadd, 1) := by decide +kernel
theorem dL_law_605 : decode cL_law 605 = .ok (.iaload, 1) := by decide +kernel
theorem dL_law_606 : decode cL_law 606 = .ok (.invokevirtual 55, 3) := by decide +kernel
theorem dL_law_609 : decode cL_law 609 = .ok (.if_icmp .eq 922, 3) := by decide +kernel
theorem dL_law_612 : decode cL_law 612 = .ok (.iconst 0, 1) := by decide +kernel
theorem dL_law_613 : decode cL_law 613 = .ok (.ireturn, 1) := by decide +kernel
theorem dL_law_614 : decode cL_law 614 = .ok (.aload_n 1, 1) := by decide +kernel
theorem dL_law_615 : decode cL_law 615 = .ok (.aload_n 0, 1) := by decide +kernel
theorem dL_law_616 : decode cL_law 616 = .ok (.iload_n 3, 1) := by decide +kernel
theorem dL_law_617 : decode cL_law 617 = .ok (.iconst 1, 1) := by decide +kernel
theorem dL_law_618 : decode cL_law 618 = .ok (.iadd, 1) := by decide +kernel
theorem dL_law_619 : decode cL_law 619 = .ok (.iaload, 1) := by decide +kernel
theorem dL_law_620 : decode cL_law 620 = .ok (.invokevirtual 56, 3) := by decide +kernel
theorem dL_law_623 : decode cL_law 623 = .ok (.aload_n 2, 1) := by decide +kernel
theorem dL_law_624 : decode cL_law 624 = .ok (.aload_n 0, 1) := by decide +kernel
theorem dL_law_625 : decode cL_law 625 = .ok (.iload_n 3, 1) := by decide +kernel
theorem dL_law_626 : decode cL_law 626 = .ok (.iconst 1, 1) := by decide +kernel
theorem dL_law_627 : decode cL_law 627 = .ok (.iadd, 1) := by decide +kernel
theorem dL_law_628 : decode cL_law 628 = .ok (.iaload, 1) := by decide +kernel
theorem dL_law_629 : decode cL_law 629 = .ok (.invokevirtual 60, 3) := by decide +kernel
theorem dL_law_632 : decode cL_law 632 = .ok (.if_icmp .eq 899, 3) := by decide +kernel
theorem dL_law_635 : decode cL_law 635 = .ok (.iconst 0, 1) := by decide +kernel
theorem dL_law_636 : decode cL_law 636 = .ok (.ireturn, 1) := by decide +kernel
theorem dL_law_637 : decode cL_law 637 = .ok (.aload_n 1, 1) := by decide +kernel
theorem dL_law_638 : decode cL_law 638 = .ok (.aload_n 0, 1) := by decide +kernel
theorem dL_law_639 : decode cL_law 639 = .ok (.iload_n 3, 1) := by decide +kernel
theorem dL_law_640 : decode cL_law 640 = .ok (.iconst 1, 1) := by decide +kernel
theorem dL_law_641 : decode cL_law 641 = .ok (.iadd, 1) := by decide +kernel
theorem dL_law_642 : decode cL_law 642 = .ok (.iaload, 1) := by decide +kernel
theorem dL_law_643 : decode cL_law 643 = .ok (.aload_n 0, 1) := by decide +kernel
theorem dL_law_644 : decode cL_law 644 = .ok (.iload_n 3, 1) := by decide +kernel
theorem dL_law_645 : decode cL_law 645 = .ok (.iconst 2, 1) := by decide +kernel
theorem dL_law_646 : decode cL_law 646 = .ok (.iadd, 1) := by decide +kernel
theorem dL_law_647 : decode cL_law 647 = .ok (.iaload, 1) := by decide +kernel
theorem dL_law_648 : decode cL_law 648 = .ok (.invokevirtual 61, 3) := by decide +kernel
theorem dL_law_651 : decode cL_law 651 = .ok (.aload_n 2, 1) := by decide +kernel
theorem dL_law_652 : decode cL_law 652 = .ok (.aload_n 0, 1) := by decide +kernel
theorem dL_law_653 : decode cL_law 653 = .ok (.iload_n 3, 1) := by decide +kernel
theorem dL_law_654 : decode cL_law 654 = .ok (.iconst 1, 1) := by decide +kernel
theorem dL_law_655 : decode cL_law 655 = .ok (.iadd, 1) := by decide +kernel
theorem dL_law_656 : decode cL_law 656 = .ok (.iaload, 1) := by decide +kernel
theorem dL_law_657 : decode cL_law 657 = .ok (.aload_n 0, 1) := by decide +kernel
theorem dL_law_658 : decode cL_law 658 = .ok (.iload_n 3, 1) := by decide +kernel
theorem dL_law_659 : decode cL_law 659 = .ok (.iconst 2, 1) := by decide +kernel
theorem dL_law_660 : decode cL_law 660 = .ok (.iadd, 1) := by decide +kernel
theorem dL_law_661 : decode cL_law 661 = .ok (.iaload, 1) := by decide +kernel
theorem dL_law_662 : decode cL_law 662 = .ok (.invokevirtual 64, 3) := by decide +kernel
theorem dL_law_665 : decode cL_law 665 = .ok (.if_icmp .eq 866, 3) := by decide +kernel
theorem dL_law_668 : decode cL_law 668 = .ok (.iconst 0, 1) := by decide +kernel
theorem dL_law_669 : decode cL_law 669 = .ok (.ireturn, 1) := by decide +kernel
theorem dL_law_670 : decode cL_law 670 = .ok (.aload_n 1, 1) := by decide +kernel
theorem dL_law_671 : decode cL_law 671 = .ok (.aload_n 0, 1) := by decide +kernel
theorem dL_law_672 : decode cL_law 672 = .ok (.iload_n 3, 1) := by decide +kernel
theorem dL_law_673 : decode cL_law 673 = .ok (.iconst 1, 1) := by decide +kernel
theorem dL_law_674 : decode cL_law 674 = .ok (.iadd, 1) := by decide +kernel
theorem dL_law_675 : decode cL_law 675 = .ok (.iaload, 1) := by decide +kernel
theorem dL_law_676 : decode cL_law 676 = .ok (.invokevirtual 65, 3) := by decide +kernel
theorem dL_law_679 : decode cL_law 679 = .ok (.aload_n 2, 1) := by decide +kernel
theorem dL_law_680 : decode cL_law 680 = .ok (.aload_n 0, 1) := by decide +kernel
theorem dL_law_681 : decode cL_law 681 = .ok (.iload_n 3, 1) := by decide +kernel
theorem dL_law_682 : decode cL_law 682 = .ok (.iconst 1, 1) := by decide +kernel
theorem dL_law_683 : decode cL_law 683 = .ok (.iadd, 1) := by decide +kernel
theorem dL_law_684 : decode cL_law 684 = .ok (.iaload, 1) := by decide +kernel
theorem dL_law_685 : decode cL_law 685 = .ok (.invokevirtual 69, 3) := by decide +kernel
theorem dL_law_688 : decode cL_law 688 = .ok (.lcmp, 1) := by decide +kernel
theorem dL_law_689 : decode cL_law 689 = .ok (.ifCond .eq 842, 3) := by decide +kernel
theorem dL_law_692 : decode cL_law 692 = .ok (.iconst 0, 1) := by decide +kernel
theorem dL_law_693 : decode cL_law 693 = .ok (.ireturn, 1) := by decide +kernel
theorem dL_law_694 : decode cL_law 694 = .ok (.aload_n 1, 1) := by decide +kernel
theorem dL_law_695 : decode cL_law 695 = .ok (.aload_n 0, 1) := by decide +kernel
theorem dL_law_696 : decode cL_law 696 = .ok (.iload_n 3, 1) := by decide +kernel
theorem dL_law_697 : decode cL_law 697 = .ok (.iconst 1, 1) := by decide +kernel
theorem dL_law_698 : decode cL_law 698 = .ok (.iadd, 1) := by decide +kernel
theorem dL_law_699 : decode cL_law 699 = .ok (.iaload, 1) := by decide +kernel
theorem dL_law_700 : decode cL_law 700 = .ok (.invokevirtual 70, 3) := by decide +kernel
theorem dL_law_703 : decode cL_law 703 = .ok (.aload_n 2, 1) := by decide +kernel
theorem dL_law_704 : decode cL_law 704 = .ok (.aload_n 0, 1) := by decide +kernel
theorem dL_law_705 : decode cL_law 705 = .ok (.iload_n 3, 1) := by decide +kernel
theorem dL_law_706 : decode cL_law 706 = .ok (.iconst 1, 1) := by decide +kernel
theorem dL_law_707 : decode cL_law 707 = .ok (.iadd, 1) := by decide +kernel
theorem dL_law_708 : decode cL_law 708 = .ok (.iaload, 1) := by decide +kernel
theorem dL_law_709 : decode cL_law 709 = .ok (.invokevirtual 73, 3) := by decide +kernel
theorem dL_law_712 : decode cL_law 712 = .ok (.if_icmp .eq 819, 3) := by decide +kernel
theorem dL_law_715 : decode cL_law 715 = .ok (.iconst 0, 1) := by decide +kernel
theorem dL_law_716 : decode cL_law 716 = .ok (.ireturn, 1) := by decide +kernel
theorem dL_law_717 : decode cL_law 717 = .ok (.aload_n 1, 1) := by decide +kernel
theorem dL_law_718 : decode cL_law 718 = .ok (.aload_n 0, 1) := by decide +kernel
theorem dL_law_719 : decode cL_law 719 = .ok (.iload_n 3, 1) := by decide +kernel
theorem dL_law_720 : decode cL_law 720 = .ok (.iconst 1, 1) := by decide +kernel
theorem dL_law_721 : decode cL_law 721 = .ok (.iadd, 1) := by decide +kernel
theorem dL_law_722 : decode cL_law 722 = .ok (.iaload, 1) := by decide +kernel
theorem dL_law_723 : decode cL_law 723 = .ok (.i2l, 1) := by decide +kernel
theorem dL_law_724 : decode cL_law 724 = .ok (.bipush 32, 2) := by decide +kernel
theorem dL_law_726 : decode cL_law 726 = .ok (.lshl, 1) := by decide +kernel
theorem dL_law_727 : decode cL_law 727 = .ok (.aload_n 0, 1) := by decide +kernel
theorem dL_law_728 : decode cL_law 728 = .ok (.iload_n 3, 1) := by decide +kernel
theorem dL_law_729 : decode cL_law 729 = .ok (.iconst 2, 1) := by decide +kernel
theorem dL_law_730 : decode cL_law 730 = .ok (.iadd, 1) := by decide +kernel
theorem dL_law_731 : decode cL_law 731 = .ok (.iaload, 1) := by decide +kernel
theorem dL_law_732 : decode cL_law 732 = .ok (.i2l, 1) := by decide +kernel
theorem dL_law_733 : decode cL_law 733 = .ok (.ldc2_w 74, 3) := by decide +kernel
theorem dL_law_736 : decode cL_law 736 = .ok (.land, 1) := by decide +kernel
theorem dL_law_737 : decode cL_law 737 = .ok (.lor, 1) := by decide +kernel
theorem dL_law_738 : decode cL_law 738 = .ok (.aload_n 0, 1) := by decide +kernel
theorem dL_law_739 : decode cL_law 739 = .ok (.iload_n 3, 1) := by decide +kernel
theorem dL_law_740 : decode cL_law 740 = .ok (.iconst 3, 1) := by decide +kernel
theorem dL_law_741 : decode cL_law 741 = .ok (.iadd, 1) := by decide +kernel
theorem dL_law_742 : decode cL_law 742 = .ok (.iaload, 1) := by decide +kernel
theorem dL_law_743 : decode cL_law 743 = .ok (.invokevirtual 76, 3) := by decide +kernel
theorem dL_law_746 : decode cL_law 746 = .ok (.aload_n 2, 1) := by decide +kernel
theorem dL_law_747 : decode cL_law 747 = .ok (.aload_n 0, 1) := by decide +kernel
theorem dL_law_748 : decode cL_law 748 = .ok (.iload_n 3, 1) := by decide +kernel
theorem dL_law_749 : decode cL_law 749 = .ok (.iconst 1, 1) := by decide +kernel
theorem dL_law_750 : decode cL_law 750 = .ok (.iadd, 1) := by decide +kernel
theorem dL_law_751 : decode cL_law 751 = .ok (.iaload, 1) := by decide +kernel
theorem dL_law_752 : decode cL_law 752 = .ok (.i2l, 1) := by decide +kernel
theorem dL_law_753 : decode cL_law 753 = .ok (.bipush 32, 2) := by decide +kernel
theorem dL_law_755 : decode cL_law 755 = .ok (.lshl, 1) := by decide +kernel
theorem dL_law_756 : decode cL_law 756 = .ok (.aload_n 0, 1) := by decide +kernel
theorem dL_law_757 : decode cL_law 757 = .ok (.iload_n 3, 1) := by decide +kernel
theorem dL_law_758 : decode cL_law 758 = .ok (.iconst 2, 1) := by decide +kernel
theorem dL_law_759 : decode cL_law 759 = .ok (.iadd, 1) := by decide +kernel
theorem dL_law_760 : decode cL_law 760 = .ok (.iaload, 1) := by decide +kernel
theorem dL_law_761 : decode cL_law 761 = .ok (.i2l, 1) := by decide +kernel
theorem dL_law_762 : decode cL_law 762 = .ok (.ldc2_w 74, 3) := by decide +kernel
theorem dL_law_765 : decode cL_law 765 = .ok (.land, 1) := by decide +kernel
theorem dL_law_766 : decode cL_law 766 = .ok (.lor, 1) := by decide +kernel
theorem dL_law_767 : decode cL_law 767 = .ok (.aload_n 0, 1) := by decide +kernel
theorem dL_law_768 : decode cL_law 768 = .ok (.iload_n 3, 1) := by decide +kernel
theorem dL_law_769 : decode cL_law 769 = .ok (.iconst 3, 1) := by decide +kernel
theorem dL_law_770 : decode cL_law 770 = .ok (.iadd, 1) := by decide +kernel
theorem dL_law_771 : decode cL_law 771 = .ok (.iaload, 1) := by decide +kernel
theorem dL_law_772 : decode cL_law 772 = .ok (.invokevirtual 80, 3) := by decide +kernel
theorem dL_law_775 : decode cL_law 775 = .ok (.if_icmp .eq 756, 3) := by decide +kernel
theorem dL_law_778 : decode cL_law 778 = .ok (.iconst 0, 1) := by decide +kernel
theorem dL_law_779 : decode cL_law 779 = .ok (.ireturn, 1) := by decide +kernel
theorem dL_law_780 : decode cL_law 780 = .ok (.aload_n 1, 1) := by decide +kernel
theorem dL_law_781 : decode cL_law 781 = .ok (.invokevirtual 81, 3) := by decide +kernel
theorem dL_law_784 : decode cL_law 784 = .ok (.aload_n 2, 1) := by decide +kernel
theorem dL_law_785 : decode cL_law 785 = .ok (.invokevirtual 85, 3) := by decide +kernel
theorem dL_law_788 : decode cL_law 788 = .ok (.if_icmp .eq 743, 3) := by decide +kernel
theorem dL_law_791 : decode cL_law 791 = .ok (.iconst 0, 1) := by decide +kernel
theorem dL_law_792 : decode cL_law 792 = .ok (.ireturn, 1) := by decide +kernel
theorem dL_law_793 : decode cL_law 793 = .ok (.aload_n 1, 1) := by decide +kernel
theorem dL_law_794 : decode cL_law 794 = .ok (.aload_n 0, 1) := by decide +kernel
theorem dL_law_795 : decode cL_law 795 = .ok (.iload_n 3, 1) := by decide +kernel
theorem dL_law_796 : decode cL_law 796 = .ok (.iconst 1, 1) := by decide +kernel
theorem dL_law_797 : decode cL_law 797 = .ok (.iadd, 1) := by decide +kernel
theorem dL_law_798 : decode cL_law 798 = .ok (.iaload, 1) := by decide +kernel
theorem dL_law_799 : decode cL_law 799 = .ok (.invokevirtual 86, 3) := by decide +kernel
theorem dL_law_802 : decode cL_law 802 = .ok (.aload_n 2, 1) := by decide +kernel
theorem dL_law_803 : decode cL_law 803 = .ok (.aload_n 0, 1) := by decide +kernel
theorem dL_law_804 : decode cL_law 804 = .ok (.iload_n 3, 1) := by decide +kernel
theorem dL_law_805 : decode cL_law 805 = .ok (.iconst 1, 1) := by decide +kernel
theorem dL_law_806 : decode cL_law 806 = .ok (.iadd, 1) := by decide +kernel
theorem dL_law_807 : decode cL_law 807 = .ok (.iaload, 1) := by decide +kernel
theorem dL_law_808 : decode cL_law 808 = .ok (.invokevirtual 89, 3) := by decide +kernel
theorem dL_law_811 : decode cL_law 811 = .ok (.if_icmp .eq 720, 3) := by decide +kernel
theorem dL_law_814 : decode cL_law 814 = .ok (.iconst 0, 1) := by decide +kernel
theorem dL_law_815 : decode cL_law 815 = .ok (.ireturn, 1) := by decide +kernel
theorem dL_law_816 : decode cL_law 816 = .ok (.aload_n 1, 1) := by decide +kernel
theorem dL_law_817 : decode cL_law 817 = .ok (.aload_n 0, 1) := by decide +kernel
theorem dL_law_818 : decode cL_law 818 = .ok (.iload_n 3, 1) := by decide +kernel
theorem dL_law_819 : decode cL_law 819 = .ok (.iconst 1, 1) := by decide +kernel
theorem dL_law_820 : decode cL_law 820 = .ok (.iadd, 1) := by decide +kernel
theorem dL_law_821 : decode cL_law 821 = .ok (.iaload, 1) := by decide +kernel
theorem dL_law_822 : decode cL_law 822 = .ok (.invokevirtual 90, 3) := by decide +kernel
theorem dL_law_825 : decode cL_law 825 = .ok (.aload_n 2, 1) := by decide +kernel
theorem dL_law_826 : decode cL_law 826 = .ok (.aload_n 0, 1) := by decide +kernel
theorem dL_law_827 : decode cL_law 827 = .ok (.iload_n 3, 1) := by decide +kernel
theorem dL_law_828 : decode cL_law 828 = .ok (.iconst 1, 1) := by decide +kernel
theorem dL_law_829 : decode cL_law 829 = .ok (.iadd, 1) := by decide +kernel
theorem dL_law_830 : decode cL_law 830 = .ok (.iaload, 1) := by decide +kernel
theorem dL_law_831 : decode cL_law 831 = .ok (.invokevirtual 93, 3) := by decide +kernel
theorem dL_law_834 : decode cL_law 834 = .ok (.lcmp, 1) := by decide +kernel
theorem dL_law_835 : decode cL_law 835 = .ok (.ifCond .eq 696, 3) := by decide +kernel
theorem dL_law_838 : decode cL_law 838 = .ok (.iconst 0, 1) := by decide +kernel
theorem dL_law_839 : decode cL_law 839 = .ok (.ireturn, 1) := by decide +kernel
theorem dL_law_840 : decode cL_law 840 = .ok (.aload_n 1, 1) := by decide +kernel
theorem dL_law_841 : decode cL_law 841 = .ok (.aload_n 0, 1) := by decide +kernel
theorem dL_law_842 : decode cL_law 842 = .ok (.iload_n 3, 1) := by decide +kernel
theorem dL_law_843 : decode cL_law 843 = .ok (.iconst 1, 1) := by decide +kernel
theorem dL_law_844 : decode cL_law 844 = .ok (.iadd, 1) := by decide +kernel
theorem dL_law_845 : decode cL_law 845 = .ok (.iaload, 1) := by decide +kernel
theorem dL_law_846 : decode cL_law 846 = .ok (.invokevirtual 94, 3) := by decide +kernel
theorem dL_law_849 : decode cL_law 849 = .ok (.aload_n 2, 1) := by decide +kernel
theorem dL_law_850 : decode cL_law 850 = .ok (.aload_n 0, 1) := by decide +kernel
theorem dL_law_851 : decode cL_law 851 = .ok (.iload_n 3, 1) := by decide +kernel
theorem dL_law_852 : decode cL_law 852 = .ok (.iconst 1, 1) := by decide +kernel
theorem dL_law_853 : decode cL_law 853 = .ok (.iadd, 1) := by decide +kernel
theorem dL_law_854 : decode cL_law 854 = .ok (.iaload, 1) := by decide +kernel
theorem dL_law_855 : decode cL_law 855 = .ok (.invokevirtual 97, 3) := by decide +kernel
theorem dL_law_858 : decode cL_law 858 = .ok (.if_icmp .eq 673, 3) := by decide +kernel
theorem dL_law_861 : decode cL_law 861 = .ok (.iconst 0, 1) := by decide +kernel
theorem dL_law_862 : decode cL_law 862 = .ok (.ireturn, 1) := by decide +kernel
theorem dL_law_863 : decode cL_law 863 = .ok (.aload_n 1, 1) := by decide +kernel
theorem dL_law_864 : decode cL_law 864 = .ok (.aload_n 0, 1) := by decide +kernel
theorem dL_law_865 : decode cL_law 865 = .ok (.iload_n 3, 1) := by decide +kernel
theorem dL_law_866 : decode cL_law 866 = .ok (.iconst 1, 1) := by decide +kernel
theorem dL_law_867 : decode cL_law 867 = .ok (.iadd, 1) := by decide +kernel
theorem dL_law_868 : decode cL_law 868 = .ok (.iaload, 1) := by decide +kernel
theorem dL_law_869 : decode cL_law 869 = .ok (.invokevirtual 98, 3) := by decide +kernel
theorem dL_law_872 : decode cL_law 872 = .ok (.aload_n 2, 1) := by decide +kernel
theorem dL_law_873 : decode cL_law 873 = .ok (.aload_n 0, 1) := by decide +kernel
theorem dL_law_874 : decode cL_law 874 = .ok (.iload_n 3, 1) := by decide +kernel
theorem dL_law_875 : decode cL_law 875 = .ok (.iconst 1, 1) := by decide +kernel
theorem dL_law_876 : decode cL_law 876 = .ok (.iadd, 1) := by decide +kernel
theorem dL_law_877 : decode cL_law 877 = .ok (.iaload, 1) := by decide +kernel
theorem dL_law_878 : decode cL_law 878 = .ok (.invokevirtual 101, 3) := by decide +kernel
theorem dL_law_881 : decode cL_law 881 = .ok (.if_icmp .eq 650, 3) := by decide +kernel
theorem dL_law_884 : decode cL_law 884 = .ok (.iconst 0, 1) := by decide +kernel
theorem dL_law_885 : decode cL_law 885 = .ok (.ireturn, 1) := by decide +kernel
theorem dL_law_886 : decode cL_law 886 = .ok (.aload_n 1, 1) := by decide +kernel
theorem dL_law_887 : decode cL_law 887 = .ok (.invokevirtual 102, 3) := by decide +kernel
theorem dL_law_890 : decode cL_law 890 = .ok (.aload_n 2, 1) := by decide +kernel
theorem dL_law_891 : decode cL_law 891 = .ok (.invokevirtual 105, 3) := by decide +kernel
theorem dL_law_894 : decode cL_law 894 = .ok (.if_icmp .eq 637, 3) := by decide +kernel
theorem dL_law_897 : decode cL_law 897 = .ok (.iconst 0, 1) := by decide +kernel
theorem dL_law_898 : decode cL_law 898 = .ok (.ireturn, 1) := by decide +kernel
theorem dL_law_899 : decode cL_law 899 = .ok (.aload_n 1, 1) := by decide +kernel
theorem dL_law_900 : decode cL_law 900 = .ok (.aload_n 0, 1) := by decide +kernel
theorem dL_law_901 : decode cL_law 901 = .ok (.iload_n 3, 1) := by decide +kernel
theorem dL_law_902 : decode cL_law 902 = .ok (.iconst 1, 1) := by decide +kernel
theorem dL_law_903 : decode cL_law 903 = .ok (.iadd, 1) := by decide +kernel
theorem dL_law_904 : decode cL_law 904 = .ok (.iaload, 1) := by decide +kernel
theorem dL_law_905 : decode cL_law 905 = .ok (.invokevirtual 106, 3) := by decide +kernel
theorem dL_law_908 : decode cL_law 908 = .ok (.aload_n 2, 1) := by decide +kernel
theorem dL_law_909 : decode cL_law 909 = .ok (.aload_n 0, 1) := by decide +kernel
theorem dL_law_910 : decode cL_law 910 = .ok (.iload_n 3, 1) := by decide +kernel
theorem dL_law_911 : decode cL_law 911 = .ok (.iconst 1, 1) := by decide +kernel
theorem dL_law_912 : decode cL_law 912 = .ok (.iadd, 1) := by decide +kernel
theorem dL_law_913 : decode cL_law 913 = .ok (.iaload, 1) := by decide +kernel
theorem dL_law_914 : decode cL_law 914 = .ok (.invokevirtual 109, 3) := by decide +kernel
theorem dL_law_917 : decode cL_law 917 = .ok (.if_icmp .eq 614, 3) := by decide +kernel
theorem dL_law_920 : decode cL_law 920 = .ok (.iconst 0, 1) := by decide +kernel
theorem dL_law_921 : decode cL_law 921 = .ok (.ireturn, 1) := by decide +kernel
theorem dL_law_922 : decode cL_law 922 = .ok (.aload_n 1, 1) := by decide +kernel
theorem dL_law_923 : decode cL_law 923 = .ok (.aload_n 0, 1) := by decide +kernel
theorem dL_law_924 : decode cL_law 924 = .ok (.iload_n 3, 1) := by decide +kernel
theorem dL_law_925 : decode cL_law 925 = .ok (.iconst 1, 1) := by decide +kernel
theorem dL_law_926 : decode cL_law 926 = .ok (.iadd, 1) := by decide +kernel
theorem dL_law_927 : decode cL_law 927 = .ok (.iaload, 1) := by decide +kernel
theorem dL_law_928 : decode cL_law 928 = .ok (.invokevirtual 110, 3) := by decide +kernel
theorem dL_law_931 : decode cL_law 931 = .ok (.aload_n 2, 1) := by decide +kernel
theorem dL_law_932 : decode cL_law 932 = .ok (.aload_n 0, 1) := by decide +kernel
theorem dL_law_933 : decode cL_law 933 = .ok (.iload_n 3, 1) := by decide +kernel
theorem dL_law_934 : decode cL_law 934 = .ok (.iconst 1, 1) := by decide +kernel
theorem dL_law_935 : decode cL_law 935 = .ok (.iadd, 1) := by decide +kernel
theorem dL_law_936 : decode cL_law 936 = .ok (.iaload, 1) := by decide +kernel
theorem dL_law_937 : decode cL_law 937 = .ok (.invokevirtual 113, 3) := by decide +kernel
theorem dL_law_940 : decode cL_law 940 = .ok (.if_icmp .eq 591, 3) := by decide +kernel
theorem dL_law_943 : decode cL_law 943 = .ok (.iconst 0, 1) := by decide +kernel
theorem dL_law_944 : decode cL_law 944 = .ok (.ireturn, 1) := by decide +kernel
theorem dL_law_945 : decode cL_law 945 = .ok (.aload_n 1, 1) := by decide +kernel
theorem dL_law_946 : decode cL_law 946 = .ok (.aload_n 0, 1) := by decide +kernel
theorem dL_law_947 : decode cL_law 947 = .ok (.iload_n 3, 1) := by decide +kernel
theorem dL_law_948 : decode cL_law 948 = .ok (.iconst 1, 1) := by decide +kernel
theorem dL_law_949 : decode cL_law 949 = .ok (.iadd, 1) := by decide +kernel
theorem dL_law_950 : decode cL_law 950 = .ok (.iaload, 1) := by decide +kernel
theorem dL_law_951 : decode cL_law 951 = .ok (.invokevirtual 114, 3) := by decide +kernel
theorem dL_law_954 : decode cL_law 954 = .ok (.aload_n 2, 1) := by decide +kernel
theorem dL_law_955 : decode cL_law 955 = .ok (.aload_n 0, 1) := by decide +kernel
theorem dL_law_956 : decode cL_law 956 = .ok (.iload_n 3, 1) := by decide +kernel
theorem dL_law_957 : decode cL_law 957 = .ok (.iconst 1, 1) := by decide +kernel
theorem dL_law_958 : decode cL_law 958 = .ok (.iadd, 1) := by decide +kernel
theorem dL_law_959 : decode cL_law 959 = .ok (.iaload, 1) := by decide +kernel
theorem dL_law_960 : decode cL_law 960 = .ok (.invokevirtual 117, 3) := by decide +kernel
theorem dL_law_963 : decode cL_law 963 = .ok (.lcmp, 1) := by decide +kernel
theorem dL_law_964 : decode cL_law 964 = .ok (.ifCond .eq 567, 3) := by decide +kernel
theorem dL_law_967 : decode cL_law 967 = .ok (.iconst 0, 1) := by decide +kernel
theorem dL_law_968 : decode cL_law 968 = .ok (.ireturn, 1) := by decide +kernel
theorem dL_law_969 : decode cL_law 969 = .ok (.aload_n 1, 1) := by decide +kernel
theorem dL_law_970 : decode cL_law 970 = .ok (.aload_n 0, 1) := by decide +kernel
theorem dL_law_971 : decode cL_law 971 = .ok (.iload_n 3, 1) := by decide +kernel
theorem dL_law_972 : decode cL_law 972 = .ok (.iconst 1, 1) := by decide +kernel
theorem dL_law_973 : decode cL_law 973 = .ok (.iadd, 1) := by decide +kernel
theorem dL_law_974 : decode cL_law 974 = .ok (.iaload, 1) := by decide +kernel
theorem dL_law_975 : decode cL_law 975 = .ok (.aload_n 0, 1) := by decide +kernel
theorem dL_law_976 : decode cL_law 976 = .ok (.iload_n 3, 1) := by decide +kernel
theorem dL_law_977 : decode cL_law 977 = .ok (.iconst 2, 1) := by decide +kernel
theorem dL_law_978 : decode cL_law 978 = .ok (.iadd, 1) := by decide +kernel
theorem dL_law_979 : decode cL_law 979 = .ok (.iaload, 1) := by decide +kernel
theorem dL_law_980 : decode cL_law 980 = .ok (.invokevirtual 118, 3) := by decide +kernel
theorem dL_law_983 : decode cL_law 983 = .ok (.aload_n 2, 1) := by decide +kernel
theorem dL_law_984 : decode cL_law 984 = .ok (.aload_n 0, 1) := by decide +kernel
theorem dL_law_985 : decode cL_law 985 = .ok (.iload_n 3, 1) := by decide +kernel
theorem dL_law_986 : decode cL_law 986 = .ok (.iconst 1, 1) := by decide +kernel
theorem dL_law_987 : decode cL_law 987 = .ok (.iadd, 1) := by decide +kernel
theorem dL_law_988 : decode cL_law 988 = .ok (.iaload, 1) := by decide +kernel
theorem dL_law_989 : decode cL_law 989 = .ok (.aload_n 0, 1) := by decide +kernel
theorem dL_law_990 : decode cL_law 990 = .ok (.iload_n 3, 1) := by decide +kernel
theorem dL_law_991 : decode cL_law 991 = .ok (.iconst 2, 1) := by decide +kernel
theorem dL_law_992 : decode cL_law 992 = .ok (.iadd, 1) := by decide +kernel
theorem dL_law_993 : decode cL_law 993 = .ok (.iaload, 1) := by decide +kernel
theorem dL_law_994 : decode cL_law 994 = .ok (.invokevirtual 122, 3) := by decide +kernel
theorem dL_law_997 : decode cL_law 997 = .ok (.lcmp, 1) := by decide +kernel
theorem dL_law_998 : decode cL_law 998 = .ok (.ifCond .eq 533, 3) := by decide +kernel
theorem dL_law_1001 : decode cL_law 1001 = .ok (.iconst 0, 1) := by decide +kernel
theorem dL_law_1002 : decode cL_law 1002 = .ok (.ireturn, 1) := by decide +kernel
theorem dL_law_1003 : decode cL_law 1003 = .ok (.aload_n 1, 1) := by decide +kernel
theorem dL_law_1004 : decode cL_law 1004 = .ok (.invokevirtual 123, 3) := by decide +kernel
theorem dL_law_1007 : decode cL_law 1007 = .ok (.aload_n 2, 1) := by decide +kernel
theorem dL_law_1008 : decode cL_law 1008 = .ok (.invokevirtual 126, 3) := by decide +kernel
theorem dL_law_1011 : decode cL_law 1011 = .ok (.if_icmp .eq 520, 3) := by decide +kernel
theorem dL_law_1014 : decode cL_law 1014 = .ok (.iconst 0, 1) := by decide +kernel
theorem dL_law_1015 : decode cL_law 1015 = .ok (.ireturn, 1) := by decide +kernel
theorem dL_law_1016 : decode cL_law 1016 = .ok (.aload_n 1, 1) := by decide +kernel
theorem dL_law_1017 : decode cL_law 1017 = .ok (.aload_n 0, 1) := by decide +kernel
theorem dL_law_1018 : decode cL_law 1018 = .ok (.iload_n 3, 1) := by decide +kernel
theorem dL_law_1019 : decode cL_law 1019 = .ok (.iconst 1, 1) := by decide +kernel
theorem dL_law_1020 : decode cL_law 1020 = .ok (.iadd, 1) := by decide +kernel
theorem dL_law_1021 : decode cL_law 1021 = .ok (.iaload, 1) := by decide +kernel
theorem dL_law_1022 : decode cL_law 1022 = .ok (.invokevirtual 127, 3) := by decide +kernel
theorem dL_law_1025 : decode cL_law 1025 = .ok (.aload_n 2, 1) := by decide +kernel
theorem dL_law_1026 : decode cL_law 1026 = .ok (.aload_n 0, 1) := by decide +kernel
theorem dL_law_1027 : decode cL_law 1027 = .ok (.iload_n 3, 1) := by decide +kernel
theorem dL_law_1028 : decode cL_law 1028 = .ok (.iconst 1, 1) := by decide +kernel
theorem dL_law_1029 : decode cL_law 1029 = .ok (.iadd, 1) := by decide +kernel
theorem dL_law_1030 : decode cL_law 1030 = .ok (.iaload, 1) := by decide +kernel
theorem dL_law_1031 : decode cL_law 1031 = .ok (.invokevirtual 130, 3) := by decide +kernel
theorem dL_law_1034 : decode cL_law 1034 = .ok (.if_icmp .eq 497, 3) := by decide +kernel
theorem dL_law_1037 : decode cL_law 1037 = .ok (.iconst 0, 1) := by decide +kernel
theorem dL_law_1038 : decode cL_law 1038 = .ok (.ireturn, 1) := by decide +kernel
theorem dL_law_1039 : decode cL_law 1039 = .ok (.aload_n 1, 1) := by decide +kernel
theorem dL_law_1040 : decode cL_law 1040 = .ok (.invokevirtual 131, 3) := by decide +kernel
theorem dL_law_1043 : decode cL_law 1043 = .ok (.aload_n 2, 1) := by decide +kernel
theorem dL_law_1044 : decode cL_law 1044 = .ok (.invokevirtual 134, 3) := by decide +kernel
theorem dL_law_1047 : decode cL_law 1047 = .ok (.if_icmp .eq 484, 3) := by decide +kernel
theorem dL_law_1050 : decode cL_law 1050 = .ok (.iconst 0, 1) := by decide +kernel
theorem dL_law_1051 : decode cL_law 1051 = .ok (.ireturn, 1) := by decide +kernel
theorem dL_law_1052 : decode cL_law 1052 = .ok (.aload_n 1, 1) := by decide +kernel
theorem dL_law_1053 : decode cL_law 1053 = .ok (.aload_n 0, 1) := by decide +kernel
theorem dL_law_1054 : decode cL_law 1054 = .ok (.iload_n 3, 1) := by decide +kernel
theorem dL_law_1055 : decode cL_law 1055 = .ok (.iconst 1, 1) := by decide +kernel
theorem dL_law_1056 : decode cL_law 1056 = .ok (.iadd, 1) := by decide +kernel
theorem dL_law_1057 : decode cL_law 1057 = .ok (.iaload, 1) := by decide +kernel
theorem dL_law_1058 : decode cL_law 1058 = .ok (.invokevirtual 135, 3) := by decide +kernel
theorem dL_law_1061 : decode cL_law 1061 = .ok (.aload_n 2, 1) := by decide +kernel
theorem dL_law_1062 : decode cL_law 1062 = .ok (.aload_n 0, 1) := by decide +kernel
theorem dL_law_1063 : decode cL_law 1063 = .ok (.iload_n 3, 1) := by decide +kernel
theorem dL_law_1064 : decode cL_law 1064 = .ok (.iconst 1, 1) := by decide +kernel
theorem dL_law_1065 : decode cL_law 1065 = .ok (.iadd, 1) := by decide +kernel
theorem dL_law_1066 : decode cL_law 1066 = .ok (.iaload, 1) := by decide +kernel
theorem dL_law_1067 : decode cL_law 1067 = .ok (.invokevirtual 138, 3) := by decide +kernel
theorem dL_law_1070 : decode cL_law 1070 = .ok (.lcmp, 1) := by decide +kernel
theorem dL_law_1071 : decode cL_law 1071 = .ok (.ifCond .eq 460, 3) := by decide +kernel
theorem dL_law_1074 : decode cL_law 1074 = .ok (.iconst 0, 1) := by decide +kernel
theorem dL_law_1075 : decode cL_law 1075 = .ok (.ireturn, 1) := by decide +kernel
theorem dL_law_1076 : decode cL_law 1076 = .ok (.aload_n 1, 1) := by decide +kernel
theorem dL_law_1077 : decode cL_law 1077 = .ok (.invokevirtual 139, 3) := by decide +kernel
theorem dL_law_1080 : decode cL_law 1080 = .ok (.aload_n 2, 1) := by decide +kernel
theorem dL_law_1081 : decode cL_law 1081 = .ok (.invokevirtual 142, 3) := by decide +kernel
theorem dL_law_1084 : decode cL_law 1084 = .ok (.if_icmp .eq 447, 3) := by decide +kernel
theorem dL_law_1087 : decode cL_law 1087 = .ok (.iconst 0, 1) := by decide +kernel
theorem dL_law_1088 : decode cL_law 1088 = .ok (.ireturn, 1) := by decide +kernel
theorem dL_law_1089 : decode cL_law 1089 = .ok (.aload_n 1, 1) := by decide +kernel
theorem dL_law_1090 : decode cL_law 1090 = .ok (.aload_n 0, 1) := by decide +kernel
theorem dL_law_1091 : decode cL_law 1091 = .ok (.iload_n 3, 1) := by decide +kernel
theorem dL_law_1092 : decode cL_law 1092 = .ok (.iconst 1, 1) := by decide +kernel
theorem dL_law_1093 : decode cL_law 1093 = .ok (.iadd, 1) := by decide +kernel
theorem dL_law_1094 : decode cL_law 1094 = .ok (.iaload, 1) := by decide +kernel
theorem dL_law_1095 : decode cL_law 1095 = .ok (.invokevirtual 143, 3) := by decide +kernel
theorem dL_law_1098 : decode cL_law 1098 = .ok (.aload_n 2, 1) := by decide +kernel
theorem dL_law_1099 : decode cL_law 1099 = .ok (.aload_n 0, 1) := by decide +kernel
theorem dL_law_1100 : decode cL_law 1100 = .ok (.iload_n 3, 1) := by decide +kernel
theorem dL_law_1101 : decode cL_law 1101 = .ok (.iconst 1, 1) := by decide +kernel
theorem dL_law_1102 : decode cL_law 1102 = .ok (.iadd, 1) := by decide +kernel
theorem dL_law_1103 : decode cL_law 1103 = .ok (.iaload, 1) := by decide +kernel
theorem dL_law_1104 : decode cL_law 1104 = .ok (.invokevirtual 146, 3) := by decide +kernel
theorem dL_law_1107 : decode cL_law 1107 = .ok (.if_icmp .eq 424, 3) := by decide +kernel
theorem dL_law_1110 : decode cL_law 1110 = .ok (.iconst 0, 1) := by decide +kernel
theorem dL_law_1111 : decode cL_law 1111 = .ok (.ireturn, 1) := by decide +kernel
theorem dL_law_1112 : decode cL_law 1112 = .ok (.aload_n 1, 1) := by decide +kernel
theorem dL_law_1113 : decode cL_law 1113 = .ok (.aload_n 0, 1) := by decide +kernel
theorem dL_law_1114 : decode cL_law 1114 = .ok (.iload_n 3, 1) := by decide +kernel
theorem dL_law_1115 : decode cL_law 1115 = .ok (.iconst 1, 1) := by decide +kernel
theorem dL_law_1116 : decode cL_law 1116 = .ok (.iadd, 1) := by decide +kernel
theorem dL_law_1117 : decode cL_law 1117 = .ok (.iaload, 1) := by decide +kernel
theorem dL_law_1118 : decode cL_law 1118 = .ok (.invokevirtual 147, 3) := by decide +kernel
theorem dL_law_1121 : decode cL_law 1121 = .ok (.aload_n 2, 1) := by decide +kernel
theorem dL_law_1122 : decode cL_law 1122 = .ok (.aload_n 0, 1) := by decide +kernel
theorem dL_law_1123 : decode cL_law 1123 = .ok (.iload_n 3, 1) := by decide +kernel
theorem dL_law_1124 : decode cL_law 1124 = .ok (.iconst 1, 1) := by decide +kernel
theorem dL_law_1125 : decode cL_law 1125 = .ok (.iadd, 1) := by decide +kernel
theorem dL_law_1126 : decode cL_law 1126 = .ok (.iaload, 1) := by decide +kernel
theorem dL_law_1127 : decode cL_law 1127 = .ok (.invokevirtual 150, 3) := by decide +kernel
theorem dL_law_1130 : decode cL_law 1130 = .ok (.if_icmp .eq 401, 3) := by decide +kernel
theorem dL_law_1133 : decode cL_law 1133 = .ok (.iconst 0, 1) := by decide +kernel
theorem dL_law_1134 : decode cL_law 1134 = .ok (.ireturn, 1) := by decide +kernel
theorem dL_law_1135 : decode cL_law 1135 = .ok (.aload_n 1, 1) := by decide +kernel
theorem dL_law_1136 : decode cL_law 1136 = .ok (.aload_n 0, 1) := by decide +kernel
theorem dL_law_1137 : decode cL_law 1137 = .ok (.iload_n 3, 1) := by decide +kernel
theorem dL_law_1138 : decode cL_law 1138 = .ok (.iconst 1, 1) := by decide +kernel
theorem dL_law_1139 : decode cL_law 1139 = .ok (.iadd, 1) := by decide +kernel
theorem dL_law_1140 : decode cL_law 1140 = .ok (.iaload, 1) := by decide +kernel
theorem dL_law_1141 : decode cL_law 1141 = .ok (.invokevirtual 151, 3) := by decide +kernel
theorem dL_law_1144 : decode cL_law 1144 = .ok (.aload_n 2, 1) := by decide +kernel
theorem dL_law_1145 : decode cL_law 1145 = .ok (.aload_n 0, 1) := by decide +kernel
theorem dL_law_1146 : decode cL_law 1146 = .ok (.iload_n 3, 1) := by decide +kernel
theorem dL_law_1147 : decode cL_law 1147 = .ok (.iconst 1, 1) := by decide +kernel
theorem dL_law_1148 : decode cL_law 1148 = .ok (.iadd, 1) := by decide +kernel
theorem dL_law_1149 : decode cL_law 1149 = .ok (.iaload, 1) := by decide +kernel
theorem dL_law_1150 : decode cL_law 1150 = .ok (.invokevirtual 154, 3) := by decide +kernel
theorem dL_law_1153 : decode cL_law 1153 = .ok (.if_icmp .eq 378, 3) := by decide +kernel
theorem dL_law_1156 : decode cL_law 1156 = .ok (.iconst 0, 1) := by decide +kernel
theorem dL_law_1157 : decode cL_law 1157 = .ok (.ireturn, 1) := by decide +kernel
theorem dL_law_1158 : decode cL_law 1158 = .ok (.aload_n 1, 1) := by decide +kernel
theorem dL_law_1159 : decode cL_law 1159 = .ok (.invokevirtual 155, 3) := by decide +kernel
theorem dL_law_1162 : decode cL_law 1162 = .ok (.aload_n 2, 1) := by decide +kernel
theorem dL_law_1163 : decode cL_law 1163 = .ok (.invokevirtual 158, 3) := by decide +kernel
theorem dL_law_1166 : decode cL_law 1166 = .ok (.if_icmp .eq 365, 3) := by decide +kernel
theorem dL_law_1169 : decode cL_law 1169 = .ok (.iconst 0, 1) := by decide +kernel
theorem dL_law_1170 : decode cL_law 1170 = .ok (.ireturn, 1) := by decide +kernel
theorem dL_law_1171 : decode cL_law 1171 = .ok (.aload_n 1, 1) := by decide +kernel
theorem dL_law_1172 : decode cL_law 1172 = .ok (.aload_n 0, 1) := by decide +kernel
theorem dL_law_1173 : decode cL_law 1173 = .ok (.iload_n 3, 1) := by decide +kernel
theorem dL_law_1174 : decode cL_law 1174 = .ok (.iconst 1, 1) := by decide +kernel
theorem dL_law_1175 : decode cL_law 1175 = .ok (.iadd, 1) := by decide +kernel
theorem dL_law_1176 : decode cL_law 1176 = .ok (.iaload, 1) := by decide +kernel
theorem dL_law_1177 : decode cL_law 1177 = .ok (.aload_n 0, 1) := by decide +kernel
theorem dL_law_1178 : decode cL_law 1178 = .ok (.iload_n 3, 1) := by decide +kernel
theorem dL_law_1179 : decode cL_law 1179 = .ok (.iconst 2, 1) := by decide +kernel
theorem dL_law_1180 : decode cL_law 1180 = .ok (.iadd, 1) := by decide +kernel
theorem dL_law_1181 : decode cL_law 1181 = .ok (.iaload, 1) := by decide +kernel
theorem dL_law_1182 : decode cL_law 1182 = .ok (.invokevirtual 159, 3) := by decide +kernel
theorem dL_law_1185 : decode cL_law 1185 = .ok (.aload_n 2, 1) := by decide +kernel
theorem dL_law_1186 : decode cL_law 1186 = .ok (.aload_n 0, 1) := by decide +kernel
theorem dL_law_1187 : decode cL_law 1187 = .ok (.iload_n 3, 1) := by decide +kernel
theorem dL_law_1188 : decode cL_law 1188 = .ok (.iconst 1, 1) := by decide +kernel
theorem dL_law_1189 : decode cL_law 1189 = .ok (.iadd, 1) := by decide +kernel
theorem dL_law_1190 : decode cL_law 1190 = .ok (.iaload, 1) := by decide +kernel
theorem dL_law_1191 : decode cL_law 1191 = .ok (.aload_n 0, 1) := by decide +kernel
theorem dL_law_1192 : decode cL_law 1192 = .ok (.iload_n 3, 1) := by decide +kernel
theorem dL_law_1193 : decode cL_law 1193 = .ok (.iconst 2, 1) := by decide +kernel
theorem dL_law_1194 : decode cL_law 1194 = .ok (.iadd, 1) := by decide +kernel
theorem dL_law_1195 : decode cL_law 1195 = .ok (.iaload, 1) := by decide +kernel
theorem dL_law_1196 : decode cL_law 1196 = .ok (.invokevirtual 162, 3) := by decide +kernel
theorem dL_law_1199 : decode cL_law 1199 = .ok (.if_icmp .eq 332, 3) := by decide +kernel
theorem dL_law_1202 : decode cL_law 1202 = .ok (.iconst 0, 1) := by decide +kernel
theorem dL_law_1203 : decode cL_law 1203 = .ok (.ireturn, 1) := by decide +kernel
theorem dL_law_1204 : decode cL_law 1204 = .ok (.aload_n 1, 1) := by decide +kernel
theorem dL_law_1205 : decode cL_law 1205 = .ok (.aload_n 0, 1) := by decide +kernel
theorem dL_law_1206 : decode cL_law 1206 = .ok (.iload_n 3, 1) := by decide +kernel
theorem dL_law_1207 : decode cL_law 1207 = .ok (.iconst 1, 1) := by decide +kernel
theorem dL_law_1208 : decode cL_law 1208 = .ok (.iadd, 1) := by decide +kernel
theorem dL_law_1209 : decode cL_law 1209 = .ok (.iaload, 1) := by decide +kernel
theorem dL_law_1210 : decode cL_law 1210 = .ok (.aload_n 0, 1) := by decide +kernel
theorem dL_law_1211 : decode cL_law 1211 = .ok (.iload_n 3, 1) := by decide +kernel
theorem dL_law_1212 : decode cL_law 1212 = .ok (.iconst 2, 1) := by decide +kernel
theorem dL_law_1213 : decode cL_law 1213 = .ok (.iadd, 1) := by decide +kernel
theorem dL_law_1214 : decode cL_law 1214 = .ok (.iaload, 1) := by decide +kernel
theorem dL_law_1215 : decode cL_law 1215 = .ok (.invokevirtual 163, 3) := by decide +kernel
theorem dL_law_1218 : decode cL_law 1218 = .ok (.aload_n 2, 1) := by decide +kernel
theorem dL_law_1219 : decode cL_law 1219 = .ok (.aload_n 0, 1) := by decide +kernel
theorem dL_law_1220 : decode cL_law 1220 = .ok (.iload_n 3, 1) := by decide +kernel
theorem dL_law_1221 : decode cL_law 1221 = .ok (.iconst 1, 1) := by decide +kernel
theorem dL_law_1222 : decode cL_law 1222 = .ok (.iadd, 1) := by decide +kernel
theorem dL_law_1223 : decode cL_law 1223 = .ok (.iaload, 1) := by decide +kernel
theorem dL_law_1224 : decode cL_law 1224 = .ok (.aload_n 0, 1) := by decide +kernel
theorem dL_law_1225 : decode cL_law 1225 = .ok (.iload_n 3, 1) := by decide +kernel
theorem dL_law_1226 : decode cL_law 1226 = .ok (.iconst 2, 1) := by decide +kernel
theorem dL_law_1227 : decode cL_law 1227 = .ok (.iadd, 1) := by decide +kernel
theorem dL_law_1228 : decode cL_law 1228 = .ok (.iaload, 1) := by decide +kernel
theorem dL_law_1229 : decode cL_law 1229 = .ok (.invokevirtual 166, 3) := by decide +kernel
theorem dL_law_1232 : decode cL_law 1232 = .ok (.if_icmp .eq 299, 3) := by decide +kernel
theorem dL_law_1235 : decode cL_law 1235 = .ok (.iconst 0, 1) := by decide +kernel
theorem dL_law_1236 : decode cL_law 1236 = .ok (.ireturn, 1) := by decide +kernel
theorem dL_law_1237 : decode cL_law 1237 = .ok (.aload_n 1, 1) := by decide +kernel
theorem dL_law_1238 : decode cL_law 1238 = .ok (.aload_n 0, 1) := by decide +kernel
theorem dL_law_1239 : decode cL_law 1239 = .ok (.iload_n 3, 1) := by decide +kernel
theorem dL_law_1240 : decode cL_law 1240 = .ok (.iconst 1, 1) := by decide +kernel
theorem dL_law_1241 : decode cL_law 1241 = .ok (.iadd, 1) := by decide +kernel
theorem dL_law_1242 : decode cL_law 1242 = .ok (.iaload, 1) := by decide +kernel
theorem dL_law_1243 : decode cL_law 1243 = .ok (.aload_n 0, 1) := by decide +kernel
theorem dL_law_1244 : decode cL_law 1244 = .ok (.iload_n 3, 1) := by decide +kernel
theorem dL_law_1245 : decode cL_law 1245 = .ok (.iconst 2, 1) := by decide +kernel
theorem dL_law_1246 : decode cL_law 1246 = .ok (.iadd, 1) := by decide +kernel
theorem dL_law_1247 : decode cL_law 1247 = .ok (.iaload, 1) := by decide +kernel
theorem dL_law_1248 : decode cL_law 1248 = .ok (.invokevirtual 167, 3) := by decide +kernel
theorem dL_law_1251 : decode cL_law 1251 = .ok (.aload_n 2, 1) := by decide +kernel
theorem dL_law_1252 : decode cL_law 1252 = .ok (.aload_n 0, 1) := by decide +kernel
theorem dL_law_1253 : decode cL_law 1253 = .ok (.iload_n 3, 1) := by decide +kernel
theorem dL_law_1254 : decode cL_law 1254 = .ok (.iconst 1, 1) := by decide +kernel
theorem dL_law_1255 : decode cL_law 1255 = .ok (.iadd, 1) := by decide +kernel
theorem dL_law_1256 : decode cL_law 1256 = .ok (.iaload, 1) := by decide +kernel
theorem dL_law_1257 : decode cL_law 1257 = .ok (.aload_n 0, 1) := by decide +kernel
theorem dL_law_1258 : decode cL_law 1258 = .ok (.iload_n 3, 1) := by decide +kernel
theorem dL_law_1259 : decode cL_law 1259 = .ok (.iconst 2, 1) := by decide +kernel
theorem dL_law_1260 : decode cL_law 1260 = .ok (.iadd, 1) := by decide +kernel
theorem dL_law_1261 : decode cL_law 1261 = .ok (.iaload, 1) := by decide +kernel
theorem dL_law_1262 : decode cL_law 1262 = .ok (.invokevirtual 170, 3) := by decide +kernel
theorem dL_law_1265 : decode cL_law 1265 = .ok (.if_icmp .eq 266, 3) := by decide +kernel
theorem dL_law_1268 : decode cL_law 1268 = .ok (.iconst 0, 1) := by decide +kernel
theorem dL_law_1269 : decode cL_law 1269 = .ok (.ireturn, 1) := by decide +kernel
theorem dL_law_1270 : decode cL_law 1270 = .ok (.aload_n 1, 1) := by decide +kernel
theorem dL_law_1271 : decode cL_law 1271 = .ok (.invokevirtual 171, 3) := by decide +kernel
theorem dL_law_1274 : decode cL_law 1274 = .ok (.aload_n 2, 1) := by decide +kernel
theorem dL_law_1275 : decode cL_law 1275 = .ok (.invokevirtual 174, 3) := by decide +kernel
theorem dL_law_1278 : decode cL_law 1278 = .ok (.if_icmp .eq 253, 3) := by decide +kernel
theorem dL_law_1281 : decode cL_law 1281 = .ok (.iconst 0, 1) := by decide +kernel
theorem dL_law_1282 : decode cL_law 1282 = .ok (.ireturn, 1) := by decide +kernel
theorem dL_law_1283 : decode cL_law 1283 = .ok (.aload_n 1, 1) := by decide +kernel
theorem dL_law_1284 : decode cL_law 1284 = .ok (.invokevirtual 175, 3) := by decide +kernel
theorem dL_law_1287 : decode cL_law 1287 = .ok (.aload_n 2, 1) := by decide +kernel
theorem dL_law_1288 : decode cL_law 1288 = .ok (.invokevirtual 178, 3) := by decide +kernel
theorem dL_law_1291 : decode cL_law 1291 = .ok (.if_icmp .eq 240, 3) := by decide +kernel
theorem dL_law_1294 : decode cL_law 1294 = .ok (.iconst 0, 1) := by decide +kernel
theorem dL_law_1295 : decode cL_law 1295 = .ok (.ireturn, 1) := by decide +kernel
theorem dL_law_1296 : decode cL_law 1296 = .ok (.aload_n 1, 1) := by decide +kernel
theorem dL_law_1297 : decode cL_law 1297 = .ok (.aload_n 0, 1) := by decide +kernel
theorem dL_law_1298 : decode cL_law 1298 = .ok (.iload_n 3, 1) := by decide +kernel
theorem dL_law_1299 : decode cL_law 1299 = .ok (.iconst 1, 1) := by decide +kernel
theorem dL_law_1300 : decode cL_law 1300 = .ok (.iadd, 1) := by decide +kernel
theorem dL_law_1301 : decode cL_law 1301 = .ok (.iaload, 1) := by decide +kernel
theorem dL_law_1302 : decode cL_law 1302 = .ok (.aload_n 0, 1) := by decide +kernel
theorem dL_law_1303 : decode cL_law 1303 = .ok (.iload_n 3, 1) := by decide +kernel
theorem dL_law_1304 : decode cL_law 1304 = .ok (.iconst 2, 1) := by decide +kernel
theorem dL_law_1305 : decode cL_law 1305 = .ok (.iadd, 1) := by decide +kernel
theorem dL_law_1306 : decode cL_law 1306 = .ok (.iaload, 1) := by decide +kernel
theorem dL_law_1307 : decode cL_law 1307 = .ok (.aload_n 0, 1) := by decide +kernel
theorem dL_law_1308 : decode cL_law 1308 = .ok (.iload_n 3, 1) := by decide +kernel
theorem dL_law_1309 : decode cL_law 1309 = .ok (.iconst 3, 1) := by decide +kernel
theorem dL_law_1310 : decode cL_law 1310 = .ok (.iadd, 1) := by decide +kernel
theorem dL_law_1311 : decode cL_law 1311 = .ok (.iaload, 1) := by decide +kernel
theorem dL_law_1312 : decode cL_law 1312 = .ok (.invokevirtual 179, 3) := by decide +kernel
theorem dL_law_1315 : decode cL_law 1315 = .ok (.aload_n 2, 1) := by decide +kernel
theorem dL_law_1316 : decode cL_law 1316 = .ok (.aload_n 0, 1) := by decide +kernel
theorem dL_law_1317 : decode cL_law 1317 = .ok (.iload_n 3, 1) := by decide +kernel
theorem dL_law_1318 : decode cL_law 1318 = .ok (.iconst 1, 1) := by decide +kernel
theorem dL_law_1319 : decode cL_law 1319 = .ok (.iadd, 1) := by decide +kernel
theorem dL_law_1320 : decode cL_law 1320 = .ok (.iaload, 1) := by decide +kernel
theorem dL_law_1321 : decode cL_law 1321 = .ok (.aload_n 0, 1) := by decide +kernel
theorem dL_law_1322 : decode cL_law 1322 = .ok (.iload_n 3, 1) := by decide +kernel
theorem dL_law_1323 : decode cL_law 1323 = .ok (.iconst 2, 1) := by decide +kernel
theorem dL_law_1324 : decode cL_law 1324 = .ok (.iadd, 1) := by decide +kernel
theorem dL_law_1325 : decode cL_law 1325 = .ok (.iaload, 1) := by decide +kernel
theorem dL_law_1326 : decode cL_law 1326 = .ok (.aload_n 0, 1) := by decide +kernel
theorem dL_law_1327 : decode cL_law 1327 = .ok (.iload_n 3, 1) := by decide +kernel
theorem dL_law_1328 : decode cL_law 1328 = .ok (.iconst 3, 1) := by decide +kernel
theorem dL_law_1329 : decode cL_law 1329 = .ok (.iadd, 1) := by decide +kernel
theorem dL_law_1330 : decode cL_law 1330 = .ok (.iaload, 1) := by decide +kernel
theorem dL_law_1331 : decode cL_law 1331 = .ok (.invokevirtual 182, 3) := by decide +kernel
theorem dL_law_1334 : decode cL_law 1334 = .ok (.if_icmp .eq 197, 3) := by decide +kernel
theorem dL_law_1337 : decode cL_law 1337 = .ok (.iconst 0, 1) := by decide +kernel
theorem dL_law_1338 : decode cL_law 1338 = .ok (.ireturn, 1) := by decide +kernel
theorem dL_law_1339 : decode cL_law 1339 = .ok (.aload_n 1, 1) := by decide +kernel
theorem dL_law_1340 : decode cL_law 1340 = .ok (.aload_n 0, 1) := by decide +kernel
theorem dL_law_1341 : decode cL_law 1341 = .ok (.iload_n 3, 1) := by decide +kernel
theorem dL_law_1342 : decode cL_law 1342 = .ok (.iconst 1, 1) := by decide +kernel
theorem dL_law_1343 : decode cL_law 1343 = .ok (.iadd, 1) := by decide +kernel
theorem dL_law_1344 : decode cL_law 1344 = .ok (.iaload, 1) := by decide +kernel
theorem dL_law_1345 : decode cL_law 1345 = .ok (.aload_n 0, 1) := by decide +kernel
theorem dL_law_1346 : decode cL_law 1346 = .ok (.iload_n 3, 1) := by decide +kernel
theorem dL_law_1347 : decode cL_law 1347 = .ok (.iconst 2, 1) := by decide +kernel
theorem dL_law_1348 : decode cL_law 1348 = .ok (.iadd, 1) := by decide +kernel
theorem dL_law_1349 : decode cL_law 1349 = .ok (.iaload, 1) := by decide +kernel
theorem dL_law_1350 : decode cL_law 1350 = .ok (.aload_n 0, 1) := by decide +kernel
theorem dL_law_1351 : decode cL_law 1351 = .ok (.iload_n 3, 1) := by decide +kernel
theorem dL_law_1352 : decode cL_law 1352 = .ok (.iconst 3, 1) := by decide +kernel
theorem dL_law_1353 : decode cL_law 1353 = .ok (.iadd, 1) := by decide +kernel
theorem dL_law_1354 : decode cL_law 1354 = .ok (.iaload, 1) := by decide +kernel
theorem dL_law_1355 : decode cL_law 1355 = .ok (.invokevirtual 183, 3) := by decide +kernel
theorem dL_law_1358 : decode cL_law 1358 = .ok (.aload_n 2, 1) := by decide +kernel
theorem dL_law_1359 : decode cL_law 1359 = .ok (.aload_n 0, 1) := by decide +kernel
theorem dL_law_1360 : decode cL_law 1360 = .ok (.iload_n 3, 1) := by decide +kernel
theorem dL_law_1361 : decode cL_law 1361 = .ok (.iconst 1, 1) := by decide +kernel
theorem dL_law_1362 : decode cL_law 1362 = .ok (.iadd, 1) := by decide +kernel
theorem dL_law_1363 : decode cL_law 1363 = .ok (.iaload, 1) := by decide +kernel
theorem dL_law_1364 : decode cL_law 1364 = .ok (.aload_n 0, 1) := by decide +kernel
theorem dL_law_1365 : decode cL_law 1365 = .ok (.iload_n 3, 1) := by decide +kernel
theorem dL_law_1366 : decode cL_law 1366 = .ok (.iconst 2, 1) := by decide +kernel
theorem dL_law_1367 : decode cL_law 1367 = .ok (.iadd, 1) := by decide +kernel
theorem dL_law_1368 : decode cL_law 1368 = .ok (.iaload, 1) := by decide +kernel
theorem dL_law_1369 : decode cL_law 1369 = .ok (.aload_n 0, 1) := by decide +kernel
theorem dL_law_1370 : decode cL_law 1370 = .ok (.iload_n 3, 1) := by decide +kernel
theorem dL_law_1371 : decode cL_law 1371 = .ok (.iconst 3, 1) := by decide +kernel
theorem dL_law_1372 : decode cL_law 1372 = .ok (.iadd, 1) := by decide +kernel
theorem dL_law_1373 : decode cL_law 1373 = .ok (.iaload, 1) := by decide +kernel
theorem dL_law_1374 : decode cL_law 1374 = .ok (.invokevirtual 186, 3) := by decide +kernel
theorem dL_law_1377 : decode cL_law 1377 = .ok (.if_icmp .eq 154, 3) := by decide +kernel
theorem dL_law_1380 : decode cL_law 1380 = .ok (.iconst 0, 1) := by decide +kernel
theorem dL_law_1381 : decode cL_law 1381 = .ok (.ireturn, 1) := by decide +kernel
theorem dL_law_1382 : decode cL_law 1382 = .ok (.aload_n 1, 1) := by decide +kernel
theorem dL_law_1383 : decode cL_law 1383 = .ok (.aload_n 0, 1) := by decide +kernel
theorem dL_law_1384 : decode cL_law 1384 = .ok (.iload_n 3, 1) := by decide +kernel
theorem dL_law_1385 : decode cL_law 1385 = .ok (.iconst 1, 1) := by decide +kernel
theorem dL_law_1386 : decode cL_law 1386 = .ok (.iadd, 1) := by decide +kernel
theorem dL_law_1387 : decode cL_law 1387 = .ok (.iaload, 1) := by decide +kernel
theorem dL_law_1388 : decode cL_law 1388 = .ok (.aload_n 0, 1) := by decide +kernel
theorem dL_law_1389 : decode cL_law 1389 = .ok (.iload_n 3, 1) := by decide +kernel
theorem dL_law_1390 : decode cL_law 1390 = .ok (.iconst 2, 1) := by decide +kernel
theorem dL_law_1391 : decode cL_law 1391 = .ok (.iadd, 1) := by decide +kernel
theorem dL_law_1392 : decode cL_law 1392 = .ok (.iaload, 1) := by decide +kernel
theorem dL_law_1393 : decode cL_law 1393 = .ok (.aload_n 0, 1) := by decide +kernel
theorem dL_law_1394 : decode cL_law 1394 = .ok (.iload_n 3, 1) := by decide +kernel
theorem dL_law_1395 : decode cL_law 1395 = .ok (.iconst 3, 1) := by decide +kernel
theorem dL_law_1396 : decode cL_law 1396 = .ok (.iadd, 1) := by decide +kernel
theorem dL_law_1397 : decode cL_law 1397 = .ok (.iaload, 1) := by decide +kernel
theorem dL_law_1398 : decode cL_law 1398 = .ok (.aload_n 0, 1) := by decide +kernel
theorem dL_law_1399 : decode cL_law 1399 = .ok (.iload_n 3, 1) := by decide +kernel
theorem dL_law_1400 : decode cL_law 1400 = .ok (.iconst 4, 1) := by decide +kernel
theorem dL_law_1401 : decode cL_law 1401 = .ok (.iadd, 1) := by decide +kernel
theorem dL_law_1402 : decode cL_law 1402 = .ok (.iaload, 1) := by decide +kernel
theorem dL_law_1403 : decode cL_law 1403 = .ok (.aload_n 0, 1) := by decide +kernel
theorem dL_law_1404 : decode cL_law 1404 = .ok (.iload_n 3, 1) := by decide +kernel
theorem dL_law_1405 : decode cL_law 1405 = .ok (.iconst 5, 1) := by decide +kernel
theorem dL_law_1406 : decode cL_law 1406 = .ok (.iadd, 1) := by decide +kernel
theorem dL_law_1407 : decode cL_law 1407 = .ok (.iaload, 1) := by decide +kernel
theorem dL_law_1408 : decode cL_law 1408 = .ok (.invokevirtual 187, 3) := by decide +kernel
theorem dL_law_1411 : decode cL_law 1411 = .ok (.aload_n 2, 1) := by decide +kernel
theorem dL_law_1412 : decode cL_law 1412 = .ok (.aload_n 0, 1) := by decide +kernel
theorem dL_law_1413 : decode cL_law 1413 = .ok (.iload_n 3, 1) := by decide +kernel
theorem dL_law_1414 : decode cL_law 1414 = .ok (.iconst 1, 1) := by decide +kernel
theorem dL_law_1415 : decode cL_law 1415 = .ok (.iadd, 1) := by decide +kernel
theorem dL_law_1416 : decode cL_law 1416 = .ok (.iaload, 1) := by decide +kernel
theorem dL_law_1417 : decode cL_law 1417 = .ok (.aload_n 0, 1) := by decide +kernel
theorem dL_law_1418 : decode cL_law 1418 = .ok (.iload_n 3, 1) := by decide +kernel
theorem dL_law_1419 : decode cL_law 1419 = .ok (.iconst 2, 1) := by decide +kernel
theorem dL_law_1420 : decode cL_law 1420 = .ok (.iadd, 1) := by decide +kernel
theorem dL_law_1421 : decode cL_law 1421 = .ok (.iaload, 1) := by decide +kernel
theorem dL_law_1422 : decode cL_law 1422 = .ok (.aload_n 0, 1) := by decide +kernel
theorem dL_law_1423 : decode cL_law 1423 = .ok (.iload_n 3, 1) := by decide +kernel
theorem dL_law_1424 : decode cL_law 1424 = .ok (.iconst 3, 1) := by decide +kernel
theorem dL_law_1425 : decode cL_law 1425 = .ok (.iadd, 1) := by decide +kernel
theorem dL_law_1426 : decode cL_law 1426 = .ok (.iaload, 1) := by decide +kernel
theorem dL_law_1427 : decode cL_law 1427 = .ok (.aload_n 0, 1) := by decide +kernel
theorem dL_law_1428 : decode cL_law 1428 = .ok (.iload_n 3, 1) := by decide +kernel
theorem dL_law_1429 : decode cL_law 1429 = .ok (.iconst 4, 1) := by decide +kernel
theorem dL_law_1430 : decode cL_law 1430 = .ok (.iadd, 1) := by decide +kernel
theorem dL_law_1431 : decode cL_law 1431 = .ok (.iaload, 1) := by decide +kernel
theorem dL_law_1432 : decode cL_law 1432 = .ok (.aload_n 0, 1) := by decide +kernel
theorem dL_law_1433 : decode cL_law 1433 = .ok (.iload_n 3, 1) := by decide +kernel
theorem dL_law_1434 : decode cL_law 1434 = .ok (.iconst 5, 1) := by decide +kernel
theorem dL_law_1435 : decode cL_law 1435 = .ok (.iadd, 1) := by decide +kernel
theorem dL_law_1436 : decode cL_law 1436 = .ok (.iaload, 1) := by decide +kernel
theorem dL_law_1437 : decode cL_law 1437 = .ok (.invokevirtual 191, 3) := by decide +kernel
theorem dL_law_1440 : decode cL_law 1440 = .ok (.if_icmp .eq 91, 3) := by decide +kernel
theorem dL_law_1443 : decode cL_law 1443 = .ok (.iconst 0, 1) := by decide +kernel
theorem dL_law_1444 : decode cL_law 1444 = .ok (.ireturn, 1) := by decide +kernel
theorem dL_law_1445 : decode cL_law 1445 = .ok (.aload_n 1, 1) := by decide +kernel
theorem dL_law_1446 : decode cL_law 1446 = .ok (.aload_n 0, 1) := by decide +kernel
theorem dL_law_1447 : decode cL_law 1447 = .ok (.iload_n 3, 1) := by decide +kernel
theorem dL_law_1448 : decode cL_law 1448 = .ok (.iconst 1, 1) := by decide +kernel
theorem dL_law_1449 : decode cL_law 1449 = .ok (.iadd, 1) := by decide +kernel
theorem dL_law_1450 : decode cL_law 1450 = .ok (.iaload, 1) := by decide +kernel
theorem dL_law_1451 : decode cL_law 1451 = .ok (.aload_n 0, 1) := by decide +kernel
theorem dL_law_1452 : decode cL_law 1452 = .ok (.iload_n 3, 1) := by decide +kernel
theorem dL_law_1453 : decode cL_law 1453 = .ok (.iconst 2, 1) := by decide +kernel
theorem dL_law_1454 : decode cL_law 1454 = .ok (.iadd, 1) := by decide +kernel
theorem dL_law_1455 : decode cL_law 1455 = .ok (.iaload, 1) := by decide +kernel
theorem dL_law_1456 : decode cL_law 1456 = .ok (.aload_n 0, 1) := by decide +kernel
theorem dL_law_1457 : decode cL_law 1457 = .ok (.iload_n 3, 1) := by decide +kernel
theorem dL_law_1458 : decode cL_law 1458 = .ok (.iconst 3, 1) := by decide +kernel
theorem dL_law_1459 : decode cL_law 1459 = .ok (.iadd, 1) := by decide +kernel
theorem dL_law_1460 : decode cL_law 1460 = .ok (.iaload, 1) := by decide +kernel
theorem dL_law_1461 : decode cL_law 1461 = .ok (.aload_n 0, 1) := by decide +kernel
theorem dL_law_1462 : decode cL_law 1462 = .ok (.iload_n 3, 1) := by decide +kernel
theorem dL_law_1463 : decode cL_law 1463 = .ok (.iconst 4, 1) := by decide +kernel
theorem dL_law_1464 : decode cL_law 1464 = .ok (.iadd, 1) := by decide +kernel
theorem dL_law_1465 : decode cL_law 1465 = .ok (.iaload, 1) := by decide +kernel
theorem dL_law_1466 : decode cL_law 1466 = .ok (.invokevirtual 192, 3) := by decide +kernel
theorem dL_law_1469 : decode cL_law 1469 = .ok (.aload_n 2, 1) := by decide +kernel
theorem dL_law_1470 : decode cL_law 1470 = .ok (.aload_n 0, 1) := by decide +kernel
theorem dL_law_1471 : decode cL_law 1471 = .ok (.iload_n 3, 1) := by decide +kernel
theorem dL_law_1472 : decode cL_law 1472 = .ok (.iconst 1, 1) := by decide +kernel
theorem dL_law_1473 : decode cL_law 1473 = .ok (.iadd, 1) := by decide +kernel
theorem dL_law_1474 : decode cL_law 1474 = .ok (.iaload, 1) := by decide +kernel
theorem dL_law_1475 : decode cL_law 1475 = .ok (.aload_n 0, 1) := by decide +kernel
theorem dL_law_1476 : decode cL_law 1476 = .ok (.iload_n 3, 1) := by decide +kernel
theorem dL_law_1477 : decode cL_law 1477 = .ok (.iconst 2, 1) := by decide +kernel
theorem dL_law_1478 : decode cL_law 1478 = .ok (.iadd, 1) := by decide +kernel
theorem dL_law_1479 : decode cL_law 1479 = .ok (.iaload, 1) := by decide +kernel
theorem dL_law_1480 : decode cL_law 1480 = .ok (.aload_n 0, 1) := by decide +kernel
theorem dL_law_1481 : decode cL_law 1481 = .ok (.iload_n 3, 1) := by decide +kernel
theorem dL_law_1482 : decode cL_law 1482 = .ok (.iconst 3, 1) := by decide +kernel
theorem dL_law_1483 : decode cL_law 1483 = .ok (.iadd, 1) := by decide +kernel
theorem dL_law_1484 : decode cL_law 1484 = .ok (.iaload, 1) := by decide +kernel
theorem dL_law_1485 : decode cL_law 1485 = .ok (.aload_n 0, 1) := by decide +kernel
theorem dL_law_1486 : decode cL_law 1486 = .ok (.iload_n 3, 1) := by decide +kernel
theorem dL_law_1487 : decode cL_law 1487 = .ok (.iconst 4, 1) := by decide +kernel
theorem dL_law_1488 : decode cL_law 1488 = .ok (.iadd, 1) := by decide +kernel
theorem dL_law_1489 : decode cL_law 1489 = .ok (.iaload, 1) := by decide +kernel
theorem dL_law_1490 : decode cL_law 1490 = .ok (.invokevirtual 195, 3) := by decide +kernel
theorem dL_law_1493 : decode cL_law 1493 = .ok (.if_icmp .eq 38, 3) := by decide +kernel
theorem dL_law_1496 : decode cL_law 1496 = .ok (.iconst 0, 1) := by decide +kernel
theorem dL_law_1497 : decode cL_law 1497 = .ok (.ireturn, 1) := by decide +kernel
theorem dL_law_1498 : decode cL_law 1498 = .ok (.aload_n 1, 1) := by decide +kernel
theorem dL_law_1499 : decode cL_law 1499 = .ok (.aload_n 0, 1) := by decide +kernel
theorem dL_law_1500 : decode cL_law 1500 = .ok (.iload_n 3, 1) := by decide +kernel
theorem dL_law_1501 : decode cL_law 1501 = .ok (.iconst 1, 1) := by decide +kernel
theorem dL_law_1502 : decode cL_law 1502 = .ok (.iadd, 1) := by decide +kernel
theorem dL_law_1503 : decode cL_law 1503 = .ok (.iaload, 1) := by decide +kernel
theorem dL_law_1504 : decode cL_law 1504 = .ok (.aload_n 0, 1) := by decide +kernel
theorem dL_law_1505 : decode cL_law 1505 = .ok (.iload_n 3, 1) := by decide +kernel
theorem dL_law_1506 : decode cL_law 1506 = .ok (.iconst 2, 1) := by decide +kernel
theorem dL_law_1507 : decode cL_law 1507 = .ok (.iadd, 1) := by decide +kernel
theorem dL_law_1508 : decode cL_law 1508 = .ok (.iaload, 1) := by decide +kernel
theorem dL_law_1509 : decode cL_law 1509 = .ok (.invokevirtual 196, 3) := by decide +kernel
theorem dL_law_1512 : decode cL_law 1512 = .ok (.aload_n 2, 1) := by decide +kernel
theorem dL_law_1513 : decode cL_law 1513 = .ok (.aload_n 0, 1) := by decide +kernel
theorem dL_law_1514 : decode cL_law 1514 = .ok (.iload_n 3, 1) := by decide +kernel
theorem dL_law_1515 : decode cL_law 1515 = .ok (.iconst 1, 1) := by decide +kernel
theorem dL_law_1516 : decode cL_law 1516 = .ok (.iadd, 1) := by decide +kernel
theorem dL_law_1517 : decode cL_law 1517 = .ok (.iaload, 1) := by decide +kernel
theorem dL_law_1518 : decode cL_law 1518 = .ok (.aload_n 0, 1) := by decide +kernel
theorem dL_law_1519 : decode cL_law 1519 = .ok (.iload_n 3, 1) := by decide +kernel
theorem dL_law_1520 : decode cL_law 1520 = .ok (.iconst 2, 1) := by decide +kernel
theorem dL_law_1521 : decode cL_law 1521 = .ok (.iadd, 1) := by decide +kernel
theorem dL_law_1522 : decode cL_law 1522 = .ok (.iaload, 1) := by decide +kernel
theorem dL_law_1523 : decode cL_law 1523 = .ok (.invokevirtual 199, 3) := by decide +kernel
theorem dL_law_1526 : decode cL_law 1526 = .ok (.if_icmp .eq 5, 3) := by decide +kernel
theorem dL_law_1529 : decode cL_law 1529 = .ok (.iconst 0, 1) := by decide +kernel
theorem dL_law_1530 : decode cL_law 1530 = .ok (.ireturn, 1) := by decide +kernel
theorem dL_law_1531 : decode cL_law 1531 = .ok (.iinc 3 6, 3) := by decide +kernel
theorem dL_law_1534 : decode cL_law 1534 = .ok (.goto (-1516), 3) := by decide +kernel
theorem dL_law_1537 : decode cL_law 1537 = .ok (.iconst 1, 1) := by decide +kernel
theorem dL_law_1538 : decode cL_law 1538 = .ok (.ireturn, 1) := by decide +kernel
