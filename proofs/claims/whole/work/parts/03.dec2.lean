theorem dX10_stop_23 : decode cX10_stop 23 = .ok (.ifCond .eq 14, 3) := by decide +kernel
theorem dX10_stop_26 : decode cX10_stop 26 = .ok (.iload 4, 2) := by decide +kernel
theorem dX10_stop_28 : decode cX10_stop 28 = .ok (.iconst 0, 1) := by decide +kernel
theorem dX10_stop_29 : decode cX10_stop 29 = .ok (.bipush 60, 2) := by decide +kernel
theorem dX10_stop_31 : decode cX10_stop 31 = .ok (.invokestatic 162, 3) := by decide +kernel
theorem dX10_stop_34 : decode cX10_stop 34 = .ok (.ifCond .ne 6, 3) := by decide +kernel
theorem dX10_stop_37 : decode cX10_stop 37 = .ok (.bipush (-2), 2) := by decide +kernel
theorem dX10_stop_39 : decode cX10_stop 39 = .ok (.ireturn, 1) := by decide +kernel
theorem dX10_stop_40 : decode cX10_stop 40 = .ok (.aload_n 0, 1) := by decide +kernel
theorem dX10_stop_41 : decode cX10_stop 41 = .ok (.getfield 166, 3) := by decide +kernel
theorem dX10_stop_44 : decode cX10_stop 44 = .ok (.bipush 8, 2) := by decide +kernel
theorem dX10_stop_46 : decode cX10_stop 46 = .ok (.if_icmp .ne 6, 3) := by decide +kernel
theorem dX10_stop_49 : decode cX10_stop 49 = .ok (.bipush (-4), 2) := by decide +kernel
theorem dX10_stop_51 : decode cX10_stop 51 = .ok (.ireturn, 1) := by decide +kernel
theorem dX10_stop_52 : decode cX10_stop 52 = .ok (.aload_n 0, 1) := by decide +kernel
theorem dX10_stop_53 : decode cX10_stop 53 = .ok (.getfield 23, 3) := by decide +kernel
theorem dX10_stop_56 : decode cX10_stop 56 = .ok (.aload_n 0, 1) := by decide +kernel
theorem dX10_stop_57 : decode cX10_stop 57 = .ok (.getfield 166, 3) := by decide +kernel
theorem dX10_stop_60 : decode cX10_stop 60 = .ok (.iload_n 1, 1) := by decide +kernel
theorem dX10_stop_61 : decode cX10_stop 61 = .ok (.iastore, 1) := by decide +kernel
theorem dX10_stop_62 : decode cX10_stop 62 = .ok (.aload_n 0, 1) := by decide +kernel
theorem dX10_stop_63 : decode cX10_stop 63 = .ok (.getfield 26, 3) := by decide +kernel
theorem dX10_stop_66 : decode cX10_stop 66 = .ok (.aload_n 0, 1) := by decide +kernel
theorem dX10_stop_67 : decode cX10_stop 67 = .ok (.getfield 166, 3) := by decide +kernel
theorem dX10_stop_70 : decode cX10_stop 70 = .ok (.iload_n 2, 1) := by decide +kernel
theorem dX10_stop_71 : decode cX10_stop 71 = .ok (.iastore, 1) := by decide +kernel
theorem dX10_stop_72 : decode cX10_stop 72 = .ok (.aload_n 0, 1) := by decide +kernel
theorem dX10_stop_73 : decode cX10_stop 73 = .ok (.getfield 29, 3) := by decide +kernel
theorem dX10_stop_76 : decode cX10_stop 76 = .ok (.aload_n 0, 1) := by decide +kernel
theorem dX10_stop_77 : decode cX10_stop 77 = .ok (.getfield 166, 3) := by decide +kernel
theorem dX10_stop_80 : decode cX10_stop 80 = .ok (.iload_n 3, 1) := by decide +kernel
theorem dX10_stop_81 : decode cX10_stop 81 = .ok (.iastore, 1) := by decide +kernel
theorem dX10_stop_82 : decode cX10_stop 82 = .ok (.aload_n 0, 1) := by decide +kernel
theorem dX10_stop_83 : decode cX10_stop 83 = .ok (.getfield 32, 3) := by decide +kernel
theorem dX10_stop_86 : decode cX10_stop 86 = .ok (.aload_n 0, 1) := by decide +kernel
theorem dX10_stop_87 : decode cX10_stop 87 = .ok (.getfield 166, 3) := by decide +kernel
theorem dX10_stop_90 : decode cX10_stop 90 = .ok (.iload 4, 2) := by decide +kernel
theorem dX10_stop_92 : decode cX10_stop 92 = .ok (.iastore, 1) := by decide +kernel
theorem dX10_stop_93 : decode cX10_stop 93 = .ok (.aload_n 0, 1) := by decide +kernel
theorem dX10_stop_94 : decode cX10_stop 94 = .ok (.getfield 35, 3) := by decide +kernel
theorem dX10_stop_97 : decode cX10_stop 97 = .ok (.aload_n 0, 1) := by decide +kernel
theorem dX10_stop_98 : decode cX10_stop 98 = .ok (.getfield 166, 3) := by decide +kernel
theorem dX10_stop_101 : decode cX10_stop 101 = .ok (.iconst 1, 1) := by decide +kernel
theorem dX10_stop_102 : decode cX10_stop 102 = .ok (.iastore, 1) := by decide +kernel
theorem dX10_stop_103 : decode cX10_stop 103 = .ok (.aload_n 0, 1) := by decide +kernel
theorem dX10_stop_104 : decode cX10_stop 104 = .ok (.getfield 38, 3) := by decide +kernel
theorem dX10_stop_107 : decode cX10_stop 107 = .ok (.aload_n 0, 1) := by decide +kernel
theorem dX10_stop_108 : decode cX10_stop 108 = .ok (.getfield 166, 3) := by decide +kernel
theorem dX10_stop_111 : decode cX10_stop 111 = .ok (.iconst 5, 1) := by decide +kernel
theorem dX10_stop_112 : decode cX10_stop 112 = .ok (.iastore, 1) := by decide +kernel
theorem dX10_stop_113 : decode cX10_stop 113 = .ok (.aload_n 0, 1) := by decide +kernel
theorem dX10_stop_114 : decode cX10_stop 114 = .ok (.dup, 1) := by decide +kernel
theorem dX10_stop_115 : decode cX10_stop 115 = .ok (.getfield 166, 3) := by decide +kernel
theorem dX10_stop_118 : decode cX10_stop 118 = .ok (.iconst 1, 1) := by decide +kernel
theorem dX10_stop_119 : decode cX10_stop 119 = .ok (.iadd, 1) := by decide +kernel
theorem dX10_stop_120 : decode cX10_stop 120 = .ok (.putfield 166, 3) := by decide +kernel
theorem dX10_stop_123 : decode cX10_stop 123 = .ok (.aload_n 0, 1) := by decide +kernel
theorem dX10_stop_124 : decode cX10_stop 124 = .ok (.getfield 166, 3) := by decide +kernel
theorem dX10_stop_127 : decode cX10_stop 127 = .ok (.iconst 1, 1) := by decide +kernel
theorem dX10_stop_128 : decode cX10_stop 128 = .ok (.isub, 1) := by decide +kernel
theorem dX10_stop_129 : decode cX10_stop 129 = .ok (.ireturn, 1) := by decide +kernel
theorem dX10_open_0 : decode cX10_open 0 = .ok (.aload_n 0, 1) := by decide +kernel
theorem dX10_open_1 : decode cX10_open 1 = .ok (.iload_n 1, 1) := by decide +kernel
theorem dX10_open_2 : decode cX10_open 2 = .ok (.invokevirtual 180, 3) := by decide +kernel
theorem dX10_open_5 : decode cX10_open 5 = .ok (.ifCond .ne 5, 3) := by decide +kernel
theorem dX10_open_8 : decode cX10_open 8 = .ok (.iconst (-1), 1) := by decide +kernel
theorem dX10_open_9 : decode cX10_open 9 = .ok (.ireturn, 1) := by decide +kernel
theorem dX10_open_10 : decode cX10_open 10 = .ok (.iload_n 2, 1) := by decide +kernel
theorem dX10_open_11 : decode cX10_open 11 = .ok (.iconst 0, 1) := by decide +kernel
theorem dX10_open_12 : decode cX10_open 12 = .ok (.iconst 1, 1) := by decide +kernel
theorem dX10_open_13 : decode cX10_open 13 = .ok (.invokestatic 162, 3) := by decide +kernel
theorem dX10_open_16 : decode cX10_open 16 = .ok (.ifCond .ne 6, 3) := by decide +kernel
theorem dX10_open_19 : decode cX10_open 19 = .ok (.bipush (-2), 2) := by decide +kernel
theorem dX10_open_21 : decode cX10_open 21 = .ok (.ireturn, 1) := by decide +kernel
theorem dX10_open_22 : decode cX10_open 22 = .ok (.aload_n 0, 1) := by decide +kernel
theorem dX10_open_23 : decode cX10_open 23 = .ok (.getfield 35, 3) := by decide +kernel
theorem dX10_open_26 : decode cX10_open 26 = .ok (.iload_n 1, 1) := by decide +kernel
theorem dX10_open_27 : decode cX10_open 27 = .ok (.iaload, 1) := by decide +kernel
theorem dX10_open_28 : decode cX10_open 28 = .ok (.istore_n 3, 1) := by decide +kernel
theorem dX10_open_29 : decode cX10_open 29 = .ok (.aload_n 0, 1) := by decide +kernel
theorem dX10_open_30 : decode cX10_open 30 = .ok (.getfield 35, 3) := by decide +kernel
theorem dX10_open_33 : decode cX10_open 33 = .ok (.iload_n 1, 1) := by decide +kernel
theorem dX10_open_34 : decode cX10_open 34 = .ok (.iload_n 2, 1) := by decide +kernel
theorem dX10_open_35 : decode cX10_open 35 = .ok (.iastore, 1) := by decide +kernel
theorem dX10_open_36 : decode cX10_open 36 = .ok (.iload_n 3, 1) := by decide +kernel
theorem dX10_open_37 : decode cX10_open 37 = .ok (.ireturn, 1) := by decide +kernel
theorem dX10_want_0 : decode cX10_want 0 = .ok (.aload_n 0, 1) := by decide +kernel
theorem dX10_want_1 : decode cX10_want 1 = .ok (.iload_n 1, 1) := by decide +kernel
theorem dX10_want_2 : decode cX10_want 2 = .ok (.invokevirtual 180, 3) := by decide +kernel
theorem dX10_want_5 : decode cX10_want 5 = .ok (.ifCond .ne 5, 3) := by decide +kernel
theorem dX10_want_8 : decode cX10_want 8 = .ok (.iconst (-1), 1) := by decide +kernel
theorem dX10_want_9 : decode cX10_want 9 = .ok (.ireturn, 1) := by decide +kernel
theorem dX10_want_10 : decode cX10_want 10 = .ok (.iload_n 2, 1) := by decide +kernel
theorem dX10_want_11 : decode cX10_want 11 = .ok (.iconst 0, 1) := by decide +kernel
theorem dX10_want_12 : decode cX10_want 12 = .ok (.bipush 10, 2) := by decide +kernel
theorem dX10_want_14 : decode cX10_want 14 = .ok (.invokestatic 162, 3) := by decide +kernel
theorem dX10_want_17 : decode cX10_want 17 = .ok (.ifCond .ne 6, 3) := by decide +kernel
theorem dX10_want_20 : decode cX10_want 20 = .ok (.bipush (-2), 2) := by decide +kernel
theorem dX10_want_22 : decode cX10_want 22 = .ok (.ireturn, 1) := by decide +kernel
theorem dX10_want_23 : decode cX10_want 23 = .ok (.aload_n 0, 1) := by decide +kernel
theorem dX10_want_24 : decode cX10_want 24 = .ok (.getfield 38, 3) := by decide +kernel
theorem dX10_want_27 : decode cX10_want 27 = .ok (.iload_n 1, 1) := by decide +kernel
theorem dX10_want_28 : decode cX10_want 28 = .ok (.iaload, 1) := by decide +kernel
theorem dX10_want_29 : decode cX10_want 29 = .ok (.istore_n 3, 1) := by decide +kernel
theorem dX10_want_30 : decode cX10_want 30 = .ok (.aload_n 0, 1) := by decide +kernel
theorem dX10_want_31 : decode cX10_want 31 = .ok (.getfield 38, 3) := by decide +kernel
theorem dX10_want_34 : decode cX10_want 34 = .ok (.iload_n 1, 1) := by decide +kernel
theorem dX10_want_35 : decode cX10_want 35 = .ok (.iload_n 2, 1) := by decide +kernel
theorem dX10_want_36 : decode cX10_want 36 = .ok (.iastore, 1) := by decide +kernel
theorem dX10_want_37 : decode cX10_want 37 = .ok (.iload_n 3, 1) := by decide +kernel
theorem dX10_want_38 : decode cX10_want 38 = .ok (.ireturn, 1) := by decide +kernel
theorem dX10_turns_0 : decode cX10_turns 0 = .ok (.aload_n 0, 1) := by decide +kernel
theorem dX10_turns_1 : decode cX10_turns 1 = .ok (.iload_n 1, 1) := by decide +kernel
theorem dX10_turns_2 : decode cX10_turns 2 = .ok (.invokevirtual 180, 3) := by decide +kernel
theorem dX10_turns_5 : decode cX10_turns 5 = .ok (.ifCond .ne 5, 3) := by decide +kernel
theorem dX10_turns_8 : decode cX10_turns 8 = .ok (.iconst (-1), 1) := by decide +kernel
theorem dX10_turns_9 : decode cX10_turns 9 = .ok (.ireturn, 1) := by decide +kernel
theorem dX10_turns_10 : decode cX10_turns 10 = .ok (.iload_n 2, 1) := by decide +kernel
theorem dX10_turns_11 : decode cX10_turns 11 = .ok (.iconst 0, 1) := by decide +kernel
theorem dX10_turns_12 : decode cX10_turns 12 = .ok (.iconst 2, 1) := by decide +kernel
theorem dX10_turns_13 : decode cX10_turns 13 = .ok (.invokestatic 162, 3) := by decide +kernel
theorem dX10_turns_16 : decode cX10_turns 16 = .ok (.ifCond .ne 6, 3) := by decide +kernel
theorem dX10_turns_19 : decode cX10_turns 19 = .ok (.bipush (-2), 2) := by decide +kernel
theorem dX10_turns_21 : decode cX10_turns 21 = .ok (.ireturn, 1) := by decide +kernel
theorem dX10_turns_22 : decode cX10_turns 22 = .ok (.aload_n 0, 1) := by decide +kernel
theorem dX10_turns_23 : decode cX10_turns 23 = .ok (.getfield 41, 3) := by decide +kernel
theorem dX10_turns_26 : decode cX10_turns 26 = .ok (.iload_n 1, 1) := by decide +kernel
theorem dX10_turns_27 : decode cX10_turns 27 = .ok (.iaload, 1) := by decide +kernel
theorem dX10_turns_28 : decode cX10_turns 28 = .ok (.istore_n 3, 1) := by decide +kernel
theorem dX10_turns_29 : decode cX10_turns 29 = .ok (.aload_n 0, 1) := by decide +kernel
theorem dX10_turns_30 : decode cX10_turns 30 = .ok (.getfield 41, 3) := by decide +kernel
theorem dX10_turns_33 : decode cX10_turns 33 = .ok (.iload_n 1, 1) := by decide +kernel
theorem dX10_turns_34 : decode cX10_turns 34 = .ok (.iload_n 2, 1) := by decide +kernel
theorem dX10_turns_35 : decode cX10_turns 35 = .ok (.iastore, 1) := by decide +kernel
theorem dX10_turns_36 : decode cX10_turns 36 = .ok (.iload_n 3, 1) := by decide +kernel
theorem dX10_turns_37 : decode cX10_turns 37 = .ok (.ireturn, 1) := by decide +kernel
theorem dX10_isAsked_0 : decode cX10_isAsked 0 = .ok (.aload_n 0, 1) := by decide +kernel
theorem dX10_isAsked_1 : decode cX10_isAsked 1 = .ok (.getfield 23, 3) := by decide +kernel
theorem dX10_isAsked_4 : decode cX10_isAsked 4 = .ok (.iload_n 1, 1) := by decide +kernel
theorem dX10_isAsked_5 : decode cX10_isAsked 5 = .ok (.iaload, 1) := by decide +kernel
theorem dX10_isAsked_6 : decode cX10_isAsked 6 = .ok (.iconst 1, 1) := by decide +kernel
theorem dX10_isAsked_7 : decode cX10_isAsked 7 = .ok (.if_icmp .eq 13, 3) := by decide +kernel
theorem dX10_isAsked_10 : decode cX10_isAsked 10 = .ok (.aload_n 0, 1) := by decide +kernel
theorem dX10_isAsked_11 : decode cX10_isAsked 11 = .ok (.getfield 23, 3) := by decide +kernel
theorem dX10_isAsked_14 : decode cX10_isAsked 14 = .ok (.iload_n 1, 1) := by decide +kernel
theorem dX10_isAsked_15 : decode cX10_isAsked 15 = .ok (.iaload, 1) := by decide +kernel
theorem dX10_isAsked_16 : decode cX10_isAsked 16 = .ok (.iconst 5, 1) := by decide +kernel
theorem dX10_isAsked_17 : decode cX10_isAsked 17 = .ok (.if_icmp .ne 7, 3) := by decide +kernel
theorem dX10_isAsked_20 : decode cX10_isAsked 20 = .ok (.iconst 1, 1) := by decide +kernel
theorem dX10_isAsked_21 : decode cX10_isAsked 21 = .ok (.goto 4, 3) := by decide +kernel
theorem dX10_isAsked_24 : decode cX10_isAsked 24 = .ok (.iconst 0, 1) := by decide +kernel
theorem dX10_isAsked_25 : decode cX10_isAsked 25 = .ok (.ireturn, 1) := by decide +kernel
theorem dX10_secondsBy_0 : decode cX10_secondsBy 0 = .ok (.aload_n 0, 1) := by decide +kernel
theorem dX10_secondsBy_1 : decode cX10_secondsBy 1 = .ok (.getfield 23, 3) := by decide +kernel
theorem dX10_secondsBy_4 : decode cX10_secondsBy 4 = .ok (.iload_n 1, 1) := by decide +kernel
theorem dX10_secondsBy_5 : decode cX10_secondsBy 5 = .ok (.iaload, 1) := by decide +kernel
theorem dX10_secondsBy_6 : decode cX10_secondsBy 6 = .ok (.tableswitch 88 1 5 #[34, 88, 46, 60, 69], 34) := by decide +kernel
theorem dX10_secondsBy_40 : decode cX10_secondsBy 40 = .ok (.aload_n 0, 1) := by decide +kernel
theorem dX10_secondsBy_41 : decode cX10_secondsBy 41 = .ok (.getfield 29, 3) := by decide +kernel
theorem dX10_secondsBy_44 : decode cX10_secondsBy 44 = .ok (.iload_n 1, 1) := by decide +kernel
theorem dX10_secondsBy_45 : decode cX10_secondsBy 45 = .ok (.iaload, 1) := by decide +kernel
theorem dX10_secondsBy_46 : decode cX10_secondsBy 46 = .ok (.iload_n 2, 1) := by decide +kernel
theorem dX10_secondsBy_47 : decode cX10_secondsBy 47 = .ok (.imul, 1) := by decide +kernel
theorem dX10_secondsBy_48 : decode cX10_secondsBy 48 = .ok (.bipush 10, 2) := by decide +kernel
theorem dX10_secondsBy_50 : decode cX10_secondsBy 50 = .ok (.idiv, 1) := by decide +kernel
theorem dX10_secondsBy_51 : decode cX10_secondsBy 51 = .ok (.ireturn, 1) := by decide +kernel
theorem dX10_secondsBy_52 : decode cX10_secondsBy 52 = .ok (.aload_n 0, 1) := by decide +kernel
theorem dX10_secondsBy_53 : decode cX10_secondsBy 53 = .ok (.getfield 29, 3) := by decide +kernel
theorem dX10_secondsBy_56 : decode cX10_secondsBy 56 = .ok (.iload_n 1, 1) := by decide +kernel
theorem dX10_secondsBy_57 : decode cX10_secondsBy 57 = .ok (.iaload, 1) := by decide +kernel
theorem dX10_secondsBy_58 : decode cX10_secondsBy 58 = .ok (.aload_n 0, 1) := by decide +kernel
theorem dX10_secondsBy_59 : decode cX10_secondsBy 59 = .ok (.getfield 32, 3) := by decide +kernel
theorem dX10_secondsBy_62 : decode cX10_secondsBy 62 = .ok (.iload_n 1, 1) := by decide +kernel
theorem dX10_secondsBy_63 : decode cX10_secondsBy 63 = .ok (.iaload, 1) := by decide +kernel
theorem dX10_secondsBy_64 : decode cX10_secondsBy 64 = .ok (.iadd, 1) := by decide +kernel
theorem dX10_secondsBy_65 : decode cX10_secondsBy 65 = .ok (.ireturn, 1) := by decide +kernel
theorem dX10_secondsBy_66 : decode cX10_secondsBy 66 = .ok (.aload_n 0, 1) := by decide +kernel
theorem dX10_secondsBy_67 : decode cX10_secondsBy 67 = .ok (.getfield 29, 3) := by decide +kernel
theorem dX10_secondsBy_70 : decode cX10_secondsBy 70 = .ok (.iload_n 1, 1) := by decide +kernel
theorem dX10_secondsBy_71 : decode cX10_secondsBy 71 = .ok (.iaload, 1) := by decide +kernel
theorem dX10_secondsBy_72 : decode cX10_secondsBy 72 = .ok (.iconst 2, 1) := by decide +kernel
theorem dX10_secondsBy_73 : decode cX10_secondsBy 73 = .ok (.idiv, 1) := by decide +kernel
theorem dX10_secondsBy_74 : decode cX10_secondsBy 74 = .ok (.ireturn, 1) := by decide +kernel
theorem dX10_secondsBy_75 : decode cX10_secondsBy 75 = .ok (.aload_n 0, 1) := by decide +kernel
theorem dX10_secondsBy_76 : decode cX10_secondsBy 76 = .ok (.getfield 29, 3) := by decide +kernel
theorem dX10_secondsBy_79 : decode cX10_secondsBy 79 = .ok (.iload_n 1, 1) := by decide +kernel
theorem dX10_secondsBy_80 : decode cX10_secondsBy 80 = .ok (.iaload, 1) := by decide +kernel
theorem dX10_secondsBy_81 : decode cX10_secondsBy 81 = .ok (.iload_n 2, 1) := by decide +kernel
theorem dX10_secondsBy_82 : decode cX10_secondsBy 82 = .ok (.imul, 1) := by decide +kernel
theorem dX10_secondsBy_83 : decode cX10_secondsBy 83 = .ok (.bipush 10, 2) := by decide +kernel
theorem dX10_secondsBy_85 : decode cX10_secondsBy 85 = .ok (.idiv, 1) := by decide +kernel
theorem dX10_secondsBy_86 : decode cX10_secondsBy 86 = .ok (.aload_n 0, 1) := by decide +kernel
theorem dX10_secondsBy_87 : decode cX10_secondsBy 87 = .ok (.getfield 32, 3) := by decide +kernel
theorem dX10_secondsBy_90 : decode cX10_secondsBy 90 = .ok (.iload_n 1, 1) := by decide +kernel
theorem dX10_secondsBy_91 : decode cX10_secondsBy 91 = .ok (.iaload, 1) := by decide +kernel
theorem dX10_secondsBy_92 : decode cX10_secondsBy 92 = .ok (.iadd, 1) := by decide +kernel
theorem dX10_secondsBy_93 : decode cX10_secondsBy 93 = .ok (.ireturn, 1) := by decide +kernel
theorem dX10_secondsBy_94 : decode cX10_secondsBy 94 = .ok (.aload_n 0, 1) := by decide +kernel
theorem dX10_secondsBy_95 : decode cX10_secondsBy 95 = .ok (.getfield 29, 3) := by decide +kernel
theorem dX10_secondsBy_98 : decode cX10_secondsBy 98 = .ok (.iload_n 1, 1) := by decide +kernel
theorem dX10_secondsBy_99 : decode cX10_secondsBy 99 = .ok (.iaload, 1) := by decide +kernel
theorem dX10_secondsBy_100 : decode cX10_secondsBy 100 = .ok (.ireturn, 1) := by decide +kernel
theorem dX10_seconds_0 : decode cX10_seconds 0 = .ok (.aload_n 0, 1) := by decide +kernel
theorem dX10_seconds_1 : decode cX10_seconds 1 = .ok (.iload_n 1, 1) := by decide +kernel
theorem dX10_seconds_2 : decode cX10_seconds 2 = .ok (.aload_n 0, 1) := by decide +kernel
theorem dX10_seconds_3 : decode cX10_seconds 3 = .ok (.getfield 38, 3) := by decide +kernel
theorem dX10_seconds_6 : decode cX10_seconds 6 = .ok (.iload_n 1, 1) := by decide +kernel
theorem dX10_seconds_7 : decode cX10_seconds 7 = .ok (.iaload, 1) := by decide +kernel
theorem dX10_seconds_8 : decode cX10_seconds 8 = .ok (.invokevirtual 183, 3) := by decide +kernel
theorem dX10_seconds_11 : decode cX10_seconds 11 = .ok (.ireturn, 1) := by decide +kernel
theorem dX10_lets_0 : decode cX10_lets 0 = .ok (.aload_n 0, 1) := by decide +kernel
theorem dX10_lets_1 : decode cX10_lets 1 = .ok (.getfield 23, 3) := by decide +kernel
theorem dX10_lets_4 : decode cX10_lets 4 = .ok (.iload_n 1, 1) := by decide +kernel
theorem dX10_lets_5 : decode cX10_lets 5 = .ok (.iaload, 1) := by decide +kernel
theorem dX10_lets_6 : decode cX10_lets 6 = .ok (.iconst 2, 1) := by decide +kernel
theorem dX10_lets_7 : decode cX10_lets 7 = .ok (.if_icmp .ne 23, 3) := by decide +kernel
theorem dX10_lets_10 : decode cX10_lets 10 = .ok (.iload_n 2, 1) := by decide +kernel
theorem dX10_lets_11 : decode cX10_lets 11 = .ok (.aload_n 0, 1) := by decide +kernel
theorem dX10_lets_12 : decode cX10_lets 12 = .ok (.getfield 32, 3) := by decide +kernel
theorem dX10_lets_15 : decode cX10_lets 15 = .ok (.iload_n 1, 1) := by decide +kernel
theorem dX10_lets_16 : decode cX10_lets 16 = .ok (.iaload, 1) := by decide +kernel
theorem dX10_lets_17 : decode cX10_lets 17 = .ok (.iconst 2, 1) := by decide +kernel
theorem dX10_lets_18 : decode cX10_lets 18 = .ok (.irem, 1) := by decide +kernel
theorem dX10_lets_19 : decode cX10_lets 19 = .ok (.if_icmp .ne 7, 3) := by decide +kernel
theorem dX10_lets_22 : decode cX10_lets 22 = .ok (.iconst 1, 1) := by decide +kernel
theorem dX10_lets_23 : decode cX10_lets 23 = .ok (.goto 34, 3) := by decide +kernel
theorem dX10_lets_26 : decode cX10_lets 26 = .ok (.iconst 0, 1) := by decide +kernel
theorem dX10_lets_27 : decode cX10_lets 27 = .ok (.goto 30, 3) := by decide +kernel
theorem dX10_lets_30 : decode cX10_lets 30 = .ok (.aload_n 0, 1) := by decide +kernel
theorem dX10_lets_31 : decode cX10_lets 31 = .ok (.getfield 23, 3) := by decide +kernel
theorem dX10_lets_34 : decode cX10_lets 34 = .ok (.iload_n 1, 1) := by decide +kernel
theorem dX10_lets_35 : decode cX10_lets 35 = .ok (.iaload, 1) := by decide +kernel
theorem dX10_lets_36 : decode cX10_lets 36 = .ok (.iconst 4, 1) := by decide +kernel
theorem dX10_lets_37 : decode cX10_lets 37 = .ok (.if_icmp .ne 15, 3) := by decide +kernel
theorem dX10_lets_40 : decode cX10_lets 40 = .ok (.iload_n 2, 1) := by decide +kernel
theorem dX10_lets_41 : decode cX10_lets 41 = .ok (.aload_n 0, 1) := by decide +kernel
theorem dX10_lets_42 : decode cX10_lets 42 = .ok (.getfield 32, 3) := by decide +kernel
theorem dX10_lets_45 : decode cX10_lets 45 = .ok (.iload_n 1, 1) := by decide +kernel
theorem dX10_lets_46 : decode cX10_lets 46 = .ok (.iaload, 1) := by decide +kernel
theorem dX10_lets_47 : decode cX10_lets 47 = .ok (.iconst 2, 1) := by decide +kernel
theorem dX10_lets_48 : decode cX10_lets 48 = .ok (.irem, 1) := by decide +kernel
theorem dX10_lets_49 : decode cX10_lets 49 = .ok (.if_icmp .eq 7, 3) := by decide +kernel
theorem dX10_lets_52 : decode cX10_lets 52 = .ok (.iconst 1, 1) := by decide +kernel
theorem dX10_lets_53 : decode cX10_lets 53 = .ok (.goto 4, 3) := by decide +kernel
theorem dX10_lets_56 : decode cX10_lets 56 = .ok (.iconst 0, 1) := by decide +kernel
theorem dX10_lets_57 : decode cX10_lets 57 = .ok (.istore_n 3, 1) := by decide +kernel
theorem dX10_lets_58 : decode cX10_lets 58 = .ok (.iload_n 3, 1) := by decide +kernel
theorem dX10_lets_59 : decode cX10_lets 59 = .ok (.ifCond .eq 28, 3) := by decide +kernel
theorem dX10_lets_62 : decode cX10_lets 62 = .ok (.aload_n 0, 1) := by decide +kernel
theorem dX10_lets_63 : decode cX10_lets 63 = .ok (.getfield 41, 3) := by decide +kernel
theorem dX10_lets_66 : decode cX10_lets 66 = .ok (.iload_n 1, 1) := by decide +kernel
theorem dX10_lets_67 : decode cX10_lets 67 = .ok (.iaload, 1) := by decide +kernel
theorem dX10_lets_68 : decode cX10_lets 68 = .ok (.ifCond .eq 15, 3) := by decide +kernel
theorem dX10_lets_71 : decode cX10_lets 71 = .ok (.aload_n 0, 1) := by decide +kernel
theorem dX10_lets_72 : decode cX10_lets 72 = .ok (.getfield 41, 3) := by decide +kernel
theorem dX10_lets_75 : decode cX10_lets 75 = .ok (.iload_n 1, 1) := by decide +kernel
theorem dX10_lets_76 : decode cX10_lets 76 = .ok (.iaload, 1) := by decide +kernel
theorem dX10_lets_77 : decode cX10_lets 77 = .ok (.iload_n 2, 1) := by decide +kernel
theorem dX10_lets_78 : decode cX10_lets 78 = .ok (.iconst 1, 1) := by decide +kernel
theorem dX10_lets_79 : decode cX10_lets 79 = .ok (.iadd, 1) := by decide +kernel
theorem dX10_lets_80 : decode cX10_lets 80 = .ok (.if_icmp .ne 7, 3) := by decide +kernel
theorem dX10_lets_83 : decode cX10_lets 83 = .ok (.iconst 1, 1) := by decide +kernel
theorem dX10_lets_84 : decode cX10_lets 84 = .ok (.goto 4, 3) := by decide +kernel
theorem dX10_lets_87 : decode cX10_lets 87 = .ok (.iconst 0, 1) := by decide +kernel
theorem dX10_lets_88 : decode cX10_lets 88 = .ok (.ireturn, 1) := by decide +kernel
theorem dX10_doesStop_0 : decode cX10_doesStop 0 = .ok (.aload_n 0, 1) := by decide +kernel
theorem dX10_doesStop_1 : decode cX10_doesStop 1 = .ok (.getfield 35, 3) := by decide +kernel
theorem dX10_doesStop_4 : decode cX10_doesStop 4 = .ok (.iload_n 1, 1) := by decide +kernel
theorem dX10_doesStop_5 : decode cX10_doesStop 5 = .ok (.iaload, 1) := by decide +kernel
theorem dX10_doesStop_6 : decode cX10_doesStop 6 = .ok (.iconst 1, 1) := by decide +kernel
theorem dX10_doesStop_7 : decode cX10_doesStop 7 = .ok (.if_icmp .ne 16, 3) := by decide +kernel
theorem dX10_doesStop_10 : decode cX10_doesStop 10 = .ok (.aload_n 0, 1) := by decide +kernel
theorem dX10_doesStop_11 : decode cX10_doesStop 11 = .ok (.iload_n 1, 1) := by decide +kernel
theorem dX10_doesStop_12 : decode cX10_doesStop 12 = .ok (.iload_n 2, 1) := by decide +kernel
theorem dX10_doesStop_13 : decode cX10_doesStop 13 = .ok (.invokevirtual 187, 3) := by decide +kernel
theorem dX10_doesStop_16 : decode cX10_doesStop 16 = .ok (.ifCond .eq 7, 3) := by decide +kernel
theorem dX10_doesStop_19 : decode cX10_doesStop 19 = .ok (.iconst 1, 1) := by decide +kernel
theorem dX10_doesStop_20 : decode cX10_doesStop 20 = .ok (.goto 4, 3) := by decide +kernel
theorem dX10_doesStop_23 : decode cX10_doesStop 23 = .ok (.iconst 0, 1) := by decide +kernel
theorem dX10_doesStop_24 : decode cX10_doesStop 24 = .ok (.ireturn, 1) := by decide +kernel
theorem dX10_told_0 : decode cX10_told 0 = .ok (.aload_n 0, 1) := by decide +kernel
theorem dX10_told_1 : decode cX10_told 1 = .ok (.iload_n 1, 1) := by decide +kernel
theorem dX10_told_2 : decode cX10_told 2 = .ok (.invokevirtual 180, 3) := by decide +kernel
theorem dX10_told_5 : decode cX10_told 5 = .ok (.ifCond .ne 6, 3) := by decide +kernel
theorem dX10_told_8 : decode cX10_told 8 = .ok (.bipush (-5), 2) := by decide +kernel
theorem dX10_told_10 : decode cX10_told 10 = .ok (.ireturn, 1) := by decide +kernel
theorem dX10_told_11 : decode cX10_told 11 = .ok (.iload_n 2, 1) := by decide +kernel
theorem dX10_told_12 : decode cX10_told 12 = .ok (.tableswitch 122 0 6 #[44, 51, 58, 64, 71, 78, 108], 44) := by decide +kernel
theorem dX10_told_56 : decode cX10_told 56 = .ok (.aload_n 0, 1) := by decide +kernel
theorem dX10_told_57 : decode cX10_told 57 = .ok (.getfield 23, 3) := by decide +kernel
theorem dX10_told_60 : decode cX10_told 60 = .ok (.iload_n 1, 1) := by decide +kernel
theorem dX10_told_61 : decode cX10_told 61 = .ok (.iaload, 1) := by decide +kernel
theorem dX10_told_62 : decode cX10_told 62 = .ok (.ireturn, 1) := by decide +kernel
theorem dX10_told_63 : decode cX10_told 63 = .ok (.aload_n 0, 1) := by decide +kernel
theorem dX10_told_64 : decode cX10_told 64 = .ok (.getfield 26, 3) := by decide +kernel
theorem dX10_told_67 : decode cX10_told 67 = .ok (.iload_n 1, 1) := by decide +kernel
theorem dX10_told_68 : decode cX10_told 68 = .ok (.iaload, 1) := by decide +kernel
theorem dX10_told_69 : decode cX10_told 69 = .ok (.ireturn, 1) := by decide +kernel
theorem dX10_told_70 : decode cX10_told 70 = .ok (.aload_n 0, 1) := by decide +kernel
theorem dX10_told_71 : decode cX10_told 71 = .ok (.iload_n 1, 1) := by decide +kernel
theorem dX10_told_72 : decode cX10_told 72 = .ok (.invokevirtual 191, 3) := by decide +kernel
theorem dX10_told_75 : decode cX10_told 75 = .ok (.ireturn, 1) := by decide +kernel
theorem dX10_told_76 : decode cX10_told 76 = .ok (.aload_n 0, 1) := by decide +kernel
theorem dX10_told_77 : decode cX10_told 77 = .ok (.getfield 35, 3) := by decide +kernel
theorem dX10_told_80 : decode cX10_told 80 = .ok (.iload_n 1, 1) := by decide +kernel
theorem dX10_told_81 : decode cX10_told 81 = .ok (.iaload, 1) := by decide +kernel
theorem dX10_told_82 : decode cX10_told 82 = .ok (.ireturn, 1) := by decide +kernel
theorem dX10_told_83 : decode cX10_told 83 = .ok (.aload_n 0, 1) := by decide +kernel
theorem dX10_told_84 : decode cX10_told 84 = .ok (.getfield 38, 3) := by decide +kernel
theorem dX10_told_87 : decode cX10_told 87 = .ok (.iload_n 1, 1) := by decide +kernel
theorem dX10_told_88 : decode cX10_told 88 = .ok (.iaload, 1) := by decide +kernel
theorem dX10_told_89 : decode cX10_told 89 = .ok (.ireturn, 1) := by decide +kernel
theorem dX10_told_90 : decode cX10_told 90 = .ok (.aload_n 0, 1) := by decide +kernel
theorem dX10_told_91 : decode cX10_told 91 = .ok (.iload_n 1, 1) := by decide +kernel
theorem dX10_told_92 : decode cX10_told 92 = .ok (.iconst 0, 1) := by decide +kernel
theorem dX10_told_93 : decode cX10_told 93 = .ok (.invokevirtual 187, 3) := by decide +kernel
theorem dX10_told_96 : decode cX10_told 96 = .ok (.ifCond .eq 7, 3) := by decide +kernel
theorem dX10_told_99 : decode cX10_told 99 = .ok (.iconst 1, 1) := by decide +kernel
theorem dX10_told_100 : decode cX10_told 100 = .ok (.goto 4, 3) := by decide +kernel
theorem dX10_told_103 : decode cX10_told 103 = .ok (.iconst 0, 1) := by decide +kernel
theorem dX10_told_104 : decode cX10_told 104 = .ok (.aload_n 0, 1) := by decide +kernel
theorem dX10_told_105 : decode cX10_told 105 = .ok (.iload_n 1, 1) := by decide +kernel
theorem dX10_told_106 : decode cX10_told 106 = .ok (.iconst 1, 1) := by decide +kernel
theorem dX10_told_107 : decode cX10_told 107 = .ok (.invokevirtual 187, 3) := by decide +kernel
theorem dX10_told_110 : decode cX10_told 110 = .ok (.ifCond .eq 7, 3) := by decide +kernel
theorem dX10_told_113 : decode cX10_told 113 = .ok (.iconst 2, 1) := by decide +kernel
theorem dX10_told_114 : decode cX10_told 114 = .ok (.goto 4, 3) := by decide +kernel
theorem dX10_told_117 : decode cX10_told 117 = .ok (.iconst 0, 1) := by decide +kernel
theorem dX10_told_118 : decode cX10_told 118 = .ok (.iadd, 1) := by decide +kernel
theorem dX10_told_119 : decode cX10_told 119 = .ok (.ireturn, 1) := by decide +kernel
theorem dX10_told_120 : decode cX10_told 120 = .ok (.aload_n 0, 1) := by decide +kernel
theorem dX10_told_121 : decode cX10_told 121 = .ok (.iload_n 1, 1) := by decide +kernel
theorem dX10_told_122 : decode cX10_told 122 = .ok (.invokevirtual 195, 3) := by decide +kernel
theorem dX10_told_125 : decode cX10_told 125 = .ok (.ifCond .eq 7, 3) := by decide +kernel
theorem dX10_told_128 : decode cX10_told 128 = .ok (.iconst 1, 1) := by decide +kernel
theorem dX10_told_129 : decode cX10_told 129 = .ok (.goto 4, 3) := by decide +kernel
theorem dX10_told_132 : decode cX10_told 132 = .ok (.iconst 0, 1) := by decide +kernel
theorem dX10_told_133 : decode cX10_told 133 = .ok (.ireturn, 1) := by decide +kernel
theorem dX10_told_134 : decode cX10_told 134 = .ok (.bipush (-7), 2) := by decide +kernel
theorem dX10_told_136 : decode cX10_told 136 = .ok (.ireturn, 1) := by decide +kernel
theorem dX10_trip_0 : decode cX10_trip 0 = .ok (.iload_n 1, 1) := by decide +kernel
theorem dX10_trip_1 : decode cX10_trip 1 = .ok (.invokestatic 172, 3) := by decide +kernel
theorem dX10_trip_4 : decode cX10_trip 4 = .ok (.ifCond .eq 30, 3) := by decide +kernel
theorem dX10_trip_7 : decode cX10_trip 7 = .ok (.iload_n 2, 1) := by decide +kernel
theorem dX10_trip_8 : decode cX10_trip 8 = .ok (.invokestatic 172, 3) := by decide +kernel
theorem dX10_trip_11 : decode cX10_trip 11 = .ok (.ifCond .eq 23, 3) := by decide +kernel
theorem dX10_trip_14 : decode cX10_trip 14 = .ok (.iload_n 3, 1) := by decide +kernel
theorem dX10_trip_15 : decode cX10_trip 15 = .ok (.iconst 1, 1) := by decide +kernel
theorem dX10_trip_16 : decode cX10_trip 16 = .ok (.bipush 99, 2) := by decide +kernel
theorem dX10_trip_18 : decode cX10_trip 18 = .ok (.invokestatic 162, 3) := by decide +kernel
theorem dX10_trip_21 : decode cX10_trip 21 = .ok (.ifCond .eq 13, 3) := by decide +kernel
theorem dX10_trip_24 : decode cX10_trip 24 = .ok (.iload 4, 2) := by decide +kernel
theorem dX10_trip_26 : decode cX10_trip 26 = .ok (.iconst 0, 1) := by decide +kernel
theorem dX10_trip_27 : decode cX10_trip 27 = .ok (.iconst 2, 1) := by decide +kernel
theorem dX10_trip_28 : decode cX10_trip 28 = .ok (.invokestatic 162, 3) := by decide +kernel
theorem dX10_trip_31 : decode cX10_trip 31 = .ok (.ifCond .ne 6, 3) := by decide +kernel
theorem dX10_trip_34 : decode cX10_trip 34 = .ok (.bipush (-2), 2) := by decide +kernel
theorem dX10_trip_36 : decode cX10_trip 36 = .ok (.ireturn, 1) := by decide +kernel
theorem dX10_trip_37 : decode cX10_trip 37 = .ok (.aload_n 0, 1) := by decide +kernel
theorem dX10_trip_38 : decode cX10_trip 38 = .ok (.getfield 169, 3) := by decide +kernel
theorem dX10_trip_41 : decode cX10_trip 41 = .ok (.bipush 8, 2) := by decide +kernel
theorem dX10_trip_43 : decode cX10_trip 43 = .ok (.if_icmp .ne 6, 3) := by decide +kernel
theorem dX10_trip_46 : decode cX10_trip 46 = .ok (.bipush (-4), 2) := by decide +kernel
theorem dX10_trip_48 : decode cX10_trip 48 = .ok (.ireturn, 1) := by decide +kernel
theorem dX10_trip_49 : decode cX10_trip 49 = .ok (.aload_n 0, 1) := by decide +kernel
theorem dX10_trip_50 : decode cX10_trip 50 = .ok (.getfield 44, 3) := by decide +kernel
theorem dX10_trip_53 : decode cX10_trip 53 = .ok (.aload_n 0, 1) := by decide +kernel
theorem dX10_trip_54 : decode cX10_trip 54 = .ok (.getfield 169, 3) := by decide +kernel
theorem dX10_trip_57 : decode cX10_trip 57 = .ok (.iload_n 1, 1) := by decide +kernel
theorem dX10_trip_58 : decode cX10_trip 58 = .ok (.iastore, 1) := by decide +kernel
theorem dX10_trip_59 : decode cX10_trip 59 = .ok (.aload_n 0, 1) := by decide +kernel
theorem dX10_trip_60 : decode cX10_trip 60 = .ok (.getfield 47, 3) := by decide +kernel
theorem dX10_trip_63 : decode cX10_trip 63 = .ok (.aload_n 0, 1) := by decide +kernel
theorem dX10_trip_64 : decode cX10_trip 64 = .ok (.getfield 169, 3) := by decide +kernel
theorem dX10_trip_67 : decode cX10_trip 67 = .ok (.iload_n 2, 1) := by decide +kernel
theorem dX10_trip_68 : decode cX10_trip 68 = .ok (.iastore, 1) := by decide +kernel
theorem dX10_trip_69 : decode cX10_trip 69 = .ok (.aload_n 0, 1) := by decide +kernel
theorem dX10_trip_70 : decode cX10_trip 70 = .ok (.getfield 50, 3) := by decide +kernel
theorem dX10_trip_73 : decode cX10_trip 73 = .ok (.aload_n 0, 1) := by decide +kernel
theorem dX10_trip_74 : decode cX10_trip 74 = .ok (.getfield 169, 3) := by decide +kernel
theorem dX10_trip_77 : decode cX10_trip 77 = .ok (.iload_n 3, 1) := by decide +kernel
theorem dX10_trip_78 : decode cX10_trip 78 = .ok (.iastore, 1) := by decide +kernel
theorem dX10_trip_79 : decode cX10_trip 79 = .ok (.aload_n 0, 1) := by decide +kernel
theorem dX10_trip_80 : decode cX10_trip 80 = .ok (.getfield 53, 3) := by decide +kernel
theorem dX10_trip_83 : decode cX10_trip 83 = .ok (.aload_n 0, 1) := by decide +kernel
theorem dX10_trip_84 : decode cX10_trip 84 = .ok (.getfield 169, 3) := by decide +kernel
theorem dX10_trip_87 : decode cX10_trip 87 = .ok (.iload 4, 2) := by decide +kernel
theorem dX10_trip_89 : decode cX10_trip 89 = .ok (.iastore, 1) := by decide +kernel
theorem dX10_trip_90 : decode cX10_trip 90 = .ok (.aload_n 0, 1) := by decide +kernel
theorem dX10_trip_91 : decode cX10_trip 91 = .ok (.dup, 1) := by decide +kernel
theorem dX10_trip_92 : decode cX10_trip 92 = .ok (.getfield 169, 3) := by decide +kernel
theorem dX10_trip_95 : decode cX10_trip 95 = .ok (.iconst 1, 1) := by decide +kernel
theorem dX10_trip_96 : decode cX10_trip 96 = .ok (.iadd, 1) := by decide +kernel
theorem dX10_trip_97 : decode cX10_trip 97 = .ok (.putfield 169, 3) := by decide +kernel
theorem dX10_trip_100 : decode cX10_trip 100 = .ok (.aload_n 0, 1) := by decide +kernel
theorem dX10_trip_101 : decode cX10_trip 101 = .ok (.getfield 169, 3) := by decide +kernel
theorem dX10_trip_104 : decode cX10_trip 104 = .ok (.iconst 1, 1) := by decide +kernel
theorem dX10_trip_105 : decode cX10_trip 105 = .ok (.isub, 1) := by decide +kernel
theorem dX10_trip_106 : decode cX10_trip 106 = .ok (.ireturn, 1) := by decide +kernel
theorem dX10_openMany_0 : decode cX10_openMany 0 = .ok (.iconst 0, 1) := by decide +kernel
theorem dX10_openMany_1 : decode cX10_openMany 1 = .ok (.istore_n 1, 1) := by decide +kernel
theorem dX10_openMany_2 : decode cX10_openMany 2 = .ok (.iconst 0, 1) := by decide +kernel
theorem dX10_openMany_3 : decode cX10_openMany 3 = .ok (.istore_n 2, 1) := by decide +kernel
theorem dX10_openMany_4 : decode cX10_openMany 4 = .ok (.iload_n 2, 1) := by decide +kernel
theorem dX10_openMany_5 : decode cX10_openMany 5 = .ok (.aload_n 0, 1) := by decide +kernel
theorem dX10_openMany_6 : decode cX10_openMany 6 = .ok (.getfield 166, 3) := by decide +kernel
theorem dX10_openMany_9 : decode cX10_openMany 9 = .ok (.if_icmp .ge 18, 3) := by decide +kernel
theorem dX10_openMany_12 : decode cX10_openMany 12 = .ok (.iload_n 1, 1) := by decide +kernel
theorem dX10_openMany_13 : decode cX10_openMany 13 = .ok (.aload_n 0, 1) := by decide +kernel
theorem dX10_openMany_14 : decode cX10_openMany 14 = .ok (.getfield 35, 3) := by decide +kernel
theorem dX10_openMany_17 : decode cX10_openMany 17 = .ok (.iload_n 2, 1) := by decide +kernel
theorem dX10_openMany_18 : decode cX10_openMany 18 = .ok (.iaload, 1) := by decide +kernel
theorem dX10_openMany_19 : decode cX10_openMany 19 = .ok (.iadd, 1) := by decide +kernel
theorem dX10_openMany_20 : decode cX10_openMany 20 = .ok (.istore_n 1, 1) := by decide +kernel
theorem dX10_openMany_21 : decode cX10_openMany 21 = .ok (.iinc 2 1, 3) := by decide +kernel
theorem dX10_openMany_24 : decode cX10_openMany 24 = .ok (.goto (-20), 3) := by decide +kernel
theorem dX10_openMany_27 : decode cX10_openMany 27 = .ok (.iload_n 1, 1) := by decide +kernel
theorem dX10_openMany_28 : decode cX10_openMany 28 = .ok (.ireturn, 1) := by decide +kernel
theorem dX10_count_0 : decode cX10_count 0 = .ok (.iload_n 1, 1) := by decide +kernel
theorem dX10_count_1 : decode cX10_count 1 = .ok (.tableswitch 87 0 7 #[47, 52, 57, 62, 67, 72, 77, 82], 47) := by decide +kernel
theorem dX10_count_48 : decode cX10_count 48 = .ok (.aload_n 0, 1) := by decide +kernel
theorem dX10_count_49 : decode cX10_count 49 = .ok (.getfield 166, 3) := by decide +kernel
theorem dX10_count_52 : decode cX10_count 52 = .ok (.ireturn, 1) := by decide +kernel
theorem dX10_count_53 : decode cX10_count 53 = .ok (.aload_n 0, 1) := by decide +kernel
theorem dX10_count_54 : decode cX10_count 54 = .ok (.getfield 169, 3) := by decide +kernel
theorem dX10_count_57 : decode cX10_count 57 = .ok (.ireturn, 1) := by decide +kernel
theorem dX10_count_58 : decode cX10_count 58 = .ok (.aload_n 0, 1) := by decide +kernel
theorem dX10_count_59 : decode cX10_count 59 = .ok (.invokevirtual 198, 3) := by decide +kernel
theorem dX10_count_62 : decode cX10_count 62 = .ok (.ireturn, 1) := by decide +kernel
theorem dX10_count_63 : decode cX10_count 63 = .ok (.aload_n 0, 1) := by decide +kernel
theorem dX10_count_64 : decode cX10_count 64 = .ok (.getfield 65, 3) := by decide +kernel
theorem dX10_count_67 : decode cX10_count 67 = .ok (.ireturn, 1) := by decide +kernel
theorem dX10_count_68 : decode cX10_count 68 = .ok (.aload_n 0, 1) := by decide +kernel
theorem dX10_count_69 : decode cX10_count 69 = .ok (.getfield 202, 3) := by decide +kernel
theorem dX10_count_72 : decode cX10_count 72 = .ok (.ireturn, 1) := by decide +kernel
theorem dX10_count_73 : decode cX10_count 73 = .ok (.aload_n 0, 1) := by decide +kernel
theorem dX10_count_74 : decode cX10_count 74 = .ok (.getfield 205, 3) := by decide +kernel
theorem dX10_count_77 : decode cX10_count 77 = .ok (.ireturn, 1) := by decide +kernel
theorem dX10_count_78 : decode cX10_count 78 = .ok (.aload_n 0, 1) := by decide +kernel
theorem dX10_count_79 : decode cX10_count 79 = .ok (.getfield 16, 3) := by decide +kernel
theorem dX10_count_82 : decode cX10_count 82 = .ok (.ireturn, 1) := by decide +kernel
theorem dX10_count_83 : decode cX10_count 83 = .ok (.aload_n 0, 1) := by decide +kernel
theorem dX10_count_84 : decode cX10_count 84 = .ok (.getfield 20, 3) := by decide +kernel
theorem dX10_count_87 : decode cX10_count 87 = .ok (.ireturn, 1) := by decide +kernel
theorem dX10_count_88 : decode cX10_count 88 = .ok (.bipush (-2), 2) := by decide +kernel
theorem dX10_count_90 : decode cX10_count 90 = .ok (.ireturn, 1) := by decide +kernel
theorem dX10_isBetween_0 : decode cX10_isBetween 0 = .ok (.iload_n 1, 1) := by decide +kernel
theorem dX10_isBetween_1 : decode cX10_isBetween 1 = .ok (.aload_n 0, 1) := by decide +kernel
theorem dX10_isBetween_2 : decode cX10_isBetween 2 = .ok (.getfield 26, 3) := by decide +kernel
theorem dX10_isBetween_5 : decode cX10_isBetween 5 = .ok (.iload_n 2, 1) := by decide +kernel
theorem dX10_isBetween_6 : decode cX10_isBetween 6 = .ok (.iaload, 1) := by decide +kernel
theorem dX10_isBetween_7 : decode cX10_isBetween 7 = .ok (.aload_n 0, 1) := by decide +kernel
theorem dX10_isBetween_8 : decode cX10_isBetween 8 = .ok (.getfield 26, 3) := by decide +kernel
theorem dX10_isBetween_11 : decode cX10_isBetween 11 = .ok (.iload_n 3, 1) := by decide +kernel
theorem dX10_isBetween_12 : decode cX10_isBetween 12 = .ok (.iaload, 1) := by decide +kernel
theorem dX10_isBetween_13 : decode cX10_isBetween 13 = .ok (.if_icmp .ge 12, 3) := by decide +kernel
theorem dX10_isBetween_16 : decode cX10_isBetween 16 = .ok (.aload_n 0, 1) := by decide +kernel
theorem dX10_isBetween_17 : decode cX10_isBetween 17 = .ok (.getfield 26, 3) := by decide +kernel
theorem dX10_isBetween_20 : decode cX10_isBetween 20 = .ok (.iload_n 2, 1) := by decide +kernel
theorem dX10_isBetween_21 : decode cX10_isBetween 21 = .ok (.iaload, 1) := by decide +kernel
theorem dX10_isBetween_22 : decode cX10_isBetween 22 = .ok (.goto 9, 3) := by decide +kernel
theorem dX10_isBetween_25 : decode cX10_isBetween 25 = .ok (.aload_n 0, 1) := by decide +kernel
theorem dX10_isBetween_26 : decode cX10_isBetween 26 = .ok (.getfield 26, 3) := by decide +kernel
theorem dX10_isBetween_29 : decode cX10_isBetween 29 = .ok (.iload_n 3, 1) := by decide +kernel
theorem dX10_isBetween_30 : decode cX10_isBetween 30 = .ok (.iaload, 1) := by decide +kernel
theorem dX10_isBetween_31 : decode cX10_isBetween 31 = .ok (.if_icmp .le 41, 3) := by decide +kernel
theorem dX10_isBetween_34 : decode cX10_isBetween 34 = .ok (.iload_n 1, 1) := by decide +kernel
theorem dX10_isBetween_35 : decode cX10_isBetween 35 = .ok (.aload_n 0, 1) := by decide +kernel
theorem dX10_isBetween_36 : decode cX10_isBetween 36 = .ok (.getfield 26, 3) := by decide +kernel
theorem dX10_isBetween_39 : decode cX10_isBetween 39 = .ok (.iload_n 2, 1) := by decide +kernel
theorem dX10_isBetween_40 : decode cX10_isBetween 40 = .ok (.iaload, 1) := by decide +kernel
theorem dX10_isBetween_41 : decode cX10_isBetween 41 = .ok (.aload_n 0, 1) := by decide +kernel
theorem dX10_isBetween_42 : decode cX10_isBetween 42 = .ok (.getfield 26, 3) := by decide +kernel
theorem dX10_isBetween_45 : decode cX10_isBetween 45 = .ok (.iload_n 3, 1) := by decide +kernel
theorem dX10_isBetween_46 : decode cX10_isBetween 46 = .ok (.iaload, 1) := by decide +kernel
theorem dX10_isBetween_47 : decode cX10_isBetween 47 = .ok (.if_icmp .ge 12, 3) := by decide +kernel
theorem dX10_isBetween_50 : decode cX10_isBetween 50 = .ok (.aload_n 0, 1) := by decide +kernel
theorem dX10_isBetween_51 : decode cX10_isBetween 51 = .ok (.getfield 26, 3) := by decide +kernel
theorem dX10_isBetween_54 : decode cX10_isBetween 54 = .ok (.iload_n 3, 1) := by decide +kernel
theorem dX10_isBetween_55 : decode cX10_isBetween 55 = .ok (.iaload, 1) := by decide +kernel
theorem dX10_isBetween_56 : decode cX10_isBetween 56 = .ok (.goto 9, 3) := by decide +kernel
theorem dX10_isBetween_59 : decode cX10_isBetween 59 = .ok (.aload_n 0, 1) := by decide +kernel
theorem dX10_isBetween_60 : decode cX10_isBetween 60 = .ok (.getfield 26, 3) := by decide +kernel
theorem dX10_isBetween_63 : decode cX10_isBetween 63 = .ok (.iload_n 2, 1) := by decide +kernel
theorem dX10_isBetween_64 : decode cX10_isBetween 64 = .ok (.iaload, 1) := by decide +kernel
theorem dX10_isBetween_65 : decode cX10_isBetween 65 = .ok (.if_icmp .ge 7, 3) := by decide +kernel
theorem dX10_isBetween_68 : decode cX10_isBetween 68 = .ok (.iconst 1, 1) := by decide +kernel
theorem dX10_isBetween_69 : decode cX10_isBetween 69 = .ok (.goto 4, 3) := by decide +kernel
theorem dX10_isBetween_72 : decode cX10_isBetween 72 = .ok (.iconst 0, 1) := by decide +kernel
theorem dX10_isBetween_73 : decode cX10_isBetween 73 = .ok (.ireturn, 1) := by decide +kernel
theorem dX10_rides_0 : decode cX10_rides 0 = .ok (.aload_n 0, 1) := by decide +kernel
theorem dX10_rides_1 : decode cX10_rides 1 = .ok (.getfield 20, 3) := by decide +kernel
theorem dX10_rides_4 : decode cX10_rides 4 = .ok (.aload_n 0, 1) := by decide +kernel
theorem dX10_rides_5 : decode cX10_rides 5 = .ok (.getfield 26, 3) := by decide +kernel
theorem dX10_rides_8 : decode cX10_rides 8 = .ok (.iload_n 1, 1) := by decide +kernel
theorem dX10_rides_9 : decode cX10_rides 9 = .ok (.iaload, 1) := by decide +kernel
theorem dX10_rides_10 : decode cX10_rides 10 = .ok (.aload_n 0, 1) := by decide +kernel
theorem dX10_rides_11 : decode cX10_rides 11 = .ok (.getfield 26, 3) := by decide +kernel
theorem dX10_rides_14 : decode cX10_rides 14 = .ok (.iload_n 2, 1) := by decide +kernel
theorem dX10_rides_15 : decode cX10_rides 15 = .ok (.iaload, 1) := by decide +kernel
theorem dX10_rides_16 : decode cX10_rides 16 = .ok (.if_icmp .ge 19, 3) := by decide +kernel
theorem dX10_rides_19 : decode cX10_rides 19 = .ok (.aload_n 0, 1) := by decide +kernel
theorem dX10_rides_20 : decode cX10_rides 20 = .ok (.getfield 26, 3) := by decide +kernel
theorem dX10_rides_23 : decode cX10_rides 23 = .ok (.iload_n 2, 1) := by decide +kernel
theorem dX10_rides_24 : decode cX10_rides 24 = .ok (.iaload, 1) := by decide +kernel
theorem dX10_rides_25 : decode cX10_rides 25 = .ok (.aload_n 0, 1) := by decide +kernel
theorem dX10_rides_26 : decode cX10_rides 26 = .ok (.getfield 26, 3) := by decide +kernel
theorem dX10_rides_29 : decode cX10_rides 29 = .ok (.iload_n 1, 1) := by decide +kernel
theorem dX10_rides_30 : decode cX10_rides 30 = .ok (.iaload, 1) := by decide +kernel
theorem dX10_rides_31 : decode cX10_rides 31 = .ok (.isub, 1) := by decide +kernel
theorem dX10_rides_32 : decode cX10_rides 32 = .ok (.goto 16, 3) := by decide +kernel
theorem dX10_rides_35 : decode cX10_rides 35 = .ok (.aload_n 0, 1) := by decide +kernel
theorem dX10_rides_36 : decode cX10_rides 36 = .ok (.getfield 26, 3) := by decide +kernel
theorem dX10_rides_39 : decode cX10_rides 39 = .ok (.iload_n 1, 1) := by decide +kernel
theorem dX10_rides_40 : decode cX10_rides 40 = .ok (.iaload, 1) := by decide +kernel
theorem dX10_rides_41 : decode cX10_rides 41 = .ok (.aload_n 0, 1) := by decide +kernel
theorem dX10_rides_42 : decode cX10_rides 42 = .ok (.getfield 26, 3) := by decide +kernel
theorem dX10_rides_45 : decode cX10_rides 45 = .ok (.iload_n 2, 1) := by decide +kernel
theorem dX10_rides_46 : decode cX10_rides 46 = .ok (.iaload, 1) := by decide +kernel
theorem dX10_rides_47 : decode cX10_rides 47 = .ok (.isub, 1) := by decide +kernel
theorem dX10_rides_48 : decode cX10_rides 48 = .ok (.imul, 1) := by decide +kernel
theorem dX10_rides_49 : decode cX10_rides 49 = .ok (.istore 4, 2) := by decide +kernel
theorem dX10_rides_51 : decode cX10_rides 51 = .ok (.iconst 0, 1) := by decide +kernel
theorem dX10_rides_52 : decode cX10_rides 52 = .ok (.istore 5, 2) := by decide +kernel
theorem dX10_rides_54 : decode cX10_rides 54 = .ok (.iload 5, 2) := by decide +kernel
theorem dX10_rides_56 : decode cX10_rides 56 = .ok (.aload_n 0, 1) := by decide +kernel
theorem dX10_rides_57 : decode cX10_rides 57 = .ok (.getfield 166, 3) := by decide +kernel
theorem dX10_rides_60 : decode cX10_rides 60 = .ok (.if_icmp .ge 50, 3) := by decide +kernel
theorem dX10_rides_63 : decode cX10_rides 63 = .ok (.iload 4, 2) := by decide +kernel
theorem dX10_rides_65 : decode cX10_rides 65 = .ok (.aload_n 0, 1) := by decide +kernel
theorem dX10_rides_66 : decode cX10_rides 66 = .ok (.aload_n 0, 1) := by decide +kernel
theorem dX10_rides_67 : decode cX10_rides 67 = .ok (.getfield 26, 3) := by decide +kernel
theorem dX10_rides_70 : decode cX10_rides 70 = .ok (.iload 5, 2) := by decide +kernel
theorem dX10_rides_72 : decode cX10_rides 72 = .ok (.iaload, 1) := by decide +kernel
theorem dX10_rides_73 : decode cX10_rides 73 = .ok (.iload_n 1, 1) := by decide +kernel
theorem dX10_rides_74 : decode cX10_rides 74 = .ok (.iload_n 2, 1) := by decide +kernel
theorem dX10_rides_75 : decode cX10_rides 75 = .ok (.invokevirtual 208, 3) := by decide +kernel
theorem dX10_rides_78 : decode cX10_rides 78 = .ok (.ifCond .eq 22, 3) := by decide +kernel
theorem dX10_rides_81 : decode cX10_rides 81 = .ok (.aload_n 0, 1) := by decide +kernel
theorem dX10_rides_82 : decode cX10_rides 82 = .ok (.iload 5, 2) := by decide +kernel
theorem dX10_rides_84 : decode cX10_rides 84 = .ok (.iload_n 3, 1) := by decide +kernel
theorem dX10_rides_85 : decode cX10_rides 85 = .ok (.invokevirtual 211, 3) := by decide +kernel
theorem dX10_rides_88 : decode cX10_rides 88 = .ok (.ifCond .eq 12, 3) := by decide +kernel
theorem dX10_rides_91 : decode cX10_rides 91 = .ok (.aload_n 0, 1) := by decide +kernel
theorem dX10_rides_92 : decode cX10_rides 92 = .ok (.iload 5, 2) := by decide +kernel
theorem dX10_rides_94 : decode cX10_rides 94 = .ok (.invokevirtual 191, 3) := by decide +kernel
theorem dX10_rides_97 : decode cX10_rides 97 = .ok (.goto 4, 3) := by decide +kernel
theorem dX10_rides_100 : decode cX10_rides 100 = .ok (.iconst 0, 1) := by decide +kernel
theorem dX10_rides_101 : decode cX10_rides 101 = .ok (.iadd, 1) := by decide +kernel
theorem dX10_rides_102 : decode cX10_rides 102 = .ok (.istore 4, 2) := by decide +kernel
theorem dX10_rides_104 : decode cX10_rides 104 = .ok (.iinc 5 1, 3) := by decide +kernel
theorem dX10_rides_107 : decode cX10_rides 107 = .ok (.goto (-53), 3) := by decide +kernel
theorem dX10_rides_110 : decode cX10_rides 110 = .ok (.iload 4, 2) := by decide +kernel
theorem dX10_rides_112 : decode cX10_rides 112 = .ok (.ireturn, 1) := by decide +kernel
theorem dX10_tries_0 : decode cX10_tries 0 = .ok (.aload_n 0, 1) := by decide +kernel
theorem dX10_tries_1 : decode cX10_tries 1 = .ok (.iload_n 2, 1) := by decide +kernel
theorem dX10_tries_2 : decode cX10_tries 2 = .ok (.iconst 0, 1) := by decide +kernel
theorem dX10_tries_3 : decode cX10_tries 3 = .ok (.invokevirtual 211, 3) := by decide +kernel
theorem dX10_tries_6 : decode cX10_tries 6 = .ok (.ifCond .eq 16, 3) := by decide +kernel
theorem dX10_tries_9 : decode cX10_tries 9 = .ok (.aload_n 0, 1) := by decide +kernel
theorem dX10_tries_10 : decode cX10_tries 10 = .ok (.iload_n 3, 1) := by decide +kernel
theorem dX10_tries_11 : decode cX10_tries 11 = .ok (.iconst 0, 1) := by decide +kernel
theorem dX10_tries_12 : decode cX10_tries 12 = .ok (.invokevirtual 211, 3) := by decide +kernel
theorem dX10_tries_15 : decode cX10_tries 15 = .ok (.ifCond .eq 7, 3) := by decide +kernel
theorem dX10_tries_18 : decode cX10_tries 18 = .ok (.iconst 1, 1) := by decide +kernel
theorem dX10_tries_19 : decode cX10_tries 19 = .ok (.goto 4, 3) := by decide +kernel
theorem dX10_tries_22 : decode cX10_tries 22 = .ok (.iconst 0, 1) := by decide +kernel
theorem dX10_tries_23 : decode cX10_tries 23 = .ok (.istore 4, 2) := by decide +kernel
theorem dX10_tries_25 : decode cX10_tries 25 = .ok (.aload_n 0, 1) := by decide +kernel
theorem dX10_tries_26 : decode cX10_tries 26 = .ok (.iload_n 2, 1) := by decide +kernel
theorem dX10_tries_27 : decode cX10_tries 27 = .ok (.iconst 1, 1) := by decide +kernel
theorem dX10_tries_28 : decode cX10_tries 28 = .ok (.invokevirtual 211, 3) := by decide +kernel
theorem dX10_tries_31 : decode cX10_tries 31 = .ok (.ifCond .eq 16, 3) := by decide +kernel
theorem dX10_tries_34 : decode cX10_tries 34 = .ok (.aload_n 0, 1) := by decide +kernel
theorem dX10_tries_35 : decode cX10_tries 35 = .ok (.iload_n 3, 1) := by decide +kernel
theorem dX10_tries_36 : decode cX10_tries 36 = .ok (.iconst 1, 1) := by decide +kernel
theorem dX10_tries_37 : decode cX10_tries 37 = .ok (.invokevirtual 211, 3) := by decide +kernel
theorem dX10_tries_40 : decode cX10_tries 40 = .ok (.ifCond .eq 7, 3) := by decide +kernel
theorem dX10_tries_43 : decode cX10_tries 43 = .ok (.iconst 1, 1) := by decide +kernel
theorem dX10_tries_44 : decode cX10_tries 44 = .ok (.goto 4, 3) := by decide +kernel
theorem dX10_tries_47 : decode cX10_tries 47 = .ok (.iconst 0, 1) := by decide +kernel
theorem dX10_tries_48 : decode cX10_tries 48 = .ok (.istore 5, 2) := by decide +kernel
theorem dX10_tries_50 : decode cX10_tries 50 = .ok (.iload 4, 2) := by decide +kernel
theorem dX10_tries_52 : decode cX10_tries 52 = .ok (.ifCond .ne 9, 3) := by decide +kernel
theorem dX10_tries_55 : decode cX10_tries 55 = .ok (.iload 5, 2) := by decide +kernel
theorem dX10_tries_57 : decode cX10_tries 57 = .ok (.ifCond .ne 4, 3) := by decide +kernel
theorem dX10_tries_60 : decode cX10_tries 60 = .ok (.return_, 1) := by decide +kernel
theorem dX10_tries_61 : decode cX10_tries 61 = .ok (.iload 4, 2) := by decide +kernel
theorem dX10_tries_63 : decode cX10_tries 63 = .ok (.ifCond .eq 28, 3) := by decide +kernel
theorem dX10_tries_66 : decode cX10_tries 66 = .ok (.iload 5, 2) := by decide +kernel
theorem dX10_tries_68 : decode cX10_tries 68 = .ok (.ifCond .eq 23, 3) := by decide +kernel
theorem dX10_tries_71 : decode cX10_tries 71 = .ok (.aload_n 0, 1) := by decide +kernel
theorem dX10_tries_72 : decode cX10_tries 72 = .ok (.iload_n 2, 1) := by decide +kernel
theorem dX10_tries_73 : decode cX10_tries 73 = .ok (.iload_n 3, 1) := by decide +kernel
theorem dX10_tries_74 : decode cX10_tries 74 = .ok (.iconst 0, 1) := by decide +kernel
theorem dX10_tries_75 : decode cX10_tries 75 = .ok (.invokevirtual 214, 3) := by decide +kernel
theorem dX10_tries_78 : decode cX10_tries 78 = .ok (.aload_n 0, 1) := by decide +kernel
theorem dX10_tries_79 : decode cX10_tries 79 = .ok (.iload_n 2, 1) := by decide +kernel
theorem dX10_tries_80 : decode cX10_tries 80 = .ok (.iload_n 3, 1) := by decide +kernel
theorem dX10_tries_81 : decode cX10_tries 81 = .ok (.iconst 1, 1) := by decide +kernel
theorem dX10_tries_82 : decode cX10_tries 82 = .ok (.invokevirtual 214, 3) := by decide +kernel
theorem dX10_tries_85 : decode cX10_tries 85 = .ok (.iadd, 1) := by decide +kernel
theorem dX10_tries_86 : decode cX10_tries 86 = .ok (.iconst 2, 1) := by decide +kernel
theorem dX10_tries_87 : decode cX10_tries 87 = .ok (.idiv, 1) := by decide +kernel
theorem dX10_tries_88 : decode cX10_tries 88 = .ok (.goto 19, 3) := by decide +kernel
theorem dX10_tries_91 : decode cX10_tries 91 = .ok (.aload_n 0, 1) := by decide +kernel
theorem dX10_tries_92 : decode cX10_tries 92 = .ok (.iload_n 2, 1) := by decide +kernel
theorem dX10_tries_93 : decode cX10_tries 93 = .ok (.iload_n 3, 1) := by decide +kernel
theorem dX10_tries_94 : decode cX10_tries 94 = .ok (.iload 4, 2) := by decide +kernel
theorem dX10_tries_96 : decode cX10_tries 96 = .ok (.ifCond .eq 7, 3) := by decide +kernel
theorem dX10_tries_99 : decode cX10_tries 99 = .ok (.iconst 0, 1) := by decide +kernel
theorem dX10_tries_100 : decode cX10_tries 100 = .ok (.goto 4, 3) := by decide +kernel
theorem dX10_tries_103 : decode cX10_tries 103 = .ok (.iconst 1, 1) := by decide +kernel
theorem dX10_tries_104 : decode cX10_tries 104 = .ok (.invokevirtual 214, 3) := by decide +kernel
theorem dX10_tries_107 : decode cX10_tries 107 = .ok (.istore 6, 2) := by decide +kernel
theorem dX10_tries_109 : decode cX10_tries 109 = .ok (.iload 4, 2) := by decide +kernel
theorem dX10_tries_111 : decode cX10_tries 111 = .ok (.ifCond .eq 17, 3) := by decide +kernel
theorem dX10_tries_114 : decode cX10_tries 114 = .ok (.iload 5, 2) := by decide +kernel
theorem dX10_tries_116 : decode cX10_tries 116 = .ok (.ifCond .eq 12, 3) := by decide +kernel
theorem dX10_tries_119 : decode cX10_tries 119 = .ok (.aload_n 0, 1) := by decide +kernel
theorem dX10_tries_120 : decode cX10_tries 120 = .ok (.getfield 16, 3) := by decide +kernel
theorem dX10_tries_123 : decode cX10_tries 123 = .ok (.iconst 2, 1) := by decide +kernel
theorem dX10_tries_124 : decode cX10_tries 124 = .ok (.idiv, 1) := by decide +kernel
theorem dX10_tries_125 : decode cX10_tries 125 = .ok (.goto 7, 3) := by decide +kernel
theorem dX10_tries_128 : decode cX10_tries 128 = .ok (.aload_n 0, 1) := by decide +kernel
theorem dX10_tries_129 : decode cX10_tries 129 = .ok (.getfield 16, 3) := by decide +kernel
theorem dX10_tries_132 : decode cX10_tries 132 = .ok (.istore 7, 2) := by decide +kernel
theorem dX10_tries_134 : decode cX10_tries 134 = .ok (.aload_n 0, 1) := by decide +kernel
theorem dX10_tries_135 : decode cX10_tries 135 = .ok (.getfield 53, 3) := by decide +kernel
theorem dX10_tries_138 : decode cX10_tries 138 = .ok (.iload_n 1, 1) := by decide +kernel
theorem dX10_tries_139 : decode cX10_tries 139 = .ok (.iaload, 1) := by decide +kernel
theorem dX10_tries_140 : decode cX10_tries 140 = .ok (.istore 8, 2) := by decide +kernel
theorem dX10_tries_142 : decode cX10_tries 142 = .ok (.aload_n 0, 1) := by decide +kernel
theorem dX10_tries_143 : decode cX10_tries 143 = .ok (.aload_n 0, 1) := by decide +kernel
theorem dX10_tries_144 : decode cX10_tries 144 = .ok (.getfield 44, 3) := by decide +kernel
theorem dX10_tries_147 : decode cX10_tries 147 = .ok (.iload_n 1, 1) := by decide +kernel
theorem dX10_tries_148 : decode cX10_tries 148 = .ok (.iaload, 1) := by decide +kernel
theorem dX10_tries_149 : decode cX10_tries 149 = .ok (.aload_n 0, 1) := by decide +kernel
theorem dX10_tries_150 : decode cX10_tries 150 = .ok (.getfield 26, 3) := by decide +kernel
theorem dX10_tries_153 : decode cX10_tries 153 = .ok (.iload_n 2, 1) := by decide +kernel
theorem dX10_tries_154 : decode cX10_tries 154 = .ok (.iaload, 1) := by decide +kernel
theorem dX10_tries_155 : decode cX10_tries 155 = .ok (.iload 8, 2) := by decide +kernel
theorem dX10_tries_157 : decode cX10_tries 157 = .ok (.invokevirtual 176, 3) := by decide +kernel
theorem dX10_tries_160 : decode cX10_tries 160 = .ok (.aload_n 0, 1) := by decide +kernel
theorem dX10_tries_161 : decode cX10_tries 161 = .ok (.aload_n 0, 1) := by decide +kernel
theorem dX10_tries_162 : decode cX10_tries 162 = .ok (.getfield 26, 3) := by decide +kernel
theorem dX10_tries_165 : decode cX10_tries 165 = .ok (.iload_n 3, 1) := by decide +kernel
theorem dX10_tries_166 : decode cX10_tries 166 = .ok (.iaload, 1) := by decide +kernel
theorem dX10_tries_167 : decode cX10_tries 167 = .ok (.aload_n 0, 1) := by decide +kernel
theorem dX10_tries_168 : decode cX10_tries 168 = .ok (.getfield 47, 3) := by decide +kernel
theorem dX10_tries_171 : decode cX10_tries 171 = .ok (.iload_n 1, 1) := by decide +kernel
theorem dX10_tries_172 : decode cX10_tries 172 = .ok (.iaload, 1) := by decide +kernel
theorem dX10_tries_173 : decode cX10_tries 173 = .ok (.iload 8, 2) := by decide +kernel
theorem dX10_tries_175 : decode cX10_tries 175 = .ok (.invokevirtual 176, 3) := by decide +kernel
theorem dX10_tries_178 : decode cX10_tries 178 = .ok (.iadd, 1) := by decide +kernel
theorem dX10_tries_179 : decode cX10_tries 179 = .ok (.istore 9, 2) := by decide +kernel
theorem dX10_tries_181 : decode cX10_tries 181 = .ok (.iload 9, 2) := by decide +kernel
theorem dX10_tries_183 : decode cX10_tries 183 = .ok (.aload_n 0, 1) := by decide +kernel
theorem dX10_tries_184 : decode cX10_tries 184 = .ok (.getfield 13, 3) := by decide +kernel
theorem dX10_tries_187 : decode cX10_tries 187 = .ok (.bipush 6, 2) := by decide +kernel
theorem dX10_tries_189 : decode cX10_tries 189 = .ok (.iload 8, 2) := by decide +kernel
theorem dX10_tries_191 : decode cX10_tries 191 = .ok (.imul, 1) := by decide +kernel
theorem dX10_tries_192 : decode cX10_tries 192 = .ok (.iconst 2, 1) := by decide +kernel
theorem dX10_tries_193 : decode cX10_tries 193 = .ok (.iadd, 1) := by decide +kernel
theorem dX10_tries_194 : decode cX10_tries 194 = .ok (.iaload, 1) := by decide +kernel
theorem dX10_tries_195 : decode cX10_tries 195 = .ok (.imul, 1) := by decide +kernel
theorem dX10_tries_196 : decode cX10_tries 196 = .ok (.iload 7, 2) := by decide +kernel
theorem dX10_tries_198 : decode cX10_tries 198 = .ok (.aload_n 0, 1) := by decide +kernel
theorem dX10_tries_199 : decode cX10_tries 199 = .ok (.getfield 13, 3) := by decide +kernel
theorem dX10_tries_202 : decode cX10_tries 202 = .ok (.bipush 6, 2) := by decide +kernel
theorem dX10_tries_204 : decode cX10_tries 204 = .ok (.iload 8, 2) := by decide +kernel
theorem dX10_tries_206 : decode cX10_tries 206 = .ok (.imul, 1) := by decide +kernel
theorem dX10_tries_207 : decode cX10_tries 207 = .ok (.iconst 3, 1) := by decide +kernel
theorem dX10_tries_208 : decode cX10_tries 208 = .ok (.iadd, 1) := by decide +kernel
theorem dX10_tries_209 : decode cX10_tries 209 = .ok (.iaload, 1) := by decide +kernel
theorem dX10_tries_210 : decode cX10_tries 210 = .ok (.imul, 1) := by decide +kernel
theorem dX10_tries_211 : decode cX10_tries 211 = .ok (.iadd, 1) := by decide +kernel
theorem dX10_tries_212 : decode cX10_tries 212 = .ok (.iload 6, 2) := by decide +kernel
theorem dX10_tries_214 : decode cX10_tries 214 = .ok (.aload_n 0, 1) := by decide +kernel
theorem dX10_tries_215 : decode cX10_tries 215 = .ok (.getfield 13, 3) := by decide +kernel
theorem dX10_tries_218 : decode cX10_tries 218 = .ok (.bipush 6, 2) := by decide +kernel
theorem dX10_tries_220 : decode cX10_tries 220 = .ok (.iload 8, 2) := by decide +kernel
theorem dX10_tries_222 : decode cX10_tries 222 = .ok (.imul, 1) := by decide +kernel
theorem dX10_tries_223 : decode cX10_tries 223 = .ok (.iconst 4, 1) := by decide +kernel
theorem dX10_tries_224 : decode cX10_tries 224 = .ok (.iadd, 1) := by decide +kernel
theorem dX10_tries_225 : decode cX10_tries 225 = .ok (.iaload, 1) := by decide +kernel
theorem dX10_tries_226 : decode cX10_tries 226 = .ok (.imul, 1) := by decide +kernel
theorem dX10_tries_227 : decode cX10_tries 227 = .ok (.iadd, 1) := by decide +kernel
theorem dX10_tries_228 : decode cX10_tries 228 = .ok (.istore 10, 2) := by decide +kernel
theorem dX10_tries_230 : decode cX10_tries 230 = .ok (.iload 10, 2) := by decide +kernel
theorem dX10_tries_232 : decode cX10_tries 232 = .ok (.aload_n 0, 1) := by decide +kernel
theorem dX10_tries_233 : decode cX10_tries 233 = .ok (.getfield 217, 3) := by decide +kernel
theorem dX10_tries_236 : decode cX10_tries 236 = .ok (.if_icmp .ge 37, 3) := by decide +kernel
theorem dX10_tries_239 : decode cX10_tries 239 = .ok (.aload_n 0, 1) := by decide +kernel
theorem dX10_tries_240 : decode cX10_tries 240 = .ok (.iload 10, 2) := by decide +kernel
theorem dX10_tries_242 : decode cX10_tries 242 = .ok (.putfield 217, 3) := by decide +kernel
theorem dX10_tries_245 : decode cX10_tries 245 = .ok (.aload_n 0, 1) := by decide +kernel
theorem dX10_tries_246 : decode cX10_tries 246 = .ok (.iload_n 2, 1) := by decide +kernel
theorem dX10_tries_247 : decode cX10_tries 247 = .ok (.putfield 220, 3) := by decide +kernel
theorem dX10_tries_250 : decode cX10_tries 250 = .ok (.aload_n 0, 1) := by decide +kernel
theorem dX10_tries_251 : decode cX10_tries 251 = .ok (.iload_n 3, 1) := by decide +kernel
theorem dX10_tries_252 : decode cX10_tries 252 = .ok (.putfield 223, 3) := by decide +kernel
theorem dX10_tries_255 : decode cX10_tries 255 = .ok (.aload_n 0, 1) := by decide +kernel
theorem dX10_tries_256 : decode cX10_tries 256 = .ok (.iload 9, 2) := by decide +kernel
theorem dX10_tries_258 : decode cX10_tries 258 = .ok (.putfield 226, 3) := by decide +kernel
theorem dX10_tries_261 : decode cX10_tries 261 = .ok (.aload_n 0, 1) := by decide +kernel
theorem dX10_tries_262 : decode cX10_tries 262 = .ok (.iload 7, 2) := by decide +kernel
theorem dX10_tries_264 : decode cX10_tries 264 = .ok (.putfield 229, 3) := by decide +kernel
theorem dX10_tries_267 : decode cX10_tries 267 = .ok (.aload_n 0, 1) := by decide +kernel
theorem dX10_tries_268 : decode cX10_tries 268 = .ok (.iload 6, 2) := by decide +kernel
theorem dX10_tries_270 : decode cX10_tries 270 = .ok (.putfield 232, 3) := by decide +kernel
theorem dX10_tries_273 : decode cX10_tries 273 = .ok (.return_, 1) := by decide +kernel
theorem dX10_finds_0 : decode cX10_finds 0 = .ok (.aload_n 0, 1) := by decide +kernel
theorem dX10_finds_1 : decode cX10_finds 1 = .ok (.getfield 53, 3) := by decide +kernel
theorem dX10_finds_4 : decode cX10_finds 4 = .ok (.iload_n 1, 1) := by decide +kernel
theorem dX10_finds_5 : decode cX10_finds 5 = .ok (.iaload, 1) := by decide +kernel
theorem dX10_finds_6 : decode cX10_finds 6 = .ok (.istore_n 2, 1) := by decide +kernel
theorem dX10_finds_7 : decode cX10_finds 7 = .ok (.aload_n 0, 1) := by decide +kernel
theorem dX10_finds_8 : decode cX10_finds 8 = .ok (.iconst (-1), 1) := by decide +kernel
theorem dX10_finds_9 : decode cX10_finds 9 = .ok (.putfield 220, 3) := by decide +kernel
theorem dX10_finds_12 : decode cX10_finds 12 = .ok (.aload_n 0, 1) := by decide +kernel
theorem dX10_finds_13 : decode cX10_finds 13 = .ok (.iconst (-1), 1) := by decide +kernel
theorem dX10_finds_14 : decode cX10_finds 14 = .ok (.putfield 223, 3) := by decide +kernel
theorem dX10_finds_17 : decode cX10_finds 17 = .ok (.aload_n 0, 1) := by decide +kernel
theorem dX10_finds_18 : decode cX10_finds 18 = .ok (.aload_n 0, 1) := by decide +kernel
theorem dX10_finds_19 : decode cX10_finds 19 = .ok (.aload_n 0, 1) := by decide +kernel
theorem dX10_finds_20 : decode cX10_finds 20 = .ok (.getfield 44, 3) := by decide +kernel
theorem dX10_finds_23 : decode cX10_finds 23 = .ok (.iload_n 1, 1) := by decide +kernel
theorem dX10_finds_24 : decode cX10_finds 24 = .ok (.iaload, 1) := by decide +kernel
theorem dX10_finds_25 : decode cX10_finds 25 = .ok (.aload_n 0, 1) := by decide +kernel
theorem dX10_finds_26 : decode cX10_finds 26 = .ok (.getfield 47, 3) := by decide +kernel
theorem dX10_finds_29 : decode cX10_finds 29 = .ok (.iload_n 1, 1) := by decide +kernel
theorem dX10_finds_30 : decode cX10_finds 30 = .ok (.iaload, 1) := by decide +kernel
theorem dX10_finds_31 : decode cX10_finds 31 = .ok (.iload_n 2, 1) := by decide +kernel
theorem dX10_finds_32 : decode cX10_finds 32 = .ok (.invokevirtual 176, 3) := by decide +kernel
theorem dX10_finds_35 : decode cX10_finds 35 = .ok (.putfield 226, 3) := by decide +kernel
theorem dX10_finds_38 : decode cX10_finds 38 = .ok (.aload_n 0, 1) := by decide +kernel
theorem dX10_finds_39 : decode cX10_finds 39 = .ok (.iconst 0, 1) := by decide +kernel
theorem dX10_finds_40 : decode cX10_finds 40 = .ok (.putfield 229, 3) := by decide +kernel
theorem dX10_finds_43 : decode cX10_finds 43 = .ok (.aload_n 0, 1) := by decide +kernel
theorem dX10_finds_44 : decode cX10_finds 44 = .ok (.iconst 0, 1) := by decide +kernel
theorem dX10_finds_45 : decode cX10_finds 45 = .ok (.putfield 232, 3) := by decide +kernel
theorem dX10_finds_48 : decode cX10_finds 48 = .ok (.aload_n 0, 1) := by decide +kernel
theorem dX10_finds_49 : decode cX10_finds 49 = .ok (.aload_n 0, 1) := by decide +kernel
theorem dX10_finds_50 : decode cX10_finds 50 = .ok (.getfield 226, 3) := by decide +kernel
theorem dX10_finds_53 : decode cX10_finds 53 = .ok (.aload_n 0, 1) := by decide +kernel
theorem dX10_finds_54 : decode cX10_finds 54 = .ok (.getfield 13, 3) := by decide +kernel
theorem dX10_finds_57 : decode cX10_finds 57 = .ok (.bipush 6, 2) := by decide +kernel
theorem dX10_finds_59 : decode cX10_finds 59 = .ok (.iload_n 2, 1) := by decide +kernel
theorem dX10_finds_60 : decode cX10_finds 60 = .ok (.imul, 1) := by decide +kernel
theorem dX10_finds_61 : decode cX10_finds 61 = .ok (.iconst 2, 1) := by decide +kernel
theorem dX10_finds_62 : decode cX10_finds 62 = .ok (.iadd, 1) := by decide +kernel
theorem dX10_finds_63 : decode cX10_finds 63 = .ok (.iaload, 1) := by decide +kernel
theorem dX10_finds_64 : decode cX10_finds 64 = .ok (.imul, 1) := by decide +kernel
theorem dX10_finds_65 : decode cX10_finds 65 = .ok (.putfield 217, 3) := by decide +kernel
theorem dX10_finds_68 : decode cX10_finds 68 = .ok (.iconst 0, 1) := by decide +kernel
theorem dX10_finds_69 : decode cX10_finds 69 = .ok (.istore_n 3, 1) := by decide +kernel
theorem dX10_finds_70 : decode cX10_finds 70 = .ok (.iload_n 3, 1) := by decide +kernel
theorem dX10_finds_71 : decode cX10_finds 71 = .ok (.aload_n 0, 1) := by decide +kernel
theorem dX10_finds_72 : decode cX10_finds 72 = .ok (.getfield 166, 3) := by decide +kernel
theorem dX10_finds_75 : decode cX10_finds 75 = .ok (.if_icmp .ge 41, 3) := by decide +kernel
theorem dX10_finds_78 : decode cX10_finds 78 = .ok (.iconst 0, 1) := by decide +kernel
theorem dX10_finds_79 : decode cX10_finds 79 = .ok (.istore 4, 2) := by decide +kernel
theorem dX10_finds_81 : decode cX10_finds 81 = .ok (.iload 4, 2) := by decide +kernel
theorem dX10_finds_83 : decode cX10_finds 83 = .ok (.aload_n 0, 1) := by decide +kernel
theorem dX10_finds_84 : decode cX10_finds 84 = .ok (.getfield 166, 3) := by decide +kernel
theorem dX10_finds_87 : decode cX10_finds 87 = .ok (.if_icmp .ge 23, 3) := by decide +kernel
theorem dX10_finds_90 : decode cX10_finds 90 = .ok (.iload_n 3, 1) := by decide +kernel
theorem dX10_finds_91 : decode cX10_finds 91 = .ok (.iload 4, 2) := by decide +kernel
theorem dX10_finds_93 : decode cX10_finds 93 = .ok (.if_icmp .eq 11, 3) := by decide +kernel
theorem dX10_finds_96 : decode cX10_finds 96 = .ok (.aload_n 0, 1) := by decide +kernel
theorem dX10_finds_97 : decode cX10_finds 97 = .ok (.iload_n 1, 1) := by decide +kernel
theorem dX10_finds_98 : decode cX10_finds 98 = .ok (.iload_n 3, 1) := by decide +kernel
theorem dX10_finds_99 : decode cX10_finds 99 = .ok (.iload 4, 2) := by decide +kernel
theorem dX10_finds_101 : decode cX10_finds 101 = .ok (.invokevirtual 235, 3) := by decide +kernel
theorem dX10_finds_104 : decode cX10_finds 104 = .ok (.iinc 4 1, 3) := by decide +kernel
theorem dX10_finds_107 : decode cX10_finds 107 = .ok (.goto (-26), 3) := by decide +kernel
theorem dX10_finds_110 : decode cX10_finds 110 = .ok (.iinc 3 1, 3) := by decide +kernel
theorem dX10_finds_113 : decode cX10_finds 113 = .ok (.goto (-43), 3) := by decide +kernel
theorem dX10_finds_116 : decode cX10_finds 116 = .ok (.return_, 1) := by decide +kernel
theorem dX10_takes_0 : decode cX10_takes 0 = .ok (.aload_n 0, 1) := by decide +kernel
theorem dX10_takes_1 : decode cX10_takes 1 = .ok (.iload_n 1, 1) := by decide +kernel
theorem dX10_takes_2 : decode cX10_takes 2 = .ok (.invokevirtual 239, 3) := by decide +kernel
theorem dX10_takes_5 : decode cX10_takes 5 = .ok (.ifCond .ne 6, 3) := by decide +kernel
theorem dX10_takes_8 : decode cX10_takes 8 = .ok (.bipush (-5), 2) := by decide +kernel
theorem dX10_takes_10 : decode cX10_takes 10 = .ok (.ireturn, 1) := by decide +kernel
theorem dX10_takes_11 : decode cX10_takes 11 = .ok (.aload_n 0, 1) := by decide +kernel
theorem dX10_takes_12 : decode cX10_takes 12 = .ok (.iload_n 1, 1) := by decide +kernel
theorem dX10_takes_13 : decode cX10_takes 13 = .ok (.invokevirtual 242, 3) := by decide +kernel
theorem dX10_takes_16 : decode cX10_takes 16 = .ok (.iload_n 2, 1) := by decide +kernel
theorem dX10_takes_17 : decode cX10_takes 17 = .ok (.tableswitch 69 0 5 #[39, 44, 49, 54, 59, 64], 39) := by decide +kernel
theorem dX10_takes_56 : decode cX10_takes 56 = .ok (.aload_n 0, 1) := by decide +kernel
theorem dX10_takes_57 : decode cX10_takes 57 = .ok (.getfield 217, 3) := by decide +kernel
theorem dX10_takes_60 : decode cX10_takes 60 = .ok (.ireturn, 1) := by decide +kernel
theorem dX10_takes_61 : decode cX10_takes 61 = .ok (.aload_n 0, 1) := by decide +kernel
theorem dX10_takes_62 : decode cX10_takes 62 = .ok (.getfield 220, 3) := by decide +kernel
theorem dX10_takes_65 : decode cX10_takes 65 = .ok (.ireturn, 1) := by decide +kernel
theorem dX10_takes_66 : decode cX10_takes 66 = .ok (.aload_n 0, 1) := by decide +kernel
theorem dX10_takes_67 : decode cX10_takes 67 = .ok (.getfield 223, 3) := by decide +kernel
theorem dX10_takes_70 : decode cX10_takes 70 = .ok (.ireturn, 1) := by decide +kernel
theorem dX10_takes_71 : decode cX10_takes 71 = .ok (.aload_n 0, 1) := by decide +kernel
theorem dX10_takes_72 : decode cX10_takes 72 = .ok (.getfield 226, 3) := by decide +kernel
theorem dX10_takes_75 : decode cX10_takes 75 = .ok (.ireturn, 1) := by decide +kernel
theorem dX10_takes_76 : decode cX10_takes 76 = .ok (.aload_n 0, 1) := by decide +kernel
theorem dX10_takes_77 : decode cX10_takes 77 = .ok (.getfield 229, 3) := by decide +kernel
theorem dX10_takes_80 : decode cX10_takes 80 = .ok (.ireturn, 1) := by decide +kernel
theorem dX10_takes_81 : decode cX10_takes 81 = .ok (.aload_n 0, 1) := by decide +kernel
theorem dX10_takes_82 : decode cX10_takes 82 = .ok (.getfield 232, 3) := by decide +kernel
theorem dX10_takes_85 : decode cX10_takes 85 = .ok (.ireturn, 1) := by decide +kernel
theorem dX10_takes_86 : decode cX10_takes 86 = .ok (.bipush (-7), 2) := by decide +kernel
theorem dX10_takes_88 : decode cX10_takes 88 = .ok (.ireturn, 1) := by decide +kernel
theorem dX10_total_0 : decode cX10_total 0 = .ok (.lconst 0, 1) := by decide +kernel
theorem dX10_total_1 : decode cX10_total 1 = .ok (.lstore_n 1, 1) := by decide +kernel
theorem dX10_total_2 : decode cX10_total 2 = .ok (.aload_n 0, 1) := by decide +kernel
theorem dX10_total_3 : decode cX10_total 3 = .ok (.iconst 0, 1) := by decide +kernel
theorem dX10_total_4 : decode cX10_total 4 = .ok (.putfield 246, 3) := by decide +kernel
theorem dX10_total_7 : decode cX10_total 7 = .ok (.aload_n 0, 1) := by decide +kernel
theorem dX10_total_8 : decode cX10_total 8 = .ok (.iconst 0, 1) := by decide +kernel
theorem dX10_total_9 : decode cX10_total 9 = .ok (.putfield 249, 3) := by decide +kernel
theorem dX10_total_12 : decode cX10_total 12 = .ok (.aload_n 0, 1) := by decide +kernel
theorem dX10_total_13 : decode cX10_total 13 = .ok (.iconst (-1), 1) := by decide +kernel
theorem dX10_total_14 : decode cX10_total 14 = .ok (.putfield 252, 3) := by decide +kernel
theorem dX10_total_17 : decode cX10_total 17 = .ok (.iconst 0, 1) := by decide +kernel
theorem dX10_total_18 : decode cX10_total 18 = .ok (.istore_n 3, 1) := by decide +kernel
theorem dX10_total_19 : decode cX10_total 19 = .ok (.iload_n 3, 1) := by decide +kernel
theorem dX10_total_20 : decode cX10_total 20 = .ok (.aload_n 0, 1) := by decide +kernel
theorem dX10_total_21 : decode cX10_total 21 = .ok (.getfield 169, 3) := by decide +kernel
theorem dX10_total_24 : decode cX10_total 24 = .ok (.if_icmp .ge 98, 3) := by decide +kernel
theorem dX10_total_27 : decode cX10_total 27 = .ok (.aload_n 0, 1) := by decide +kernel
theorem dX10_total_28 : decode cX10_total 28 = .ok (.iload_n 3, 1) := by decide +kernel
theorem dX10_total_29 : decode cX10_total 29 = .ok (.invokevirtual 242, 3) := by decide +kernel
theorem dX10_total_32 : decode cX10_total 32 = .ok (.aload_n 0, 1) := by decide +kernel
theorem dX10_total_33 : decode cX10_total 33 = .ok (.getfield 92, 3) := by decide +kernel
theorem dX10_total_36 : decode cX10_total 36 = .ok (.iload_n 3, 1) := by decide +kernel
theorem dX10_total_37 : decode cX10_total 37 = .ok (.aload_n 0, 1) := by decide +kernel
theorem dX10_total_38 : decode cX10_total 38 = .ok (.getfield 217, 3) := by decide +kernel
theorem dX10_total_41 : decode cX10_total 41 = .ok (.iastore, 1) := by decide +kernel
theorem dX10_total_42 : decode cX10_total 42 = .ok (.lload_n 1, 1) := by decide +kernel
theorem dX10_total_43 : decode cX10_total 43 = .ok (.aload_n 0, 1) := by decide +kernel
theorem dX10_total_44 : decode cX10_total 44 = .ok (.getfield 50, 3) := by decide +kernel
theorem dX10_total_47 : decode cX10_total 47 = .ok (.iload_n 3, 1) := by decide +kernel
theorem dX10_total_48 : decode cX10_total 48 = .ok (.iaload, 1) := by decide +kernel
theorem dX10_total_49 : decode cX10_total 49 = .ok (.i2l, 1) := by decide +kernel
theorem dX10_total_50 : decode cX10_total 50 = .ok (.aload_n 0, 1) := by decide +kernel
theorem dX10_total_51 : decode cX10_total 51 = .ok (.getfield 217, 3) := by decide +kernel
theorem dX10_total_54 : decode cX10_total 54 = .ok (.i2l, 1) := by decide +kernel
theorem dX10_total_55 : decode cX10_total 55 = .ok (.lmul, 1) := by decide +kernel
theorem dX10_total_56 : decode cX10_total 56 = .ok (.ladd, 1) := by decide +kernel
theorem dX10_total_57 : decode cX10_total 57 = .ok (.lstore_n 1, 1) := by decide +kernel
theorem dX10_total_58 : decode cX10_total 58 = .ok (.aload_n 0, 1) := by decide +kernel
theorem dX10_total_59 : decode cX10_total 59 = .ok (.aload_n 0, 1) := by decide +kernel
theorem dX10_total_60 : decode cX10_total 60 = .ok (.getfield 226, 3) := by decide +kernel
theorem dX10_total_63 : decode cX10_total 63 = .ok (.aload_n 0, 1) := by decide +kernel
theorem dX10_total_64 : decode cX10_total 64 = .ok (.getfield 246, 3) := by decide +kernel
theorem dX10_total_67 : decode cX10_total 67 = .ok (.if_icmp .le 10, 3) := by decide +kernel
theorem dX10_total_70 : decode cX10_total 70 = .ok (.aload_n 0, 1) := by decide +kernel
theorem dX10_total_71 : decode cX10_total 71 = .ok (.getfield 226, 3) := by decide +kernel
theorem dX10_total_74 : decode cX10_total 74 = .ok (.goto 7, 3) := by decide +kernel
theorem dX10_total_77 : decode cX10_total 77 = .ok (.aload_n 0, 1) := by decide +kernel
theorem dX10_total_78 : decode cX10_total 78 = .ok (.getfield 246, 3) := by decide +kernel
theorem dX10_total_81 : decode cX10_total 81 = .ok (.putfield 246, 3) := by decide +kernel
theorem dX10_total_84 : decode cX10_total 84 = .ok (.aload_n 0, 1) := by decide +kernel
theorem dX10_total_85 : decode cX10_total 85 = .ok (.getfield 252, 3) := by decide +kernel
theorem dX10_total_88 : decode cX10_total 88 = .ok (.iconst (-1), 1) := by decide +kernel
theorem dX10_total_89 : decode cX10_total 89 = .ok (.if_icmp .eq 14, 3) := by decide +kernel
theorem dX10_total_92 : decode cX10_total 92 = .ok (.aload_n 0, 1) := by decide +kernel
theorem dX10_total_93 : decode cX10_total 93 = .ok (.getfield 217, 3) := by decide +kernel
theorem dX10_total_96 : decode cX10_total 96 = .ok (.aload_n 0, 1) := by decide +kernel
theorem dX10_total_97 : decode cX10_total 97 = .ok (.getfield 249, 3) := by decide +kernel
theorem dX10_total_100 : decode cX10_total 100 = .ok (.if_icmp .le 16, 3) := by decide +kernel
theorem dX10_total_103 : decode cX10_total 103 = .ok (.aload_n 0, 1) := by decide +kernel
theorem dX10_total_104 : decode cX10_total 104 = .ok (.iload_n 3, 1) := by decide +kernel
theorem dX10_total_105 : decode cX10_total 105 = .ok (.putfield 252, 3) := by decide +kernel
theorem dX10_total_108 : decode cX10_total 108 = .ok (.aload_n 0, 1) := by decide +kernel
theorem dX10_total_109 : decode cX10_total 109 = .ok (.aload_n 0, 1) := by decide +kernel
theorem dX10_total_110 : decode cX10_total 110 = .ok (.getfield 217, 3) := by decide +kernel
theorem dX10_total_113 : decode cX10_total 113 = .ok (.putfield 249, 3) := by decide +kernel
theorem dX10_total_116 : decode cX10_total 116 = .ok (.iinc 3 1, 3) := by decide +kernel
theorem dX10_total_119 : decode cX10_total 119 = .ok (.goto (-100), 3) := by decide +kernel
theorem dX10_total_122 : decode cX10_total 122 = .ok (.lload_n 1, 1) := by decide +kernel
theorem dX10_total_123 : decode cX10_total 123 = .ok (.lreturn, 1) := by decide +kernel
theorem dX10_sum_0 : decode cX10_sum 0 = .ok (.iload_n 1, 1) := by decide +kernel
theorem dX10_sum_1 : decode cX10_sum 1 = .ok (.iconst 0, 1) := by decide +kernel
theorem dX10_sum_2 : decode cX10_sum 2 = .ok (.iconst 2, 1) := by decide +kernel
theorem dX10_sum_3 : decode cX10_sum 3 = .ok (.invokestatic 162, 3) := by decide +kernel
theorem dX10_sum_6 : decode cX10_sum 6 = .ok (.ifCond .ne 7, 3) := by decide +kernel
theorem dX10_sum_9 : decode cX10_sum 9 = .ok (.ldc2_w 255, 3) := by decide +kernel
theorem dX10_sum_12 : decode cX10_sum 12 = .ok (.lreturn, 1) := by decide +kernel
theorem dX10_sum_13 : decode cX10_sum 13 = .ok (.aload_n 0, 1) := by decide +kernel
theorem dX10_sum_14 : decode cX10_sum 14 = .ok (.invokevirtual 257, 3) := by decide +kernel
theorem dX10_sum_17 : decode cX10_sum 17 = .ok (.lstore_n 2, 1) := by decide +kernel
theorem dX10_sum_18 : decode cX10_sum 18 = .ok (.iload_n 1, 1) := by decide +kernel
theorem dX10_sum_19 : decode cX10_sum 19 = .ok (.ifCond .ne 7, 3) := by decide +kernel
theorem dX10_sum_22 : decode cX10_sum 22 = .ok (.lload_n 2, 1) := by decide +kernel
theorem dX10_sum_23 : decode cX10_sum 23 = .ok (.goto 21, 3) := by decide +kernel
theorem dX10_sum_26 : decode cX10_sum 26 = .ok (.iload_n 1, 1) := by decide +kernel
theorem dX10_sum_27 : decode cX10_sum 27 = .ok (.iconst 1, 1) := by decide +kernel
theorem dX10_sum_28 : decode cX10_sum 28 = .ok (.if_icmp .ne 11, 3) := by decide +kernel
theorem dX10_sum_31 : decode cX10_sum 31 = .ok (.aload_n 0, 1) := by decide +kernel
theorem dX10_sum_32 : decode cX10_sum 32 = .ok (.getfield 252, 3) := by decide +kernel
theorem dX10_sum_35 : decode cX10_sum 35 = .ok (.i2l, 1) := by decide +kernel
theorem dX10_sum_36 : decode cX10_sum 36 = .ok (.goto 8, 3) := by decide +kernel
theorem dX10_sum_39 : decode cX10_sum 39 = .ok (.aload_n 0, 1) := by decide +kernel
theorem dX10_sum_40 : decode cX10_sum 40 = .ok (.getfield 249, 3) := by decide +kernel
theorem dX10_sum_43 : decode cX10_sum 43 = .ok (.i2l, 1) := by decide +kernel
theorem dX10_sum_44 : decode cX10_sum 44 = .ok (.lreturn, 1) := by decide +kernel
theorem dX10_useOf_0 : decode cX10_useOf 0 = .ok (.iconst 0, 1) := by decide +kernel
theorem dX10_useOf_1 : decode cX10_useOf 1 = .ok (.istore_n 2, 1) := by decide +kernel
theorem dX10_useOf_2 : decode cX10_useOf 2 = .ok (.iconst 0, 1) := by decide +kernel
theorem dX10_useOf_3 : decode cX10_useOf 3 = .ok (.istore_n 3, 1) := by decide +kernel
theorem dX10_useOf_4 : decode cX10_useOf 4 = .ok (.iload_n 3, 1) := by decide +kernel
theorem dX10_useOf_5 : decode cX10_useOf 5 = .ok (.aload_n 0, 1) := by decide +kernel
theorem dX10_useOf_6 : decode cX10_useOf 6 = .ok (.getfield 169, 3) := by decide +kernel
theorem dX10_useOf_9 : decode cX10_useOf 9 = .ok (.if_icmp .ge 43, 3) := by decide +kernel
theorem dX10_useOf_12 : decode cX10_useOf 12 = .ok (.aload_n 0, 1) := by decide +kernel
theorem dX10_useOf_13 : decode cX10_useOf 13 = .ok (.iload_n 3, 1) := by decide +kernel
theorem dX10_useOf_14 : decode cX10_useOf 14 = .ok (.invokevirtual 242, 3) := by decide +kernel
theorem dX10_useOf_17 : decode cX10_useOf 17 = .ok (.iload_n 2, 1) := by decide +kernel
theorem dX10_useOf_18 : decode cX10_useOf 18 = .ok (.aload_n 0, 1) := by decide +kernel
theorem dX10_useOf_19 : decode cX10_useOf 19 = .ok (.getfield 220, 3) := by decide +kernel
theorem dX10_useOf_22 : decode cX10_useOf 22 = .ok (.iload_n 1, 1) := by decide +kernel
theorem dX10_useOf_23 : decode cX10_useOf 23 = .ok (.if_icmp .eq 11, 3) := by decide +kernel
theorem dX10_useOf_26 : decode cX10_useOf 26 = .ok (.aload_n 0, 1) := by decide +kernel
theorem dX10_useOf_27 : decode cX10_useOf 27 = .ok (.getfield 223, 3) := by decide +kernel
theorem dX10_useOf_30 : decode cX10_useOf 30 = .ok (.iload_n 1, 1) := by decide +kernel
theorem dX10_useOf_31 : decode cX10_useOf 31 = .ok (.if_icmp .ne 12, 3) := by decide +kernel
theorem dX10_useOf_34 : decode cX10_useOf 34 = .ok (.aload_n 0, 1) := by decide +kernel
theorem dX10_useOf_35 : decode cX10_useOf 35 = .ok (.getfield 50, 3) := by decide +kernel
theorem dX10_useOf_38 : decode cX10_useOf 38 = .ok (.iload_n 3, 1) := by decide +kernel
theorem dX10_useOf_39 : decode cX10_useOf 39 = .ok (.iaload, 1) := by decide +kernel
theorem dX10_useOf_40 : decode cX10_useOf 40 = .ok (.goto 4, 3) := by decide +kernel
theorem dX10_useOf_43 : decode cX10_useOf 43 = .ok (.iconst 0, 1) := by decide +kernel
theorem dX10_useOf_44 : decode cX10_useOf 44 = .ok (.iadd, 1) := by decide +kernel
theorem dX10_useOf_45 : decode cX10_useOf 45 = .ok (.istore_n 2, 1) := by decide +kernel
theorem dX10_useOf_46 : decode cX10_useOf 46 = .ok (.iinc 3 1, 3) := by decide +kernel
theorem dX10_useOf_49 : decode cX10_useOf 49 = .ok (.goto (-45), 3) := by decide +kernel
theorem dX10_useOf_52 : decode cX10_useOf 52 = .ok (.iload_n 2, 1) := by decide +kernel
theorem dX10_useOf_53 : decode cX10_useOf 53 = .ok (.ireturn, 1) := by decide +kernel
theorem dX10_use_0 : decode cX10_use 0 = .ok (.aload_n 0, 1) := by decide +kernel
theorem dX10_use_1 : decode cX10_use 1 = .ok (.iload_n 1, 1) := by decide +kernel
theorem dX10_use_2 : decode cX10_use 2 = .ok (.invokevirtual 180, 3) := by decide +kernel
theorem dX10_use_5 : decode cX10_use 5 = .ok (.ifCond .eq 11, 3) := by decide +kernel
theorem dX10_use_8 : decode cX10_use 8 = .ok (.aload_n 0, 1) := by decide +kernel
theorem dX10_use_9 : decode cX10_use 9 = .ok (.iload_n 1, 1) := by decide +kernel
theorem dX10_use_10 : decode cX10_use 10 = .ok (.invokevirtual 261, 3) := by decide +kernel
theorem dX10_use_13 : decode cX10_use 13 = .ok (.goto 5, 3) := by decide +kernel
theorem dX10_use_16 : decode cX10_use 16 = .ok (.bipush (-5), 2) := by decide +kernel
theorem dX10_use_18 : decode cX10_use 18 = .ok (.ireturn, 1) := by decide +kernel
theorem dX10_feed_0 : decode cX10_feed 0 = .ok (.iload_n 3, 1) := by decide +kernel
theorem dX10_feed_1 : decode cX10_feed 1 = .ok (.iconst 1, 1) := by decide +kernel
theorem dX10_feed_2 : decode cX10_feed 2 = .ok (.bipush 8, 2) := by decide +kernel
theorem dX10_feed_4 : decode cX10_feed 4 = .ok (.invokestatic 162, 3) := by decide +kernel
theorem dX10_feed_7 : decode cX10_feed 7 = .ok (.ifCond .ne 6, 3) := by decide +kernel
theorem dX10_feed_10 : decode cX10_feed 10 = .ok (.bipush (-2), 2) := by decide +kernel
theorem dX10_feed_12 : decode cX10_feed 12 = .ok (.ireturn, 1) := by decide +kernel
theorem dX10_feed_13 : decode cX10_feed 13 = .ok (.aload_n 0, 1) := by decide +kernel
theorem dX10_feed_14 : decode cX10_feed 14 = .ok (.getfield 205, 3) := by decide +kernel
theorem dX10_feed_17 : decode cX10_feed 17 = .ok (.iload_n 3, 1) := by decide +kernel
theorem dX10_feed_18 : decode cX10_feed 18 = .ok (.iadd, 1) := by decide +kernel
theorem dX10_feed_19 : decode cX10_feed 19 = .ok (.sipush 160, 3) := by decide +kernel
theorem dX10_feed_22 : decode cX10_feed 22 = .ok (.if_icmp .le 6, 3) := by decide +kernel
theorem dX10_feed_25 : decode cX10_feed 25 = .ok (.bipush (-4), 2) := by decide +kernel
theorem dX10_feed_27 : decode cX10_feed 27 = .ok (.ireturn, 1) := by decide +kernel
theorem dX10_feed_28 : decode cX10_feed 28 = .ok (.iload_n 3, 1) := by decide +kernel
theorem dX10_feed_29 : decode cX10_feed 29 = .ok (.iconst 1, 1) := by decide +kernel
theorem dX10_feed_30 : decode cX10_feed 30 = .ok (.isub, 1) := by decide +kernel
theorem dX10_feed_31 : decode cX10_feed 31 = .ok (.istore 4, 2) := by decide +kernel
theorem dX10_feed_33 : decode cX10_feed 33 = .ok (.iload 4, 2) := by decide +kernel
theorem dX10_feed_35 : decode cX10_feed 35 = .ok (.ifCond .lt 40, 3) := by decide +kernel
theorem dX10_feed_38 : decode cX10_feed 38 = .ok (.aload_n 0, 1) := by decide +kernel
theorem dX10_feed_39 : decode cX10_feed 39 = .ok (.getfield 56, 3) := by decide +kernel
theorem dX10_feed_42 : decode cX10_feed 42 = .ok (.aload_n 0, 1) := by decide +kernel
theorem dX10_feed_43 : decode cX10_feed 43 = .ok (.getfield 205, 3) := by decide +kernel
theorem dX10_feed_46 : decode cX10_feed 46 = .ok (.lload_n 1, 1) := by decide +kernel
theorem dX10_feed_47 : decode cX10_feed 47 = .ok (.bipush 8, 2) := by decide +kernel
theorem dX10_feed_49 : decode cX10_feed 49 = .ok (.iload 4, 2) := by decide +kernel
theorem dX10_feed_51 : decode cX10_feed 51 = .ok (.imul, 1) := by decide +kernel
theorem dX10_feed_52 : decode cX10_feed 52 = .ok (.lshr, 1) := by decide +kernel
theorem dX10_feed_53 : decode cX10_feed 53 = .ok (.ldc2_w 264, 3) := by decide +kernel
theorem dX10_feed_56 : decode cX10_feed 56 = .ok (.land, 1) := by decide +kernel
theorem dX10_feed_57 : decode cX10_feed 57 = .ok (.l2i, 1) := by decide +kernel
theorem dX10_feed_58 : decode cX10_feed 58 = .ok (.iastore, 1) := by decide +kernel
theorem dX10_feed_59 : decode cX10_feed 59 = .ok (.aload_n 0, 1) := by decide +kernel
theorem dX10_feed_60 : decode cX10_feed 60 = .ok (.dup, 1) := by decide +kernel
theorem dX10_feed_61 : decode cX10_feed 61 = .ok (.getfield 205, 3) := by decide +kernel
theorem dX10_feed_64 : decode cX10_feed 64 = .ok (.iconst 1, 1) := by decide +kernel
theorem dX10_feed_65 : decode cX10_feed 65 = .ok (.iadd, 1) := by decide +kernel
theorem dX10_feed_66 : decode cX10_feed 66 = .ok (.putfield 205, 3) := by decide +kernel
theorem dX10_feed_69 : decode cX10_feed 69 = .ok (.iinc 4 (-1), 3) := by decide +kernel
theorem dX10_feed_72 : decode cX10_feed 72 = .ok (.goto (-39), 3) := by decide +kernel
theorem dX10_feed_75 : decode cX10_feed 75 = .ok (.aload_n 0, 1) := by decide +kernel
theorem dX10_feed_76 : decode cX10_feed 76 = .ok (.getfield 205, 3) := by decide +kernel
theorem dX10_feed_79 : decode cX10_feed 79 = .ok (.ireturn, 1) := by decide +kernel
theorem dX10_letters_0 : decode cX10_letters 0 = .ok (.lconst 0, 1) := by decide +kernel
theorem dX10_letters_1 : decode cX10_letters 1 = .ok (.lstore_n 1, 1) := by decide +kernel
theorem dX10_letters_2 : decode cX10_letters 2 = .ok (.iconst 0, 1) := by decide +kernel
theorem dX10_letters_3 : decode cX10_letters 3 = .ok (.istore_n 3, 1) := by decide +kernel
theorem dX10_letters_4 : decode cX10_letters 4 = .ok (.aload_n 0, 1) := by decide +kernel
theorem dX10_letters_5 : decode cX10_letters 5 = .ok (.getfield 266, 3) := by decide +kernel
theorem dX10_letters_8 : decode cX10_letters 8 = .ok (.aload_n 0, 1) := by decide +kernel
theorem dX10_letters_9 : decode cX10_letters 9 = .ok (.getfield 205, 3) := by decide +kernel
theorem dX10_letters_12 : decode cX10_letters 12 = .ok (.if_icmp .ge 64, 3) := by decide +kernel
theorem dX10_letters_15 : decode cX10_letters 15 = .ok (.aload_n 0, 1) := by decide +kernel
theorem dX10_letters_16 : decode cX10_letters 16 = .ok (.getfield 56, 3) := by decide +kernel
theorem dX10_letters_19 : decode cX10_letters 19 = .ok (.aload_n 0, 1) := by decide +kernel
theorem dX10_letters_20 : decode cX10_letters 20 = .ok (.getfield 266, 3) := by decide +kernel
theorem dX10_letters_23 : decode cX10_letters 23 = .ok (.iaload, 1) := by decide +kernel
theorem dX10_letters_24 : decode cX10_letters 24 = .ok (.bipush 97, 2) := by decide +kernel
theorem dX10_letters_26 : decode cX10_letters 26 = .ok (.bipush 122, 2) := by decide +kernel
theorem dX10_letters_28 : decode cX10_letters 28 = .ok (.invokestatic 162, 3) := by decide +kernel
theorem dX10_letters_31 : decode cX10_letters 31 = .ok (.ifCond .eq 45, 3) := by decide +kernel
theorem dX10_letters_34 : decode cX10_letters 34 = .ok (.iload_n 3, 1) := by decide +kernel
theorem dX10_letters_35 : decode cX10_letters 35 = .ok (.bipush 8, 2) := by decide +kernel
theorem dX10_letters_37 : decode cX10_letters 37 = .ok (.if_icmp .ge 21, 3) := by decide +kernel
theorem dX10_letters_40 : decode cX10_letters 40 = .ok (.lload_n 1, 1) := by decide +kernel
theorem dX10_letters_41 : decode cX10_letters 41 = .ok (.bipush 8, 2) := by decide +kernel
theorem dX10_letters_43 : decode cX10_letters 43 = .ok (.lshl, 1) := by decide +kernel
theorem dX10_letters_44 : decode cX10_letters 44 = .ok (.aload_n 0, 1) := by decide +kernel
theorem dX10_letters_45 : decode cX10_letters 45 = .ok (.getfield 56, 3) := by decide +kernel
theorem dX10_letters_48 : decode cX10_letters 48 = .ok (.aload_n 0, 1) := by decide +kernel
theorem dX10_letters_49 : decode cX10_letters 49 = .ok (.getfield 266, 3) := by decide +kernel
theorem dX10_letters_52 : decode cX10_letters 52 = .ok (.iaload, 1) := by decide +kernel
theorem dX10_letters_53 : decode cX10_letters 53 = .ok (.i2l, 1) := by decide +kernel
theorem dX10_letters_54 : decode cX10_letters 54 = .ok (.lor, 1) := by decide +kernel
theorem dX10_letters_55 : decode cX10_letters 55 = .ok (.goto 4, 3) := by decide +kernel
theorem dX10_letters_58 : decode cX10_letters 58 = .ok (.lload_n 1, 1) := by decide +kernel
theorem dX10_letters_59 : decode cX10_letters 59 = .ok (.lstore_n 1, 1) := by decide +kernel
theorem dX10_letters_60 : decode cX10_letters 60 = .ok (.iinc 3 1, 3) := by decide +kernel
theorem dX10_letters_63 : decode cX10_letters 63 = .ok (.aload_n 0, 1) := by decide +kernel
theorem dX10_letters_64 : decode cX10_letters 64 = .ok (.dup, 1) := by decide +kernel
theorem dX10_letters_65 : decode cX10_letters 65 = .ok (.getfield 266, 3) := by decide +kernel
theorem dX10_letters_68 : decode cX10_letters 68 = .ok (.iconst 1, 1) := by decide +kernel
theorem dX10_letters_69 : decode cX10_letters 69 = .ok (.iadd, 1) := by decide +kernel
theorem dX10_letters_70 : decode cX10_letters 70 = .ok (.putfield 266, 3) := by decide +kernel
theorem dX10_letters_73 : decode cX10_letters 73 = .ok (.goto (-69), 3) := by decide +kernel
theorem dX10_letters_76 : decode cX10_letters 76 = .ok (.iload_n 3, 1) := by decide +kernel
theorem dX10_letters_77 : decode cX10_letters 77 = .ok (.iconst 4, 1) := by decide +kernel
theorem dX10_letters_78 : decode cX10_letters 78 = .ok (.if_icmp .le 7, 3) := by decide +kernel
theorem dX10_letters_81 : decode cX10_letters 81 = .ok (.lconst 0, 1) := by decide +kernel
theorem dX10_letters_82 : decode cX10_letters 82 = .ok (.goto 4, 3) := by decide +kernel
theorem dX10_letters_85 : decode cX10_letters 85 = .ok (.lload_n 1, 1) := by decide +kernel
theorem dX10_letters_86 : decode cX10_letters 86 = .ok (.lreturn, 1) := by decide +kernel
theorem dX10_next_0 : decode cX10_next 0 = .ok (.aload_n 0, 1) := by decide +kernel
theorem dX10_next_1 : decode cX10_next 1 = .ok (.getfield 266, 3) := by decide +kernel
theorem dX10_next_4 : decode cX10_next 4 = .ok (.aload_n 0, 1) := by decide +kernel
theorem dX10_next_5 : decode cX10_next 5 = .ok (.getfield 205, 3) := by decide +kernel
theorem dX10_next_8 : decode cX10_next 8 = .ok (.if_icmp .ge 44, 3) := by decide +kernel
theorem dX10_next_11 : decode cX10_next 11 = .ok (.aload_n 0, 1) := by decide +kernel
theorem dX10_next_12 : decode cX10_next 12 = .ok (.getfield 56, 3) := by decide +kernel
theorem dX10_next_15 : decode cX10_next 15 = .ok (.aload_n 0, 1) := by decide +kernel
theorem dX10_next_16 : decode cX10_next 16 = .ok (.getfield 266, 3) := by decide +kernel
theorem dX10_next_19 : decode cX10_next 19 = .ok (.iaload, 1) := by decide +kernel
theorem dX10_next_20 : decode cX10_next 20 = .ok (.bipush 32, 2) := by decide +kernel
theorem dX10_next_22 : decode cX10_next 22 = .ok (.if_icmp .eq 17, 3) := by decide +kernel
theorem dX10_next_25 : decode cX10_next 25 = .ok (.aload_n 0, 1) := by decide +kernel
theorem dX10_next_26 : decode cX10_next 26 = .ok (.getfield 56, 3) := by decide +kernel
theorem dX10_next_29 : decode cX10_next 29 = .ok (.aload_n 0, 1) := by decide +kernel
theorem dX10_next_30 : decode cX10_next 30 = .ok (.getfield 266, 3) := by decide +kernel
theorem dX10_next_33 : decode cX10_next 33 = .ok (.iaload, 1) := by decide +kernel
theorem dX10_next_34 : decode cX10_next 34 = .ok (.bipush 10, 2) := by decide +kernel
theorem dX10_next_36 : decode cX10_next 36 = .ok (.if_icmp .ne 16, 3) := by decide +kernel
theorem dX10_next_39 : decode cX10_next 39 = .ok (.aload_n 0, 1) := by decide +kernel
theorem dX10_next_40 : decode cX10_next 40 = .ok (.dup, 1) := by decide +kernel
theorem dX10_next_41 : decode cX10_next 41 = .ok (.getfield 266, 3) := by decide +kernel
theorem dX10_next_44 : decode cX10_next 44 = .ok (.iconst 1, 1) := by decide +kernel
theorem dX10_next_45 : decode cX10_next 45 = .ok (.iadd, 1) := by decide +kernel
theorem dX10_next_46 : decode cX10_next 46 = .ok (.putfield 266, 3) := by decide +kernel
theorem dX10_next_49 : decode cX10_next 49 = .ok (.goto (-49), 3) := by decide +kernel
theorem dX10_next_52 : decode cX10_next 52 = .ok (.aload_n 0, 1) := by decide +kernel
theorem dX10_next_53 : decode cX10_next 53 = .ok (.aload_n 0, 1) := by decide +kernel
theorem dX10_next_54 : decode cX10_next 54 = .ok (.getfield 266, 3) := by decide +kernel
theorem dX10_next_57 : decode cX10_next 57 = .ok (.putfield 269, 3) := by decide +kernel
theorem dX10_next_60 : decode cX10_next 60 = .ok (.aload_n 0, 1) := by decide +kernel
theorem dX10_next_61 : decode cX10_next 61 = .ok (.iconst 0, 1) := by decide +kernel
theorem dX10_next_62 : decode cX10_next 62 = .ok (.putfield 272, 3) := by decide +kernel
theorem dX10_next_65 : decode cX10_next 65 = .ok (.aload_n 0, 1) := by decide +kernel
theorem dX10_next_66 : decode cX10_next 66 = .ok (.iconst 0, 1) := by decide +kernel
theorem dX10_next_67 : decode cX10_next 67 = .ok (.putfield 275, 3) := by decide +kernel
theorem dX10_next_70 : decode cX10_next 70 = .ok (.aload_n 0, 1) := by decide +kernel
theorem dX10_next_71 : decode cX10_next 71 = .ok (.getfield 266, 3) := by decide +kernel
theorem dX10_next_74 : decode cX10_next 74 = .ok (.aload_n 0, 1) := by decide +kernel
theorem dX10_next_75 : decode cX10_next 75 = .ok (.getfield 205, 3) := by decide +kernel
theorem dX10_next_78 : decode cX10_next 78 = .ok (.if_icmp .ne 4, 3) := by decide +kernel
theorem dX10_next_81 : decode cX10_next 81 = .ok (.return_, 1) := by decide +kernel
theorem dX10_next_82 : decode cX10_next 82 = .ok (.aload_n 0, 1) := by decide +kernel
theorem dX10_next_83 : decode cX10_next 83 = .ok (.getfield 56, 3) := by decide +kernel
theorem dX10_next_86 : decode cX10_next 86 = .ok (.aload_n 0, 1) := by decide +kernel
theorem dX10_next_87 : decode cX10_next 87 = .ok (.getfield 266, 3) := by decide +kernel
theorem dX10_next_90 : decode cX10_next 90 = .ok (.iaload, 1) := by decide +kernel
theorem dX10_next_91 : decode cX10_next 91 = .ok (.istore_n 1, 1) := by decide +kernel
theorem dX10_next_92 : decode cX10_next 92 = .ok (.iload_n 1, 1) := by decide +kernel
theorem dX10_next_93 : decode cX10_next 93 = .ok (.bipush 97, 2) := by decide +kernel
theorem dX10_next_95 : decode cX10_next 95 = .ok (.bipush 122, 2) := by decide +kernel
theorem dX10_next_97 : decode cX10_next 97 = .ok (.invokestatic 162, 3) := by decide +kernel
theorem dX10_next_100 : decode cX10_next 100 = .ok (.ifCond .eq 101, 3) := by decide +kernel
theorem dX10_next_103 : decode cX10_next 103 = .ok (.aload_n 0, 1) := by decide +kernel
theorem dX10_next_104 : decode cX10_next 104 = .ok (.invokevirtual 278, 3) := by decide +kernel
theorem dX10_next_107 : decode cX10_next 107 = .ok (.lstore_n 2, 1) := by decide +kernel
theorem dX10_next_108 : decode cX10_next 108 = .ok (.iconst 0, 1) := by decide +kernel
theorem dX10_next_109 : decode cX10_next 109 = .ok (.istore 4, 2) := by decide +kernel
theorem dX10_next_111 : decode cX10_next 111 = .ok (.iload 4, 2) := by decide +kernel
theorem dX10_next_113 : decode cX10_next 113 = .ok (.bipush 12, 2) := by decide +kernel
theorem dX10_next_115 : decode cX10_next 115 = .ok (.if_icmp .ge 21, 3) := by decide +kernel
theorem dX10_next_118 : decode cX10_next 118 = .ok (.aload_n 0, 1) := by decide +kernel
theorem dX10_next_119 : decode cX10_next 119 = .ok (.getfield 119, 3) := by decide +kernel
theorem dX10_next_122 : decode cX10_next 122 = .ok (.iload 4, 2) := by decide +kernel
theorem dX10_next_124 : decode cX10_next 124 = .ok (.laload, 1) := by decide +kernel
theorem dX10_next_125 : decode cX10_next 125 = .ok (.lload_n 2, 1) := by decide +kernel
theorem dX10_next_126 : decode cX10_next 126 = .ok (.lcmp, 1) := by decide +kernel
theorem dX10_next_127 : decode cX10_next 127 = .ok (.ifCond .eq 9, 3) := by decide +kernel
theorem dX10_next_130 : decode cX10_next 130 = .ok (.iinc 4 1, 3) := by decide +kernel
theorem dX10_next_133 : decode cX10_next 133 = .ok (.goto (-22), 3) := by decide +kernel
theorem dX10_next_136 : decode cX10_next 136 = .ok (.aload_n 0, 1) := by decide +kernel
theorem dX10_next_137 : decode cX10_next 137 = .ok (.iload 4, 2) := by decide +kernel
theorem dX10_next_139 : decode cX10_next 139 = .ok (.iconst 3, 1) := by decide +kernel
theorem dX10_next_140 : decode cX10_next 140 = .ok (.if_icmp .ge 7, 3) := by decide +kernel
theorem dX10_next_143 : decode cX10_next 143 = .ok (.iconst 3, 1) := by decide +kernel
theorem dX10_next_144 : decode cX10_next 144 = .ok (.goto 32, 3) := by decide +kernel
theorem dX10_next_147 : decode cX10_next 147 = .ok (.iload 4, 2) := by decide +kernel
theorem dX10_next_149 : decode cX10_next 149 = .ok (.bipush 9, 2) := by decide +kernel
theorem dX10_next_151 : decode cX10_next 151 = .ok (.if_icmp .ge 7, 3) := by decide +kernel
theorem dX10_next_154 : decode cX10_next 154 = .ok (.iconst 2, 1) := by decide +kernel
theorem dX10_next_155 : decode cX10_next 155 = .ok (.goto 21, 3) := by decide +kernel
theorem dX10_next_158 : decode cX10_next 158 = .ok (.iload 4, 2) := by decide +kernel
theorem dX10_next_160 : decode cX10_next 160 = .ok (.bipush 12, 2) := by decide +kernel
theorem dX10_next_162 : decode cX10_next 162 = .ok (.if_icmp .ne 7, 3) := by decide +kernel
theorem dX10_next_165 : decode cX10_next 165 = .ok (.iconst (-1), 1) := by decide +kernel
theorem dX10_next_166 : decode cX10_next 166 = .ok (.goto 10, 3) := by decide +kernel
theorem dX10_next_169 : decode cX10_next 169 = .ok (.iconst 4, 1) := by decide +kernel
theorem dX10_next_170 : decode cX10_next 170 = .ok (.iload 4, 2) := by decide +kernel
theorem dX10_next_172 : decode cX10_next 172 = .ok (.iadd, 1) := by decide +kernel
theorem dX10_next_173 : decode cX10_next 173 = .ok (.bipush 9, 2) := by decide +kernel
theorem dX10_next_175 : decode cX10_next 175 = .ok (.isub, 1) := by decide +kernel
theorem dX10_next_176 : decode cX10_next 176 = .ok (.putfield 272, 3) := by decide +kernel
theorem dX10_next_179 : decode cX10_next 179 = .ok (.aload_n 0, 1) := by decide +kernel
theorem dX10_next_180 : decode cX10_next 180 = .ok (.iload 4, 2) := by decide +kernel
theorem dX10_next_182 : decode cX10_next 182 = .ok (.iconst 3, 1) := by decide +kernel
theorem dX10_next_183 : decode cX10_next 183 = .ok (.if_icmp .ge 8, 3) := by decide +kernel
theorem dX10_next_186 : decode cX10_next 186 = .ok (.iload 4, 2) := by decide +kernel
theorem dX10_next_188 : decode cX10_next 188 = .ok (.goto 7, 3) := by decide +kernel
theorem dX10_next_191 : decode cX10_next 191 = .ok (.iload 4, 2) := by decide +kernel
theorem dX10_next_193 : decode cX10_next 193 = .ok (.iconst 3, 1) := by decide +kernel
theorem dX10_next_194 : decode cX10_next 194 = .ok (.isub, 1) := by decide +kernel
theorem dX10_next_195 : decode cX10_next 195 = .ok (.putfield 275, 3) := by decide +kernel
theorem dX10_next_198 : decode cX10_next 198 = .ok (.goto 189, 3) := by decide +kernel
theorem dX10_next_201 : decode cX10_next 201 = .ok (.iload_n 1, 1) := by decide +kernel
theorem dX10_next_202 : decode cX10_next 202 = .ok (.bipush 48, 2) := by decide +kernel
theorem dX10_next_204 : decode cX10_next 204 = .ok (.bipush 57, 2) := by decide +kernel
theorem dX10_next_206 : decode cX10_next 206 = .ok (.invokestatic 162, 3) := by decide +kernel
theorem dX10_next_209 : decode cX10_next 209 = .ok (.ifCond .eq 101, 3) := by decide +kernel
theorem dX10_next_212 : decode cX10_next 212 = .ok (.iconst 0, 1) := by decide +kernel
theorem dX10_next_213 : decode cX10_next 213 = .ok (.istore_n 2, 1) := by decide +kernel
theorem dX10_next_214 : decode cX10_next 214 = .ok (.aload_n 0, 1) := by decide +kernel
theorem dX10_next_215 : decode cX10_next 215 = .ok (.getfield 266, 3) := by decide +kernel
theorem dX10_next_218 : decode cX10_next 218 = .ok (.aload_n 0, 1) := by decide +kernel
theorem dX10_next_219 : decode cX10_next 219 = .ok (.getfield 205, 3) := by decide +kernel
theorem dX10_next_222 : decode cX10_next 222 = .ok (.if_icmp .ge 71, 3) := by decide +kernel
theorem dX10_next_225 : decode cX10_next 225 = .ok (.aload_n 0, 1) := by decide +kernel
theorem dX10_next_226 : decode cX10_next 226 = .ok (.getfield 56, 3) := by decide +kernel
theorem dX10_next_229 : decode cX10_next 229 = .ok (.aload_n 0, 1) := by decide +kernel
theorem dX10_next_230 : decode cX10_next 230 = .ok (.getfield 266, 3) := by decide +kernel
theorem dX10_next_233 : decode cX10_next 233 = .ok (.iaload, 1) := by decide +kernel
theorem dX10_next_234 : decode cX10_next 234 = .ok (.bipush 48, 2) := by decide +kernel
theorem dX10_next_236 : decode cX10_next 236 = .ok (.bipush 57, 2) := by decide +kernel
theorem dX10_next_238 : decode cX10_next 238 = .ok (.invokestatic 162, 3) := by decide +kernel
theorem dX10_next_241 : decode cX10_next 241 = .ok (.ifCond .eq 52, 3) := by decide +kernel
theorem dX10_next_244 : decode cX10_next 244 = .ok (.aload_n 0, 1) := by decide +kernel
theorem dX10_next_245 : decode cX10_next 245 = .ok (.iload_n 2, 1) := by decide +kernel
theorem dX10_next_246 : decode cX10_next 246 = .ok (.iconst 4, 1) := by decide +kernel
theorem dX10_next_247 : decode cX10_next 247 = .ok (.if_icmp .ge 26, 3) := by decide +kernel
theorem dX10_next_250 : decode cX10_next 250 = .ok (.bipush 10, 2) := by decide +kernel
theorem dX10_next_252 : decode cX10_next 252 = .ok (.aload_n 0, 1) := by decide +kernel
theorem dX10_next_253 : decode cX10_next 253 = .ok (.getfield 275, 3) := by decide +kernel
theorem dX10_next_256 : decode cX10_next 256 = .ok (.imul, 1) := by decide +kernel
theorem dX10_next_257 : decode cX10_next 257 = .ok (.aload_n 0, 1) := by decide +kernel
theorem dX10_next_258 : decode cX10_next 258 = .ok (.getfield 56, 3) := by decide +kernel
theorem dX10_next_261 : decode cX10_next 261 = .ok (.aload_n 0, 1) := by decide +kernel
theorem dX10_next_262 : decode cX10_next 262 = .ok (.getfield 266, 3) := by decide +kernel
theorem dX10_next_265 : decode cX10_next 265 = .ok (.iaload, 1) := by decide +kernel
theorem dX10_next_266 : decode cX10_next 266 = .ok (.iadd, 1) := by decide +kernel
theorem dX10_next_267 : decode cX10_next 267 = .ok (.bipush 48, 2) := by decide +kernel
theorem dX10_next_269 : decode cX10_next 269 = .ok (.isub, 1) := by decide +kernel
theorem dX10_next_270 : decode cX10_next 270 = .ok (.goto 4, 3) := by decide +kernel
theorem dX10_next_273 : decode cX10_next 273 = .ok (.iconst 0, 1) := by decide +kernel
theorem dX10_next_274 : decode cX10_next 274 = .ok (.putfield 275, 3) := by decide +kernel
theorem dX10_next_277 : decode cX10_next 277 = .ok (.iinc 2 1, 3) := by decide +kernel
theorem dX10_next_280 : decode cX10_next 280 = .ok (.aload_n 0, 1) := by decide +kernel
theorem dX10_next_281 : decode cX10_next 281 = .ok (.dup, 1) := by decide +kernel
theorem dX10_next_282 : decode cX10_next 282 = .ok (.getfield 266, 3) := by decide +kernel
theorem dX10_next_285 : decode cX10_next 285 = .ok (.iconst 1, 1) := by decide +kernel
theorem dX10_next_286 : decode cX10_next 286 = .ok (.iadd, 1) := by decide +kernel
theorem dX10_next_287 : decode cX10_next 287 = .ok (.putfield 266, 3) := by decide +kernel
theorem dX10_next_290 : decode cX10_next 290 = .ok (.goto (-76), 3) := by decide +kernel
theorem dX10_next_293 : decode cX10_next 293 = .ok (.aload_n 0, 1) := by decide +kernel
theorem dX10_next_294 : decode cX10_next 294 = .ok (.iload_n 2, 1) := by decide +kernel
theorem dX10_next_295 : decode cX10_next 295 = .ok (.iconst 4, 1) := by decide +kernel
theorem dX10_next_296 : decode cX10_next 296 = .ok (.if_icmp .le 7, 3) := by decide +kernel
theorem dX10_next_299 : decode cX10_next 299 = .ok (.iconst (-1), 1) := by decide +kernel
theorem dX10_next_300 : decode cX10_next 300 = .ok (.goto 4, 3) := by decide +kernel
theorem dX10_next_303 : decode cX10_next 303 = .ok (.iconst 1, 1) := by decide +kernel
theorem dX10_next_304 : decode cX10_next 304 = .ok (.putfield 272, 3) := by decide +kernel
theorem dX10_next_307 : decode cX10_next 307 = .ok (.goto 80, 3) := by decide +kernel
theorem dX10_next_310 : decode cX10_next 310 = .ok (.iload_n 1, 1) := by decide +kernel
theorem dX10_next_311 : decode cX10_next 311 = .ok (.bipush 40, 2) := by decide +kernel
theorem dX10_next_313 : decode cX10_next 313 = .ok (.if_icmp .eq 45, 3) := by decide +kernel
theorem dX10_next_316 : decode cX10_next 316 = .ok (.iload_n 1, 1) := by decide +kernel
theorem dX10_next_317 : decode cX10_next 317 = .ok (.bipush 41, 2) := by decide +kernel
theorem dX10_next_319 : decode cX10_next 319 = .ok (.if_icmp .eq 39, 3) := by decide +kernel
theorem dX10_next_322 : decode cX10_next 322 = .ok (.iload_n 1, 1) := by decide +kernel
theorem dX10_next_323 : decode cX10_next 323 = .ok (.bipush 59, 2) := by decide +kernel
theorem dX10_next_325 : decode cX10_next 325 = .ok (.if_icmp .eq 33, 3) := by decide +kernel
theorem dX10_next_328 : decode cX10_next 328 = .ok (.iload_n 1, 1) := by decide +kernel
theorem dX10_next_329 : decode cX10_next 329 = .ok (.bipush 43, 2) := by decide +kernel
theorem dX10_next_331 : decode cX10_next 331 = .ok (.if_icmp .eq 27, 3) := by decide +kernel
theorem dX10_next_334 : decode cX10_next 334 = .ok (.iload_n 1, 1) := by decide +kernel
theorem dX10_next_335 : decode cX10_next 335 = .ok (.bipush 45, 2) := by decide +kernel
theorem dX10_next_337 : decode cX10_next 337 = .ok (.if_icmp .eq 21, 3) := by decide +kernel
theorem dX10_next_340 : decode cX10_next 340 = .ok (.iload_n 1, 1) := by decide +kernel
theorem dX10_next_341 : decode cX10_next 341 = .ok (.bipush 42, 2) := by decide +kernel
theorem dX10_next_343 : decode cX10_next 343 = .ok (.if_icmp .eq 15, 3) := by decide +kernel
theorem dX10_next_346 : decode cX10_next 346 = .ok (.iload_n 1, 1) := by decide +kernel
theorem dX10_next_347 : decode cX10_next 347 = .ok (.bipush 60, 2) := by decide +kernel
theorem dX10_next_349 : decode cX10_next 349 = .ok (.if_icmp .eq 9, 3) := by decide +kernel
theorem dX10_next_352 : decode cX10_next 352 = .ok (.iload_n 1, 1) := by decide +kernel
theorem dX10_next_353 : decode cX10_next 353 = .ok (.bipush 61, 2) := by decide +kernel
theorem dX10_next_355 : decode cX10_next 355 = .ok (.if_icmp .ne 7, 3) := by decide +kernel
theorem dX10_next_358 : decode cX10_next 358 = .ok (.iconst 1, 1) := by decide +kernel
theorem dX10_next_359 : decode cX10_next 359 = .ok (.goto 4, 3) := by decide +kernel
theorem dX10_next_362 : decode cX10_next 362 = .ok (.iconst 0, 1) := by decide +kernel
theorem dX10_next_363 : decode cX10_next 363 = .ok (.istore_n 2, 1) := by decide +kernel
theorem dX10_next_364 : decode cX10_next 364 = .ok (.aload_n 0, 1) := by decide +kernel
theorem dX10_next_365 : decode cX10_next 365 = .ok (.iload_n 2, 1) := by decide +kernel
theorem dX10_next_366 : decode cX10_next 366 = .ok (.ifCond .eq 7, 3) := by decide +kernel
theorem dX10_next_369 : decode cX10_next 369 = .ok (.iload_n 1, 1) := by decide +kernel
theorem dX10_next_370 : decode cX10_next 370 = .ok (.goto 4, 3) := by decide +kernel
theorem dX10_next_373 : decode cX10_next 373 = .ok (.iconst (-1), 1) := by decide +kernel
theorem dX10_next_374 : decode cX10_next 374 = .ok (.putfield 272, 3) := by decide +kernel
theorem dX10_next_377 : decode cX10_next 377 = .ok (.aload_n 0, 1) := by decide +kernel
theorem dX10_next_378 : decode cX10_next 378 = .ok (.dup, 1) := by decide +kernel
theorem dX10_next_379 : decode cX10_next 379 = .ok (.getfield 266, 3) := by decide +kernel
theorem dX10_next_382 : decode cX10_next 382 = .ok (.iconst 1, 1) := by decide +kernel
theorem dX10_next_383 : decode cX10_next 383 = .ok (.iadd, 1) := by decide +kernel
theorem dX10_next_384 : decode cX10_next 384 = .ok (.putfield 266, 3) := by decide +kernel
theorem dX10_next_387 : decode cX10_next 387 = .ok (.return_, 1) := by decide +kernel
theorem dX10_rank_0 : decode cX10_rank 0 = .ok (.iload_n 0, 1) := by decide +kernel
theorem dX10_rank_1 : decode cX10_rank 1 = .ok (.ifCond .ne 7, 3) := by decide +kernel
theorem dX10_rank_4 : decode cX10_rank 4 = .ok (.iconst 0, 1) := by decide +kernel
theorem dX10_rank_5 : decode cX10_rank 5 = .ok (.goto 66, 3) := by decide +kernel
theorem dX10_rank_8 : decode cX10_rank 8 = .ok (.iload_n 0, 1) := by decide +kernel
theorem dX10_rank_9 : decode cX10_rank 9 = .ok (.bipush 11, 2) := by decide +kernel
theorem dX10_rank_11 : decode cX10_rank 11 = .ok (.if_icmp .ne 7, 3) := by decide +kernel
theorem dX10_rank_14 : decode cX10_rank 14 = .ok (.iconst 1, 1) := by decide +kernel
theorem dX10_rank_15 : decode cX10_rank 15 = .ok (.goto 56, 3) := by decide +kernel
theorem dX10_rank_18 : decode cX10_rank 18 = .ok (.iload_n 0, 1) := by decide +kernel
theorem dX10_rank_19 : decode cX10_rank 19 = .ok (.bipush 12, 2) := by decide +kernel
theorem dX10_rank_21 : decode cX10_rank 21 = .ok (.if_icmp .ne 7, 3) := by decide +kernel
theorem dX10_rank_24 : decode cX10_rank 24 = .ok (.iconst 2, 1) := by decide +kernel
theorem dX10_rank_25 : decode cX10_rank 25 = .ok (.goto 46, 3) := by decide +kernel
theorem dX10_rank_28 : decode cX10_rank 28 = .ok (.iload_n 0, 1) := by decide +kernel
theorem dX10_rank_29 : decode cX10_rank 29 = .ok (.bipush 13, 2) := by decide +kernel
theorem dX10_rank_31 : decode cX10_rank 31 = .ok (.if_icmp .ne 7, 3) := by decide +kernel
theorem dX10_rank_34 : decode cX10_rank 34 = .ok (.iconst 3, 1) := by decide +kernel
theorem dX10_rank_35 : decode cX10_rank 35 = .ok (.goto 36, 3) := by decide +kernel
theorem dX10_rank_38 : decode cX10_rank 38 = .ok (.iload_n 0, 1) := by decide +kernel
theorem dX10_rank_39 : decode cX10_rank 39 = .ok (.bipush 15, 2) := by decide +kernel
theorem dX10_rank_41 : decode cX10_rank 41 = .ok (.if_icmp .gt 7, 3) := by decide +kernel
theorem dX10_rank_44 : decode cX10_rank 44 = .ok (.iconst 4, 1) := by decide +kernel
theorem dX10_rank_45 : decode cX10_rank 45 = .ok (.goto 26, 3) := by decide +kernel
theorem dX10_rank_48 : decode cX10_rank 48 = .ok (.iload_n 0, 1) := by decide +kernel
theorem dX10_rank_49 : decode cX10_rank 49 = .ok (.bipush 17, 2) := by decide +kernel
theorem dX10_rank_51 : decode cX10_rank 51 = .ok (.if_icmp .gt 7, 3) := by decide +kernel
theorem dX10_rank_54 : decode cX10_rank 54 = .ok (.iconst 5, 1) := by decide +kernel
theorem dX10_rank_55 : decode cX10_rank 55 = .ok (.goto 16, 3) := by decide +kernel
theorem dX10_rank_58 : decode cX10_rank 58 = .ok (.iload_n 0, 1) := by decide +kernel
theorem dX10_rank_59 : decode cX10_rank 59 = .ok (.bipush 18, 2) := by decide +kernel
theorem dX10_rank_61 : decode cX10_rank 61 = .ok (.if_icmp .ne 8, 3) := by decide +kernel
theorem dX10_rank_64 : decode cX10_rank 64 = .ok (.bipush 6, 2) := by decide +kernel
theorem dX10_rank_66 : decode cX10_rank 66 = .ok (.goto 5, 3) := by decide +kernel
theorem dX10_rank_69 : decode cX10_rank 69 = .ok (.bipush 7, 2) := by decide +kernel
theorem dX10_rank_71 : decode cX10_rank 71 = .ok (.ireturn, 1) := by decide +kernel
theorem dX10_puts_0 : decode cX10_puts 0 = .ok (.aload_n 0, 1) := by decide +kernel
theorem dX10_puts_1 : decode cX10_puts 1 = .ok (.getfield 59, 3) := by decide +kernel
theorem dX10_puts_4 : decode cX10_puts 4 = .ok (.sipush 200, 3) := by decide +kernel
theorem dX10_puts_7 : decode cX10_puts 7 = .ok (.aload_n 0, 1) := by decide +kernel
theorem dX10_puts_8 : decode cX10_puts 8 = .ok (.getfield 65, 3) := by decide +kernel
theorem dX10_puts_11 : decode cX10_puts 11 = .ok (.imul, 1) := by decide +kernel
theorem dX10_puts_12 : decode cX10_puts 12 = .ok (.aload_n 0, 1) := by decide +kernel
theorem dX10_puts_13 : decode cX10_puts 13 = .ok (.getfield 281, 3) := by decide +kernel
theorem dX10_puts_16 : decode cX10_puts 16 = .ok (.iadd, 1) := by decide +kernel
theorem dX10_puts_17 : decode cX10_puts 17 = .ok (.iload_n 1, 1) := by decide +kernel
theorem dX10_puts_18 : decode cX10_puts 18 = .ok (.iastore, 1) := by decide +kernel
theorem dX10_puts_19 : decode cX10_puts 19 = .ok (.aload_n 0, 1) := by decide +kernel
theorem dX10_puts_20 : decode cX10_puts 20 = .ok (.dup, 1) := by decide +kernel
theorem dX10_puts_21 : decode cX10_puts 21 = .ok (.getfield 281, 3) := by decide +kernel
theorem dX10_puts_24 : decode cX10_puts 24 = .ok (.iconst 1, 1) := by decide +kernel
theorem dX10_puts_25 : decode cX10_puts 25 = .ok (.iadd, 1) := by decide +kernel
theorem dX10_puts_26 : decode cX10_puts 26 = .ok (.putfield 281, 3) := by decide +kernel
theorem dX10_puts_29 : decode cX10_puts 29 = .ok (.return_, 1) := by decide +kernel
theorem dX10_unwinds_0 : decode cX10_unwinds 0 = .ok (.aload_n 0, 1) := by decide +kernel
theorem dX10_unwinds_1 : decode cX10_unwinds 1 = .ok (.getfield 284, 3) := by decide +kernel
theorem dX10_unwinds_4 : decode cX10_unwinds 4 = .ok (.ifCond .le 75, 3) := by decide +kernel
theorem dX10_unwinds_7 : decode cX10_unwinds 7 = .ok (.aload_n 0, 1) := by decide +kernel
theorem dX10_unwinds_8 : decode cX10_unwinds 8 = .ok (.getfield 123, 3) := by decide +kernel
theorem dX10_unwinds_11 : decode cX10_unwinds 11 = .ok (.aload_n 0, 1) := by decide +kernel
theorem dX10_unwinds_12 : decode cX10_unwinds 12 = .ok (.getfield 284, 3) := by decide +kernel
theorem dX10_unwinds_15 : decode cX10_unwinds 15 = .ok (.iconst 1, 1) := by decide +kernel
theorem dX10_unwinds_16 : decode cX10_unwinds 16 = .ok (.isub, 1) := by decide +kernel
theorem dX10_unwinds_17 : decode cX10_unwinds 17 = .ok (.iaload, 1) := by decide +kernel
theorem dX10_unwinds_18 : decode cX10_unwinds 18 = .ok (.invokestatic 287, 3) := by decide +kernel
theorem dX10_unwinds_21 : decode cX10_unwinds 21 = .ok (.iload_n 1, 1) := by decide +kernel
theorem dX10_unwinds_22 : decode cX10_unwinds 22 = .ok (.if_icmp .lt 57, 3) := by decide +kernel
theorem dX10_unwinds_25 : decode cX10_unwinds 25 = .ok (.aload_n 0, 1) := by decide +kernel
theorem dX10_unwinds_26 : decode cX10_unwinds 26 = .ok (.dup, 1) := by decide +kernel
theorem dX10_unwinds_27 : decode cX10_unwinds 27 = .ok (.getfield 284, 3) := by decide +kernel
theorem dX10_unwinds_30 : decode cX10_unwinds 30 = .ok (.iconst 1, 1) := by decide +kernel
theorem dX10_unwinds_31 : decode cX10_unwinds 31 = .ok (.isub, 1) := by decide +kernel
theorem dX10_unwinds_32 : decode cX10_unwinds 32 = .ok (.putfield 284, 3) := by decide +kernel
theorem dX10_unwinds_35 : decode cX10_unwinds 35 = .ok (.aload_n 0, 1) := by decide +kernel
theorem dX10_unwinds_36 : decode cX10_unwinds 36 = .ok (.getfield 123, 3) := by decide +kernel
theorem dX10_unwinds_39 : decode cX10_unwinds 39 = .ok (.aload_n 0, 1) := by decide +kernel
theorem dX10_unwinds_40 : decode cX10_unwinds 40 = .ok (.getfield 284, 3) := by decide +kernel
theorem dX10_unwinds_43 : decode cX10_unwinds 43 = .ok (.iaload, 1) := by decide +kernel
theorem dX10_unwinds_44 : decode cX10_unwinds 44 = .ok (.istore_n 2, 1) := by decide +kernel
theorem dX10_unwinds_45 : decode cX10_unwinds 45 = .ok (.aload_n 0, 1) := by decide +kernel
theorem dX10_unwinds_46 : decode cX10_unwinds 46 = .ok (.dup, 1) := by decide +kernel
theorem dX10_unwinds_47 : decode cX10_unwinds 47 = .ok (.getfield 290, 3) := by decide +kernel
theorem dX10_unwinds_50 : decode cX10_unwinds 50 = .ok (.iload_n 2, 1) := by decide +kernel
theorem dX10_unwinds_51 : decode cX10_unwinds 51 = .ok (.bipush 13, 2) := by decide +kernel
theorem dX10_unwinds_53 : decode cX10_unwinds 53 = .ok (.if_icmp .eq 9, 3) := by decide +kernel
theorem dX10_unwinds_56 : decode cX10_unwinds 56 = .ok (.iload_n 2, 1) := by decide +kernel
theorem dX10_unwinds_57 : decode cX10_unwinds 57 = .ok (.bipush 19, 2) := by decide +kernel
theorem dX10_unwinds_59 : decode cX10_unwinds 59 = .ok (.if_icmp .ne 7, 3) := by decide +kernel
theorem dX10_unwinds_62 : decode cX10_unwinds 62 = .ok (.iconst 1, 1) := by decide +kernel
theorem dX10_unwinds_63 : decode cX10_unwinds 63 = .ok (.goto 4, 3) := by decide +kernel
theorem dX10_unwinds_66 : decode cX10_unwinds 66 = .ok (.iconst 0, 1) := by decide +kernel
theorem dX10_unwinds_67 : decode cX10_unwinds 67 = .ok (.isub, 1) := by decide +kernel
theorem dX10_unwinds_68 : decode cX10_unwinds 68 = .ok (.putfield 290, 3) := by decide +kernel
theorem dX10_unwinds_71 : decode cX10_unwinds 71 = .ok (.aload_n 0, 1) := by decide +kernel
theorem dX10_unwinds_72 : decode cX10_unwinds 72 = .ok (.iload_n 2, 1) := by decide +kernel
theorem dX10_unwinds_73 : decode cX10_unwinds 73 = .ok (.invokevirtual 293, 3) := by decide +kernel
theorem dX10_unwinds_76 : decode cX10_unwinds 76 = .ok (.goto (-76), 3) := by decide +kernel
theorem dX10_unwinds_79 : decode cX10_unwinds 79 = .ok (.return_, 1) := by decide +kernel
theorem dX10_holds_0 : decode cX10_holds 0 = .ok (.aload_n 0, 1) := by decide +kernel
theorem dX10_holds_1 : decode cX10_holds 1 = .ok (.getfield 123, 3) := by decide +kernel
theorem dX10_holds_4 : decode cX10_holds 4 = .ok (.aload_n 0, 1) := by decide +kernel
theorem dX10_holds_5 : decode cX10_holds 5 = .ok (.getfield 284, 3) := by decide +kernel
theorem dX10_holds_8 : decode cX10_holds 8 = .ok (.iload_n 1, 1) := by decide +kernel
theorem dX10_holds_9 : decode cX10_holds 9 = .ok (.iastore, 1) := by decide +kernel
theorem dX10_holds_10 : decode cX10_holds 10 = .ok (.aload_n 0, 1) := by decide +kernel
theorem dX10_holds_11 : decode cX10_holds 11 = .ok (.dup, 1) := by decide +kernel
theorem dX10_holds_12 : decode cX10_holds 12 = .ok (.getfield 284, 3) := by decide +kernel
theorem dX10_holds_15 : decode cX10_holds 15 = .ok (.iconst 1, 1) := by decide +kernel
theorem dX10_holds_16 : decode cX10_holds 16 = .ok (.iadd, 1) := by decide +kernel
theorem dX10_holds_17 : decode cX10_holds 17 = .ok (.putfield 284, 3) := by decide +kernel
theorem dX10_holds_20 : decode cX10_holds 20 = .ok (.return_, 1) := by decide +kernel
theorem dX10_opensOne_0 : decode cX10_opensOne 0 = .ok (.aload_n 0, 1) := by decide +kernel
theorem dX10_opensOne_1 : decode cX10_opensOne 1 = .ok (.getfield 290, 3) := by decide +kernel
theorem dX10_opensOne_4 : decode cX10_opensOne 4 = .ok (.iconst 5, 1) := by decide +kernel
theorem dX10_opensOne_5 : decode cX10_opensOne 5 = .ok (.if_icmp .ne 5, 3) := by decide +kernel
theorem dX10_opensOne_8 : decode cX10_opensOne 8 = .ok (.iconst 0, 1) := by decide +kernel
theorem dX10_opensOne_9 : decode cX10_opensOne 9 = .ok (.ireturn, 1) := by decide +kernel
theorem dX10_opensOne_10 : decode cX10_opensOne 10 = .ok (.aload_n 0, 1) := by decide +kernel
theorem dX10_opensOne_11 : decode cX10_opensOne 11 = .ok (.dup, 1) := by decide +kernel
theorem dX10_opensOne_12 : decode cX10_opensOne 12 = .ok (.getfield 290, 3) := by decide +kernel
theorem dX10_opensOne_15 : decode cX10_opensOne 15 = .ok (.iconst 1, 1) := by decide +kernel
theorem dX10_opensOne_16 : decode cX10_opensOne 16 = .ok (.iadd, 1) := by decide +kernel
theorem dX10_opensOne_17 : decode cX10_opensOne 17 = .ok (.putfield 290, 3) := by decide +kernel
theorem dX10_opensOne_20 : decode cX10_opensOne 20 = .ok (.aload_n 0, 1) := by decide +kernel
theorem dX10_opensOne_21 : decode cX10_opensOne 21 = .ok (.iload_n 1, 1) := by decide +kernel
theorem dX10_opensOne_22 : decode cX10_opensOne 22 = .ok (.invokevirtual 296, 3) := by decide +kernel
theorem dX10_opensOne_25 : decode cX10_opensOne 25 = .ok (.iconst 1, 1) := by decide +kernel
theorem dX10_opensOne_26 : decode cX10_opensOne 26 = .ok (.ireturn, 1) := by decide +kernel
theorem dX10_between_0 : decode cX10_between 0 = .ok (.aload_n 0, 1) := by decide +kernel
theorem dX10_between_1 : decode cX10_between 1 = .ok (.iload_n 1, 1) := by decide +kernel
theorem dX10_between_2 : decode cX10_between 2 = .ok (.invokestatic 287, 3) := by decide +kernel
theorem dX10_between_5 : decode cX10_between 5 = .ok (.iconst 4, 1) := by decide +kernel
theorem dX10_between_6 : decode cX10_between 6 = .ok (.if_icmp .ne 7, 3) := by decide +kernel
theorem dX10_between_9 : decode cX10_between 9 = .ok (.iconst 5, 1) := by decide +kernel
theorem dX10_between_10 : decode cX10_between 10 = .ok (.goto 7, 3) := by decide +kernel
theorem dX10_between_13 : decode cX10_between 13 = .ok (.iload_n 1, 1) := by decide +kernel
theorem dX10_between_14 : decode cX10_between 14 = .ok (.invokestatic 287, 3) := by decide +kernel
theorem dX10_between_17 : decode cX10_between 17 = .ok (.invokevirtual 299, 3) := by decide +kernel
theorem dX10_between_20 : decode cX10_between 20 = .ok (.iload_n 1, 1) := by decide +kernel
theorem dX10_between_21 : decode cX10_between 21 = .ok (.invokestatic 287, 3) := by decide +kernel
theorem dX10_between_24 : decode cX10_between 24 = .ok (.iconst 4, 1) := by decide +kernel
theorem dX10_between_25 : decode cX10_between 25 = .ok (.if_icmp .ne 30, 3) := by decide +kernel
theorem dX10_between_28 : decode cX10_between 28 = .ok (.aload_n 0, 1) := by decide +kernel
theorem dX10_between_29 : decode cX10_between 29 = .ok (.getfield 284, 3) := by decide +kernel
theorem dX10_between_32 : decode cX10_between 32 = .ok (.ifCond .le 23, 3) := by decide +kernel
theorem dX10_between_35 : decode cX10_between 35 = .ok (.aload_n 0, 1) := by decide +kernel
theorem dX10_between_36 : decode cX10_between 36 = .ok (.getfield 123, 3) := by decide +kernel
theorem dX10_between_39 : decode cX10_between 39 = .ok (.aload_n 0, 1) := by decide +kernel
theorem dX10_between_40 : decode cX10_between 40 = .ok (.getfield 284, 3) := by decide +kernel
theorem dX10_between_43 : decode cX10_between 43 = .ok (.iconst 1, 1) := by decide +kernel
theorem dX10_between_44 : decode cX10_between 44 = .ok (.isub, 1) := by decide +kernel
theorem dX10_between_45 : decode cX10_between 45 = .ok (.iaload, 1) := by decide +kernel
theorem dX10_between_46 : decode cX10_between 46 = .ok (.invokestatic 287, 3) := by decide +kernel
theorem dX10_between_49 : decode cX10_between 49 = .ok (.iconst 4, 1) := by decide +kernel
theorem dX10_between_50 : decode cX10_between 50 = .ok (.if_icmp .ne 5, 3) := by decide +kernel
theorem dX10_between_53 : decode cX10_between 53 = .ok (.iconst 0, 1) := by decide +kernel
theorem dX10_between_54 : decode cX10_between 54 = .ok (.ireturn, 1) := by decide +kernel
theorem dX10_between_55 : decode cX10_between 55 = .ok (.aload_n 0, 1) := by decide +kernel
theorem dX10_between_56 : decode cX10_between 56 = .ok (.iload_n 1, 1) := by decide +kernel
theorem dX10_between_57 : decode cX10_between 57 = .ok (.invokevirtual 296, 3) := by decide +kernel
theorem dX10_between_60 : decode cX10_between 60 = .ok (.iconst 1, 1) := by decide +kernel
theorem dX10_between_61 : decode cX10_between 61 = .ok (.ireturn, 1) := by decide +kernel
theorem dX10_signOf_0 : decode cX10_signOf 0 = .ok (.aload_n 0, 1) := by decide +kernel
theorem dX10_signOf_1 : decode cX10_signOf 1 = .ok (.getfield 272, 3) := by decide +kernel
theorem dX10_signOf_4 : decode cX10_signOf 4 = .ok (.iconst 4, 1) := by decide +kernel
theorem dX10_signOf_5 : decode cX10_signOf 5 = .ok (.if_icmp .ne 8, 3) := by decide +kernel
theorem dX10_signOf_8 : decode cX10_signOf 8 = .ok (.bipush 11, 2) := by decide +kernel
theorem dX10_signOf_10 : decode cX10_signOf 10 = .ok (.goto 87, 3) := by decide +kernel
theorem dX10_signOf_13 : decode cX10_signOf 13 = .ok (.aload_n 0, 1) := by decide +kernel
theorem dX10_signOf_14 : decode cX10_signOf 14 = .ok (.getfield 272, 3) := by decide +kernel
theorem dX10_signOf_17 : decode cX10_signOf 17 = .ok (.iconst 5, 1) := by decide +kernel
theorem dX10_signOf_18 : decode cX10_signOf 18 = .ok (.if_icmp .ne 8, 3) := by decide +kernel
theorem dX10_signOf_21 : decode cX10_signOf 21 = .ok (.bipush 12, 2) := by decide +kernel
theorem dX10_signOf_23 : decode cX10_signOf 23 = .ok (.goto 74, 3) := by decide +kernel
theorem dX10_signOf_26 : decode cX10_signOf 26 = .ok (.aload_n 0, 1) := by decide +kernel
theorem dX10_signOf_27 : decode cX10_signOf 27 = .ok (.getfield 272, 3) := by decide +kernel
theorem dX10_signOf_30 : decode cX10_signOf 30 = .ok (.bipush 60, 2) := by decide +kernel
theorem dX10_signOf_32 : decode cX10_signOf 32 = .ok (.if_icmp .ne 8, 3) := by decide +kernel
theorem dX10_signOf_35 : decode cX10_signOf 35 = .ok (.bipush 14, 2) := by decide +kernel
theorem dX10_signOf_37 : decode cX10_signOf 37 = .ok (.goto 60, 3) := by decide +kernel
theorem dX10_signOf_40 : decode cX10_signOf 40 = .ok (.aload_n 0, 1) := by decide +kernel
theorem dX10_signOf_41 : decode cX10_signOf 41 = .ok (.getfield 272, 3) := by decide +kernel
theorem dX10_signOf_44 : decode cX10_signOf 44 = .ok (.bipush 61, 2) := by decide +kernel
theorem dX10_signOf_46 : decode cX10_signOf 46 = .ok (.if_icmp .ne 8, 3) := by decide +kernel
theorem dX10_signOf_49 : decode cX10_signOf 49 = .ok (.bipush 15, 2) := by decide +kernel
theorem dX10_signOf_51 : decode cX10_signOf 51 = .ok (.goto 46, 3) := by decide +kernel
theorem dX10_signOf_54 : decode cX10_signOf 54 = .ok (.aload_n 0, 1) := by decide +kernel
theorem dX10_signOf_55 : decode cX10_signOf 55 = .ok (.getfield 272, 3) := by decide +kernel
theorem dX10_signOf_58 : decode cX10_signOf 58 = .ok (.bipush 43, 2) := by decide +kernel
theorem dX10_signOf_60 : decode cX10_signOf 60 = .ok (.if_icmp .ne 8, 3) := by decide +kernel
theorem dX10_signOf_63 : decode cX10_signOf 63 = .ok (.bipush 16, 2) := by decide +kernel
theorem dX10_signOf_65 : decode cX10_signOf 65 = .ok (.goto 32, 3) := by decide +kernel
theorem dX10_signOf_68 : decode cX10_signOf 68 = .ok (.aload_n 0, 1) := by decide +kernel
theorem dX10_signOf_69 : decode cX10_signOf 69 = .ok (.getfield 272, 3) := by decide +kernel
theorem dX10_signOf_72 : decode cX10_signOf 72 = .ok (.bipush 45, 2) := by decide +kernel
theorem dX10_signOf_74 : decode cX10_signOf 74 = .ok (.if_icmp .ne 8, 3) := by decide +kernel
theorem dX10_signOf_77 : decode cX10_signOf 77 = .ok (.bipush 17, 2) := by decide +kernel
theorem dX10_signOf_79 : decode cX10_signOf 79 = .ok (.goto 18, 3) := by decide +kernel
theorem dX10_signOf_82 : decode cX10_signOf 82 = .ok (.aload_n 0, 1) := by decide +kernel
theorem dX10_signOf_83 : decode cX10_signOf 83 = .ok (.getfield 272, 3) := by decide +kernel
theorem dX10_signOf_86 : decode cX10_signOf 86 = .ok (.bipush 42, 2) := by decide +kernel
theorem dX10_signOf_88 : decode cX10_signOf 88 = .ok (.if_icmp .ne 8, 3) := by decide +kernel
theorem dX10_signOf_91 : decode cX10_signOf 91 = .ok (.bipush 18, 2) := by decide +kernel
theorem dX10_signOf_93 : decode cX10_signOf 93 = .ok (.goto 4, 3) := by decide +kernel
theorem dX10_signOf_96 : decode cX10_signOf 96 = .ok (.iconst (-1), 1) := by decide +kernel
theorem dX10_signOf_97 : decode cX10_signOf 97 = .ok (.ireturn, 1) := by decide +kernel
theorem dX10_eRead_0 : decode cX10_eRead 0 = .ok (.aload_n 0, 1) := by decide +kernel
theorem dX10_eRead_1 : decode cX10_eRead 1 = .ok (.iconst 0, 1) := by decide +kernel
theorem dX10_eRead_2 : decode cX10_eRead 2 = .ok (.putfield 284, 3) := by decide +kernel
theorem dX10_eRead_5 : decode cX10_eRead 5 = .ok (.aload_n 0, 1) := by decide +kernel
theorem dX10_eRead_6 : decode cX10_eRead 6 = .ok (.iconst 0, 1) := by decide +kernel
theorem dX10_eRead_7 : decode cX10_eRead 7 = .ok (.putfield 290, 3) := by decide +kernel
theorem dX10_eRead_10 : decode cX10_eRead 10 = .ok (.iconst 1, 1) := by decide +kernel
theorem dX10_eRead_11 : decode cX10_eRead 11 = .ok (.istore_n 1, 1) := by decide +kernel
theorem dX10_eRead_12 : decode cX10_eRead 12 = .ok (.iconst 1, 1) := by decide +kernel
theorem dX10_eRead_13 : decode cX10_eRead 13 = .ok (.istore_n 2, 1) := by decide +kernel
theorem dX10_eRead_14 : decode cX10_eRead 14 = .ok (.aload_n 0, 1) := by decide +kernel
theorem dX10_eRead_15 : decode cX10_eRead 15 = .ok (.invokevirtual 302, 3) := by decide +kernel
theorem dX10_eRead_18 : decode cX10_eRead 18 = .ok (.iload_n 1, 1) := by decide +kernel
theorem dX10_eRead_19 : decode cX10_eRead 19 = .ok (.ifCond .eq 132, 3) := by decide +kernel
theorem dX10_eRead_22 : decode cX10_eRead 22 = .ok (.aload_n 0, 1) := by decide +kernel
theorem dX10_eRead_23 : decode cX10_eRead 23 = .ok (.getfield 272, 3) := by decide +kernel
theorem dX10_eRead_26 : decode cX10_eRead 26 = .ok (.iconst 1, 1) := by decide +kernel
theorem dX10_eRead_27 : decode cX10_eRead 27 = .ok (.if_icmp .eq 11, 3) := by decide +kernel
theorem dX10_eRead_30 : decode cX10_eRead 30 = .ok (.aload_n 0, 1) := by decide +kernel
theorem dX10_eRead_31 : decode cX10_eRead 31 = .ok (.getfield 272, 3) := by decide +kernel
theorem dX10_eRead_34 : decode cX10_eRead 34 = .ok (.iconst 2, 1) := by decide +kernel
theorem dX10_eRead_35 : decode cX10_eRead 35 = .ok (.if_icmp .ne 41, 3) := by decide +kernel
theorem dX10_eRead_38 : decode cX10_eRead 38 = .ok (.aload_n 0, 1) := by decide +kernel
theorem dX10_eRead_39 : decode cX10_eRead 39 = .ok (.aload_n 0, 1) := by decide +kernel
theorem dX10_eRead_40 : decode cX10_eRead 40 = .ok (.getfield 272, 3) := by decide +kernel
theorem dX10_eRead_43 : decode cX10_eRead 43 = .ok (.iconst 1, 1) := by decide +kernel
theorem dX10_eRead_44 : decode cX10_eRead 44 = .ok (.if_icmp .ne 14, 3) := by decide +kernel
theorem dX10_eRead_47 : decode cX10_eRead 47 = .ok (.ldc_w 305, 3) := by decide +kernel
theorem dX10_eRead_50 : decode cX10_eRead 50 = .ok (.aload_n 0, 1) := by decide +kernel
theorem dX10_eRead_51 : decode cX10_eRead 51 = .ok (.getfield 275, 3) := by decide +kernel
theorem dX10_eRead_54 : decode cX10_eRead 54 = .ok (.iadd, 1) := by decide +kernel
theorem dX10_eRead_55 : decode cX10_eRead 55 = .ok (.goto 7, 3) := by decide +kernel
theorem dX10_eRead_58 : decode cX10_eRead 58 = .ok (.aload_n 0, 1) := by decide +kernel
theorem dX10_eRead_59 : decode cX10_eRead 59 = .ok (.getfield 275, 3) := by decide +kernel
theorem dX10_eRead_62 : decode cX10_eRead 62 = .ok (.invokevirtual 293, 3) := by decide +kernel
theorem dX10_eRead_65 : decode cX10_eRead 65 = .ok (.aload_n 0, 1) := by decide +kernel
theorem dX10_eRead_66 : decode cX10_eRead 66 = .ok (.bipush 7, 2) := by decide +kernel
theorem dX10_eRead_68 : decode cX10_eRead 68 = .ok (.invokevirtual 299, 3) := by decide +kernel
theorem dX10_eRead_71 : decode cX10_eRead 71 = .ok (.iconst 0, 1) := by decide +kernel
theorem dX10_eRead_72 : decode cX10_eRead 72 = .ok (.istore_n 1, 1) := by decide +kernel
theorem dX10_eRead_73 : decode cX10_eRead 73 = .ok (.goto (-59), 3) := by decide +kernel
theorem dX10_eRead_76 : decode cX10_eRead 76 = .ok (.aload_n 0, 1) := by decide +kernel
theorem dX10_eRead_77 : decode cX10_eRead 77 = .ok (.getfield 272, 3) := by decide +kernel
theorem dX10_eRead_80 : decode cX10_eRead 80 = .ok (.bipush 6, 2) := by decide +kernel
theorem dX10_eRead_82 : decode cX10_eRead 82 = .ok (.if_icmp .ne 18, 3) := by decide +kernel
theorem dX10_eRead_85 : decode cX10_eRead 85 = .ok (.iload_n 2, 1) := by decide +kernel
theorem dX10_eRead_86 : decode cX10_eRead 86 = .ok (.ifCond .eq 14, 3) := by decide +kernel
theorem dX10_eRead_89 : decode cX10_eRead 89 = .ok (.aload_n 0, 1) := by decide +kernel
theorem dX10_eRead_90 : decode cX10_eRead 90 = .ok (.bipush 13, 2) := by decide +kernel
theorem dX10_eRead_92 : decode cX10_eRead 92 = .ok (.invokevirtual 306, 3) := by decide +kernel
theorem dX10_eRead_95 : decode cX10_eRead 95 = .ok (.ifCond .ne (-81), 3) := by decide +kernel
theorem dX10_eRead_98 : decode cX10_eRead 98 = .ok (.iconst 0, 1) := by decide +kernel
theorem dX10_eRead_99 : decode cX10_eRead 99 = .ok (.ireturn, 1) := by decide +kernel
theorem dX10_eRead_100 : decode cX10_eRead 100 = .ok (.aload_n 0, 1) := by decide +kernel
theorem dX10_eRead_101 : decode cX10_eRead 101 = .ok (.getfield 272, 3) := by decide +kernel
theorem dX10_eRead_104 : decode cX10_eRead 104 = .ok (.bipush 45, 2) := by decide +kernel
theorem dX10_eRead_106 : decode cX10_eRead 106 = .ok (.if_icmp .ne 19, 3) := by decide +kernel
theorem dX10_eRead_109 : decode cX10_eRead 109 = .ok (.aload_n 0, 1) := by decide +kernel
theorem dX10_eRead_110 : decode cX10_eRead 110 = .ok (.bipush 19, 2) := by decide +kernel
theorem dX10_eRead_112 : decode cX10_eRead 112 = .ok (.invokevirtual 306, 3) := by decide +kernel
theorem dX10_eRead_115 : decode cX10_eRead 115 = .ok (.ifCond .ne 5, 3) := by decide +kernel
theorem dX10_eRead_118 : decode cX10_eRead 118 = .ok (.iconst 0, 1) := by decide +kernel
theorem dX10_eRead_119 : decode cX10_eRead 119 = .ok (.ireturn, 1) := by decide +kernel
theorem dX10_eRead_120 : decode cX10_eRead 120 = .ok (.iconst 0, 1) := by decide +kernel
theorem dX10_eRead_121 : decode cX10_eRead 121 = .ok (.istore_n 2, 1) := by decide +kernel
theorem dX10_eRead_122 : decode cX10_eRead 122 = .ok (.goto (-108), 3) := by decide +kernel
theorem dX10_eRead_125 : decode cX10_eRead 125 = .ok (.aload_n 0, 1) := by decide +kernel
theorem dX10_eRead_126 : decode cX10_eRead 126 = .ok (.getfield 272, 3) := by decide +kernel
theorem dX10_eRead_129 : decode cX10_eRead 129 = .ok (.bipush 40, 2) := by decide +kernel
theorem dX10_eRead_131 : decode cX10_eRead 131 = .ok (.if_icmp .ne 18, 3) := by decide +kernel
theorem dX10_eRead_134 : decode cX10_eRead 134 = .ok (.aload_n 0, 1) := by decide +kernel
theorem dX10_eRead_135 : decode cX10_eRead 135 = .ok (.iconst 0, 1) := by decide +kernel
theorem dX10_eRead_136 : decode cX10_eRead 136 = .ok (.invokevirtual 306, 3) := by decide +kernel
theorem dX10_eRead_139 : decode cX10_eRead 139 = .ok (.ifCond .ne 5, 3) := by decide +kernel
theorem dX10_eRead_142 : decode cX10_eRead 142 = .ok (.iconst 0, 1) := by decide +kernel
theorem dX10_eRead_143 : decode cX10_eRead 143 = .ok (.ireturn, 1) := by decide +kernel
theorem dX10_eRead_144 : decode cX10_eRead 144 = .ok (.iconst 1, 1) := by decide +kernel
theorem dX10_eRead_145 : decode cX10_eRead 145 = .ok (.istore_n 2, 1) := by decide +kernel
theorem dX10_eRead_146 : decode cX10_eRead 146 = .ok (.goto (-132), 3) := by decide +kernel
theorem dX10_eRead_149 : decode cX10_eRead 149 = .ok (.iconst 0, 1) := by decide +kernel
theorem dX10_eRead_150 : decode cX10_eRead 150 = .ok (.ireturn, 1) := by decide +kernel
theorem dX10_eRead_151 : decode cX10_eRead 151 = .ok (.aload_n 0, 1) := by decide +kernel
theorem dX10_eRead_152 : decode cX10_eRead 152 = .ok (.getfield 272, 3) := by decide +kernel
theorem dX10_eRead_155 : decode cX10_eRead 155 = .ok (.bipush 59, 2) := by decide +kernel
theorem dX10_eRead_157 : decode cX10_eRead 157 = .ok (.if_icmp .ne 21, 3) := by decide +kernel
theorem dX10_eRead_160 : decode cX10_eRead 160 = .ok (.aload_n 0, 1) := by decide +kernel
theorem dX10_eRead_161 : decode cX10_eRead 161 = .ok (.iconst 1, 1) := by decide +kernel
theorem dX10_eRead_162 : decode cX10_eRead 162 = .ok (.invokevirtual 299, 3) := by decide +kernel
theorem dX10_eRead_165 : decode cX10_eRead 165 = .ok (.aload_n 0, 1) := by decide +kernel
theorem dX10_eRead_166 : decode cX10_eRead 166 = .ok (.getfield 284, 3) := by decide +kernel
theorem dX10_eRead_169 : decode cX10_eRead 169 = .ok (.ifCond .ne 7, 3) := by decide +kernel
theorem dX10_eRead_172 : decode cX10_eRead 172 = .ok (.iconst 1, 1) := by decide +kernel
theorem dX10_eRead_173 : decode cX10_eRead 173 = .ok (.goto 4, 3) := by decide +kernel
theorem dX10_eRead_176 : decode cX10_eRead 176 = .ok (.iconst 0, 1) := by decide +kernel
theorem dX10_eRead_177 : decode cX10_eRead 177 = .ok (.ireturn, 1) := by decide +kernel
theorem dX10_eRead_178 : decode cX10_eRead 178 = .ok (.aload_n 0, 1) := by decide +kernel
theorem dX10_eRead_179 : decode cX10_eRead 179 = .ok (.getfield 272, 3) := by decide +kernel
theorem dX10_eRead_182 : decode cX10_eRead 182 = .ok (.bipush 41, 2) := by decide +kernel
theorem dX10_eRead_184 : decode cX10_eRead 184 = .ok (.if_icmp .ne 46, 3) := by decide +kernel
theorem dX10_eRead_187 : decode cX10_eRead 187 = .ok (.aload_n 0, 1) := by decide +kernel
theorem dX10_eRead_188 : decode cX10_eRead 188 = .ok (.iconst 1, 1) := by decide +kernel
theorem dX10_eRead_189 : decode cX10_eRead 189 = .ok (.invokevirtual 299, 3) := by decide +kernel
theorem dX10_eRead_192 : decode cX10_eRead 192 = .ok (.aload_n 0, 1) := by decide +kernel
theorem dX10_eRead_193 : decode cX10_eRead 193 = .ok (.getfield 284, 3) := by decide +kernel
theorem dX10_eRead_196 : decode cX10_eRead 196 = .ok (.ifCond .ne 5, 3) := by decide +kernel
theorem dX10_eRead_199 : decode cX10_eRead 199 = .ok (.iconst 0, 1) := by decide +kernel
theorem dX10_eRead_200 : decode cX10_eRead 200 = .ok (.ireturn, 1) := by decide +kernel
theorem dX10_eRead_201 : decode cX10_eRead 201 = .ok (.aload_n 0, 1) := by decide +kernel
theorem dX10_eRead_202 : decode cX10_eRead 202 = .ok (.dup, 1) := by decide +kernel
theorem dX10_eRead_203 : decode cX10_eRead 203 = .ok (.getfield 284, 3) := by decide +kernel
theorem dX10_eRead_206 : decode cX10_eRead 206 = .ok (.iconst 1, 1) := by decide +kernel
theorem dX10_eRead_207 : decode cX10_eRead 207 = .ok (.isub, 1) := by decide +kernel
theorem dX10_eRead_208 : decode cX10_eRead 208 = .ok (.putfield 284, 3) := by decide +kernel
theorem dX10_eRead_211 : decode cX10_eRead 211 = .ok (.aload_n 0, 1) := by decide +kernel
theorem dX10_eRead_212 : decode cX10_eRead 212 = .ok (.dup, 1) := by decide +kernel
theorem dX10_eRead_213 : decode cX10_eRead 213 = .ok (.getfield 290, 3) := by decide +kernel
theorem dX10_eRead_216 : decode cX10_eRead 216 = .ok (.iconst 1, 1) := by decide +kernel
theorem dX10_eRead_217 : decode cX10_eRead 217 = .ok (.isub, 1) := by decide +kernel
theorem dX10_eRead_218 : decode cX10_eRead 218 = .ok (.putfield 290, 3) := by decide +kernel
theorem dX10_eRead_221 : decode cX10_eRead 221 = .ok (.aload_n 0, 1) := by decide +kernel
theorem dX10_eRead_222 : decode cX10_eRead 222 = .ok (.bipush 7, 2) := by decide +kernel
theorem dX10_eRead_224 : decode cX10_eRead 224 = .ok (.invokevirtual 299, 3) := by decide +kernel
theorem dX10_eRead_227 : decode cX10_eRead 227 = .ok (.goto (-213), 3) := by decide +kernel
theorem dX10_eRead_230 : decode cX10_eRead 230 = .ok (.aload_n 0, 1) := by decide +kernel
theorem dX10_eRead_231 : decode cX10_eRead 231 = .ok (.invokevirtual 309, 3) := by decide +kernel
theorem dX10_eRead_234 : decode cX10_eRead 234 = .ok (.istore_n 3, 1) := by decide +kernel
theorem dX10_eRead_235 : decode cX10_eRead 235 = .ok (.iload_n 3, 1) := by decide +kernel
theorem dX10_eRead_236 : decode cX10_eRead 236 = .ok (.iconst (-1), 1) := by decide +kernel
theorem dX10_eRead_237 : decode cX10_eRead 237 = .ok (.if_icmp .eq 11, 3) := by decide +kernel
theorem dX10_eRead_240 : decode cX10_eRead 240 = .ok (.aload_n 0, 1) := by decide +kernel
theorem dX10_eRead_241 : decode cX10_eRead 241 = .ok (.iload_n 3, 1) := by decide +kernel
theorem dX10_eRead_242 : decode cX10_eRead 242 = .ok (.invokevirtual 312, 3) := by decide +kernel
theorem dX10_eRead_245 : decode cX10_eRead 245 = .ok (.ifCond .ne 5, 3) := by decide +kernel
theorem dX10_eRead_248 : decode cX10_eRead 248 = .ok (.iconst 0, 1) := by decide +kernel
theorem dX10_eRead_249 : decode cX10_eRead 249 = .ok (.ireturn, 1) := by decide +kernel
theorem dX10_eRead_250 : decode cX10_eRead 250 = .ok (.iconst 1, 1) := by decide +kernel
theorem dX10_eRead_251 : decode cX10_eRead 251 = .ok (.istore_n 1, 1) := by decide +kernel
theorem dX10_eRead_252 : decode cX10_eRead 252 = .ok (.iload_n 3, 1) := by decide +kernel
theorem dX10_eRead_253 : decode cX10_eRead 253 = .ok (.bipush 12, 2) := by decide +kernel
theorem dX10_eRead_255 : decode cX10_eRead 255 = .ok (.if_icmp .gt 7, 3) := by decide +kernel
theorem dX10_eRead_258 : decode cX10_eRead 258 = .ok (.iconst 1, 1) := by decide +kernel
theorem dX10_eRead_259 : decode cX10_eRead 259 = .ok (.goto 4, 3) := by decide +kernel
theorem dX10_eRead_262 : decode cX10_eRead 262 = .ok (.iconst 0, 1) := by decide +kernel
theorem dX10_eRead_263 : decode cX10_eRead 263 = .ok (.istore_n 2, 1) := by decide +kernel
theorem dX10_eRead_264 : decode cX10_eRead 264 = .ok (.goto (-250), 3) := by decide +kernel
theorem dX10_text_0 : decode cX10_text 0 = .ok (.aload_n 0, 1) := by decide +kernel
theorem dX10_text_1 : decode cX10_text 1 = .ok (.getfield 65, 3) := by decide +kernel
theorem dX10_text_4 : decode cX10_text 4 = .ok (.bipush 6, 2) := by decide +kernel
theorem dX10_text_6 : decode cX10_text 6 = .ok (.if_icmp .ne 6, 3) := by decide +kernel
theorem dX10_text_9 : decode cX10_text 9 = .ok (.bipush (-4), 2) := by decide +kernel
theorem dX10_text_11 : decode cX10_text 11 = .ok (.ireturn, 1) := by decide +kernel
theorem dX10_text_12 : decode cX10_text 12 = .ok (.aload_n 0, 1) := by decide +kernel
theorem dX10_text_13 : decode cX10_text 13 = .ok (.iconst 0, 1) := by decide +kernel
theorem dX10_text_14 : decode cX10_text 14 = .ok (.putfield 266, 3) := by decide +kernel
theorem dX10_text_17 : decode cX10_text 17 = .ok (.aload_n 0, 1) := by decide +kernel
theorem dX10_text_18 : decode cX10_text 18 = .ok (.iconst 0, 1) := by decide +kernel
theorem dX10_text_19 : decode cX10_text 19 = .ok (.putfield 281, 3) := by decide +kernel
theorem dX10_text_22 : decode cX10_text 22 = .ok (.iconst 1, 1) := by decide +kernel
theorem dX10_text_23 : decode cX10_text 23 = .ok (.istore_n 1, 1) := by decide +kernel
theorem dX10_text_24 : decode cX10_text 24 = .ok (.iconst 0, 1) := by decide +kernel
theorem dX10_text_25 : decode cX10_text 25 = .ok (.istore_n 2, 1) := by decide +kernel
theorem dX10_text_26 : decode cX10_text 26 = .ok (.iload_n 2, 1) := by decide +kernel
theorem dX10_text_27 : decode cX10_text 27 = .ok (.iconst 3, 1) := by decide +kernel
theorem dX10_text_28 : decode cX10_text 28 = .ok (.if_icmp .ge 73, 3) := by decide +kernel
theorem dX10_text_31 : decode cX10_text 31 = .ok (.iload_n 1, 1) := by decide +kernel
theorem dX10_text_32 : decode cX10_text 32 = .ok (.ifCond .eq 69, 3) := by decide +kernel
theorem dX10_text_35 : decode cX10_text 35 = .ok (.aload_n 0, 1) := by decide +kernel
theorem dX10_text_36 : decode cX10_text 36 = .ok (.invokevirtual 302, 3) := by decide +kernel
theorem dX10_text_39 : decode cX10_text 39 = .ok (.aload_n 0, 1) := by decide +kernel
theorem dX10_text_40 : decode cX10_text 40 = .ok (.getfield 272, 3) := by decide +kernel
theorem dX10_text_43 : decode cX10_text 43 = .ok (.iconst 3, 1) := by decide +kernel
theorem dX10_text_44 : decode cX10_text 44 = .ok (.if_icmp .ne 15, 3) := by decide +kernel
theorem dX10_text_47 : decode cX10_text 47 = .ok (.aload_n 0, 1) := by decide +kernel
theorem dX10_text_48 : decode cX10_text 48 = .ok (.getfield 275, 3) := by decide +kernel
theorem dX10_text_51 : decode cX10_text 51 = .ok (.iload_n 2, 1) := by decide +kernel
theorem dX10_text_52 : decode cX10_text 52 = .ok (.if_icmp .ne 7, 3) := by decide +kernel
theorem dX10_text_55 : decode cX10_text 55 = .ok (.iconst 1, 1) := by decide +kernel
theorem dX10_text_56 : decode cX10_text 56 = .ok (.goto 4, 3) := by decide +kernel
theorem dX10_text_59 : decode cX10_text 59 = .ok (.iconst 0, 1) := by decide +kernel
theorem dX10_text_60 : decode cX10_text 60 = .ok (.istore_n 1, 1) := by decide +kernel
theorem dX10_text_61 : decode cX10_text 61 = .ok (.aload_n 0, 1) := by decide +kernel
theorem dX10_text_62 : decode cX10_text 62 = .ok (.getfield 62, 3) := by decide +kernel
theorem dX10_text_65 : decode cX10_text 65 = .ok (.iconst 4, 1) := by decide +kernel
theorem dX10_text_66 : decode cX10_text 66 = .ok (.aload_n 0, 1) := by decide +kernel
theorem dX10_text_67 : decode cX10_text 67 = .ok (.getfield 65, 3) := by decide +kernel
theorem dX10_text_70 : decode cX10_text 70 = .ok (.imul, 1) := by decide +kernel
theorem dX10_text_71 : decode cX10_text 71 = .ok (.iload_n 2, 1) := by decide +kernel
theorem dX10_text_72 : decode cX10_text 72 = .ok (.iadd, 1) := by decide +kernel
theorem dX10_text_73 : decode cX10_text 73 = .ok (.aload_n 0, 1) := by decide +kernel
theorem dX10_text_74 : decode cX10_text 74 = .ok (.getfield 281, 3) := by decide +kernel
theorem dX10_text_77 : decode cX10_text 77 = .ok (.iastore, 1) := by decide +kernel
theorem dX10_text_78 : decode cX10_text 78 = .ok (.iload_n 1, 1) := by decide +kernel
theorem dX10_text_79 : decode cX10_text 79 = .ok (.ifCond .eq 14, 3) := by decide +kernel
theorem dX10_text_82 : decode cX10_text 82 = .ok (.aload_n 0, 1) := by decide +kernel
theorem dX10_text_83 : decode cX10_text 83 = .ok (.invokevirtual 315, 3) := by decide +kernel
theorem dX10_text_86 : decode cX10_text 86 = .ok (.ifCond .eq 7, 3) := by decide +kernel
theorem dX10_text_89 : decode cX10_text 89 = .ok (.iconst 1, 1) := by decide +kernel
theorem dX10_text_90 : decode cX10_text 90 = .ok (.goto 4, 3) := by decide +kernel
theorem dX10_text_93 : decode cX10_text 93 = .ok (.iconst 0, 1) := by decide +kernel
theorem dX10_text_94 : decode cX10_text 94 = .ok (.istore_n 1, 1) := by decide +kernel
theorem dX10_text_95 : decode cX10_text 95 = .ok (.iinc 2 1, 3) := by decide +kernel
theorem dX10_text_98 : decode cX10_text 98 = .ok (.goto (-72), 3) := by decide +kernel
theorem dX10_text_101 : decode cX10_text 101 = .ok (.iload_n 1, 1) := by decide +kernel
theorem dX10_text_102 : decode cX10_text 102 = .ok (.ifCond .eq 20, 3) := by decide +kernel
theorem dX10_text_105 : decode cX10_text 105 = .ok (.aload_n 0, 1) := by decide +kernel
theorem dX10_text_106 : decode cX10_text 106 = .ok (.invokevirtual 302, 3) := by decide +kernel
theorem dX10_text_109 : decode cX10_text 109 = .ok (.aload_n 0, 1) := by decide +kernel
theorem dX10_text_110 : decode cX10_text 110 = .ok (.getfield 272, 3) := by decide +kernel
theorem dX10_text_113 : decode cX10_text 113 = .ok (.ifCond .ne 7, 3) := by decide +kernel
theorem dX10_text_116 : decode cX10_text 116 = .ok (.iconst 1, 1) := by decide +kernel
theorem dX10_text_117 : decode cX10_text 117 = .ok (.goto 4, 3) := by decide +kernel
theorem dX10_text_120 : decode cX10_text 120 = .ok (.iconst 0, 1) := by decide +kernel
theorem dX10_text_121 : decode cX10_text 121 = .ok (.istore_n 1, 1) := by decide +kernel
theorem dX10_text_122 : decode cX10_text 122 = .ok (.aload_n 0, 1) := by decide +kernel
theorem dX10_text_123 : decode cX10_text 123 = .ok (.getfield 62, 3) := by decide +kernel
theorem dX10_text_126 : decode cX10_text 126 = .ok (.iconst 4, 1) := by decide +kernel
theorem dX10_text_127 : decode cX10_text 127 = .ok (.aload_n 0, 1) := by decide +kernel
theorem dX10_text_128 : decode cX10_text 128 = .ok (.getfield 65, 3) := by decide +kernel
theorem dX10_text_131 : decode cX10_text 131 = .ok (.imul, 1) := by decide +kernel
theorem dX10_text_132 : decode cX10_text 132 = .ok (.iconst 3, 1) := by decide +kernel
theorem dX10_text_133 : decode cX10_text 133 = .ok (.iadd, 1) := by decide +kernel
theorem dX10_text_134 : decode cX10_text 134 = .ok (.aload_n 0, 1) := by decide +kernel
theorem dX10_text_135 : decode cX10_text 135 = .ok (.getfield 281, 3) := by decide +kernel
theorem dX10_text_138 : decode cX10_text 138 = .ok (.iastore, 1) := by decide +kernel
theorem dX10_text_139 : decode cX10_text 139 = .ok (.aload_n 0, 1) := by decide +kernel
theorem dX10_text_140 : decode cX10_text 140 = .ok (.iconst 0, 1) := by decide +kernel
theorem dX10_text_141 : decode cX10_text 141 = .ok (.putfield 205, 3) := by decide +kernel
theorem dX10_text_144 : decode cX10_text 144 = .ok (.iload_n 1, 1) := by decide +kernel
theorem dX10_text_145 : decode cX10_text 145 = .ok (.ifCond .ne 11, 3) := by decide +kernel
theorem dX10_text_148 : decode cX10_text 148 = .ok (.bipush (-100), 2) := by decide +kernel
theorem dX10_text_150 : decode cX10_text 150 = .ok (.aload_n 0, 1) := by decide +kernel
theorem dX10_text_151 : decode cX10_text 151 = .ok (.getfield 269, 3) := by decide +kernel
theorem dX10_text_154 : decode cX10_text 154 = .ok (.isub, 1) := by decide +kernel
theorem dX10_text_155 : decode cX10_text 155 = .ok (.ireturn, 1) := by decide +kernel
theorem dX10_text_156 : decode cX10_text 156 = .ok (.aload_n 0, 1) := by decide +kernel
theorem dX10_text_157 : decode cX10_text 157 = .ok (.dup, 1) := by decide +kernel
theorem dX10_text_158 : decode cX10_text 158 = .ok (.getfield 65, 3) := by decide +kernel
theorem dX10_text_161 : decode cX10_text 161 = .ok (.iconst 1, 1) := by decide +kernel
theorem dX10_text_162 : decode cX10_text 162 = .ok (.iadd, 1) := by decide +kernel
theorem dX10_text_163 : decode cX10_text 163 = .ok (.putfield 65, 3) := by decide +kernel
theorem dX10_text_166 : decode cX10_text 166 = .ok (.aload_n 0, 1) := by decide +kernel
theorem dX10_text_167 : decode cX10_text 167 = .ok (.getfield 65, 3) := by decide +kernel
theorem dX10_text_170 : decode cX10_text 170 = .ok (.iconst 1, 1) := by decide +kernel
theorem dX10_text_171 : decode cX10_text 171 = .ok (.isub, 1) := by decide +kernel
theorem dX10_text_172 : decode cX10_text 172 = .ok (.ireturn, 1) := by decide +kernel
theorem dX10_two_0 : decode cX10_two 0 = .ok (.iload_n 0, 1) := by decide +kernel
theorem dX10_two_1 : decode cX10_two 1 = .ok (.tableswitch 101 11 17 #[43, 57, 101, 71, 82, 93, 97], 43) := by decide +kernel
theorem dX10_two_44 : decode cX10_two 44 = .ok (.iload_n 1, 1) := by decide +kernel
theorem dX10_two_45 : decode cX10_two 45 = .ok (.ifCond .ne 7, 3) := by decide +kernel
theorem dX10_two_48 : decode cX10_two 48 = .ok (.iload_n 2, 1) := by decide +kernel
theorem dX10_two_49 : decode cX10_two 49 = .ok (.ifCond .eq 7, 3) := by decide +kernel
theorem dX10_two_52 : decode cX10_two 52 = .ok (.iconst 1, 1) := by decide +kernel
theorem dX10_two_53 : decode cX10_two 53 = .ok (.goto 4, 3) := by decide +kernel
theorem dX10_two_56 : decode cX10_two 56 = .ok (.iconst 0, 1) := by decide +kernel
theorem dX10_two_57 : decode cX10_two 57 = .ok (.ireturn, 1) := by decide +kernel
theorem dX10_two_58 : decode cX10_two 58 = .ok (.iload_n 1, 1) := by decide +kernel
theorem dX10_two_59 : decode cX10_two 59 = .ok (.ifCond .eq 11, 3) := by decide +kernel
theorem dX10_two_62 : decode cX10_two 62 = .ok (.iload_n 2, 1) := by decide +kernel
theorem dX10_two_63 : decode cX10_two 63 = .ok (.ifCond .eq 7, 3) := by decide +kernel
theorem dX10_two_66 : decode cX10_two 66 = .ok (.iconst 1, 1) := by decide +kernel
theorem dX10_two_67 : decode cX10_two 67 = .ok (.goto 4, 3) := by decide +kernel
theorem dX10_two_70 : decode cX10_two 70 = .ok (.iconst 0, 1) := by decide +kernel
theorem dX10_two_71 : decode cX10_two 71 = .ok (.ireturn, 1) := by decide +kernel
theorem dX10_two_72 : decode cX10_two 72 = .ok (.iload_n 1, 1) := by decide +kernel
theorem dX10_two_73 : decode cX10_two 73 = .ok (.iload_n 2, 1) := by decide +kernel
theorem dX10_two_74 : decode cX10_two 74 = .ok (.if_icmp .ge 7, 3) := by decide +kernel
theorem dX10_two_77 : decode cX10_two 77 = .ok (.iconst 1, 1) := by decide +kernel
theorem dX10_two_78 : decode cX10_two 78 = .ok (.goto 4, 3) := by decide +kernel
theorem dX10_two_81 : decode cX10_two 81 = .ok (.iconst 0, 1) := by decide +kernel
theorem dX10_two_82 : decode cX10_two 82 = .ok (.ireturn, 1) := by decide +kernel
theorem dX10_two_83 : decode cX10_two 83 = .ok (.iload_n 1, 1) := by decide +kernel
theorem dX10_two_84 : decode cX10_two 84 = .ok (.iload_n 2, 1) := by decide +kernel
theorem dX10_two_85 : decode cX10_two 85 = .ok (.if_icmp .ne 7, 3) := by decide +kernel
theorem dX10_two_88 : decode cX10_two 88 = .ok (.iconst 1, 1) := by decide +kernel
theorem dX10_two_89 : decode cX10_two 89 = .ok (.goto 4, 3) := by decide +kernel
theorem dX10_two_92 : decode cX10_two 92 = .ok (.iconst 0, 1) := by decide +kernel
theorem dX10_two_93 : decode cX10_two 93 = .ok (.ireturn, 1) := by decide +kernel
theorem dX10_two_94 : decode cX10_two 94 = .ok (.iload_n 1, 1) := by decide +kernel
theorem dX10_two_95 : decode cX10_two 95 = .ok (.iload_n 2, 1) := by decide +kernel
theorem dX10_two_96 : decode cX10_two 96 = .ok (.iadd, 1) := by decide +kernel
theorem dX10_two_97 : decode cX10_two 97 = .ok (.ireturn, 1) := by decide +kernel
theorem dX10_two_98 : decode cX10_two 98 = .ok (.iload_n 1, 1) := by decide +kernel
theorem dX10_two_99 : decode cX10_two 99 = .ok (.iload_n 2, 1) := by decide +kernel
theorem dX10_two_100 : decode cX10_two 100 = .ok (.isub, 1) := by decide +kernel
theorem dX10_two_101 : decode cX10_two 101 = .ok (.ireturn, 1) := by decide +kernel
theorem dX10_two_102 : decode cX10_two 102 = .ok (.iload_n 1, 1) := by decide +kernel
theorem dX10_two_103 : decode cX10_two 103 = .ok (.iload_n 2, 1) := by decide +kernel
theorem dX10_two_104 : decode cX10_two 104 = .ok (.imul, 1) := by decide +kernel
theorem dX10_two_105 : decode cX10_two 105 = .ok (.ireturn, 1) := by decide +kernel
theorem dX10_says_0 : decode cX10_says 0 = .ok (.aload_n 0, 1) := by decide +kernel
theorem dX10_says_1 : decode cX10_says 1 = .ok (.getfield 129, 3) := by decide +kernel
theorem dX10_says_4 : decode cX10_says 4 = .ok (.iconst 4, 1) := by decide +kernel
theorem dX10_says_5 : decode cX10_says 5 = .ok (.iload_n 2, 1) := by decide +kernel
theorem dX10_says_6 : decode cX10_says 6 = .ok (.iastore, 1) := by decide +kernel
theorem dX10_says_7 : decode cX10_says 7 = .ok (.aload_n 0, 1) := by decide +kernel
theorem dX10_says_8 : decode cX10_says 8 = .ok (.getfield 129, 3) := by decide +kernel
theorem dX10_says_11 : decode cX10_says 11 = .ok (.iconst 5, 1) := by decide +kernel
theorem dX10_says_12 : decode cX10_says 12 = .ok (.iload_n 3, 1) := by decide +kernel
theorem dX10_says_13 : decode cX10_says 13 = .ok (.iastore, 1) := by decide +kernel
theorem dX10_says_14 : decode cX10_says 14 = .ok (.iconst 0, 1) := by decide +kernel
theorem dX10_says_15 : decode cX10_says 15 = .ok (.istore 4, 2) := by decide +kernel
theorem dX10_says_17 : decode cX10_says 17 = .ok (.aload_n 0, 1) := by decide +kernel
theorem dX10_says_18 : decode cX10_says 18 = .ok (.getfield 62, 3) := by decide +kernel
theorem dX10_says_21 : decode cX10_says 21 = .ok (.iconst 4, 1) := by decide +kernel
theorem dX10_says_22 : decode cX10_says 22 = .ok (.aload_n 0, 1) := by decide +kernel
theorem dX10_says_23 : decode cX10_says 23 = .ok (.getfield 202, 3) := by decide +kernel
theorem dX10_says_26 : decode cX10_says 26 = .ok (.imul, 1) := by decide +kernel
theorem dX10_says_27 : decode cX10_says 27 = .ok (.iload_n 1, 1) := by decide +kernel
theorem dX10_says_28 : decode cX10_says 28 = .ok (.iadd, 1) := by decide +kernel
theorem dX10_says_29 : decode cX10_says 29 = .ok (.iaload, 1) := by decide +kernel
theorem dX10_says_30 : decode cX10_says 30 = .ok (.istore 5, 2) := by decide +kernel
theorem dX10_says_32 : decode cX10_says 32 = .ok (.iload 5, 2) := by decide +kernel
theorem dX10_says_34 : decode cX10_says 34 = .ok (.aload_n 0, 1) := by decide +kernel
theorem dX10_says_35 : decode cX10_says 35 = .ok (.getfield 62, 3) := by decide +kernel
theorem dX10_says_38 : decode cX10_says 38 = .ok (.iconst 4, 1) := by decide +kernel
theorem dX10_says_39 : decode cX10_says 39 = .ok (.aload_n 0, 1) := by decide +kernel
theorem dX10_says_40 : decode cX10_says 40 = .ok (.getfield 202, 3) := by decide +kernel
theorem dX10_says_43 : decode cX10_says 43 = .ok (.imul, 1) := by decide +kernel
theorem dX10_says_44 : decode cX10_says 44 = .ok (.iload_n 1, 1) := by decide +kernel
theorem dX10_says_45 : decode cX10_says 45 = .ok (.iadd, 1) := by decide +kernel
theorem dX10_says_46 : decode cX10_says 46 = .ok (.iconst 1, 1) := by decide +kernel
theorem dX10_says_47 : decode cX10_says 47 = .ok (.iadd, 1) := by decide +kernel
theorem dX10_says_48 : decode cX10_says 48 = .ok (.iaload, 1) := by decide +kernel
theorem dX10_says_49 : decode cX10_says 49 = .ok (.if_icmp .ge 176, 3) := by decide +kernel
theorem dX10_says_52 : decode cX10_says 52 = .ok (.aload_n 0, 1) := by decide +kernel
theorem dX10_says_53 : decode cX10_says 53 = .ok (.getfield 59, 3) := by decide +kernel
theorem dX10_says_56 : decode cX10_says 56 = .ok (.sipush 200, 3) := by decide +kernel
theorem dX10_says_59 : decode cX10_says 59 = .ok (.aload_n 0, 1) := by decide +kernel
theorem dX10_says_60 : decode cX10_says 60 = .ok (.getfield 202, 3) := by decide +kernel
theorem dX10_says_63 : decode cX10_says 63 = .ok (.imul, 1) := by decide +kernel
theorem dX10_says_64 : decode cX10_says 64 = .ok (.iload 5, 2) := by decide +kernel
theorem dX10_says_66 : decode cX10_says 66 = .ok (.iadd, 1) := by decide +kernel
theorem dX10_says_67 : decode cX10_says 67 = .ok (.iaload, 1) := by decide +kernel
theorem dX10_says_68 : decode cX10_says 68 = .ok (.istore 6, 2) := by decide +kernel
theorem dX10_says_70 : decode cX10_says 70 = .ok (.iload 6, 2) := by decide +kernel
theorem dX10_says_72 : decode cX10_says 72 = .ok (.ldc_w 305, 3) := by decide +kernel
theorem dX10_says_75 : decode cX10_says 75 = .ok (.if_icmp .ge 10, 3) := by decide +kernel
theorem dX10_says_78 : decode cX10_says 78 = .ok (.iload 6, 2) := by decide +kernel
theorem dX10_says_80 : decode cX10_says 80 = .ok (.bipush 11, 2) := by decide +kernel
theorem dX10_says_82 : decode cX10_says 82 = .ok (.if_icmp .ge 39, 3) := by decide +kernel
theorem dX10_says_85 : decode cX10_says 85 = .ok (.aload_n 0, 1) := by decide +kernel
theorem dX10_says_86 : decode cX10_says 86 = .ok (.getfield 126, 3) := by decide +kernel
theorem dX10_says_89 : decode cX10_says 89 = .ok (.iload 4, 2) := by decide +kernel
theorem dX10_says_91 : decode cX10_says 91 = .ok (.iload 6, 2) := by decide +kernel
theorem dX10_says_93 : decode cX10_says 93 = .ok (.bipush 11, 2) := by decide +kernel
theorem dX10_says_95 : decode cX10_says 95 = .ok (.if_icmp .ge 13, 3) := by decide +kernel
theorem dX10_says_98 : decode cX10_says 98 = .ok (.aload_n 0, 1) := by decide +kernel
theorem dX10_says_99 : decode cX10_says 99 = .ok (.getfield 129, 3) := by decide +kernel
theorem dX10_says_102 : decode cX10_says 102 = .ok (.iload 6, 2) := by decide +kernel
theorem dX10_says_104 : decode cX10_says 104 = .ok (.iaload, 1) := by decide +kernel
theorem dX10_says_105 : decode cX10_says 105 = .ok (.goto 9, 3) := by decide +kernel
theorem dX10_says_108 : decode cX10_says 108 = .ok (.iload 6, 2) := by decide +kernel
theorem dX10_says_110 : decode cX10_says 110 = .ok (.ldc_w 305, 3) := by decide +kernel
theorem dX10_says_113 : decode cX10_says 113 = .ok (.isub, 1) := by decide +kernel
theorem dX10_says_114 : decode cX10_says 114 = .ok (.iastore, 1) := by decide +kernel
theorem dX10_says_115 : decode cX10_says 115 = .ok (.iinc 4 1, 3) := by decide +kernel
theorem dX10_says_118 : decode cX10_says 118 = .ok (.goto 101, 3) := by decide +kernel
theorem dX10_says_121 : decode cX10_says 121 = .ok (.iload 6, 2) := by decide +kernel
theorem dX10_says_123 : decode cX10_says 123 = .ok (.bipush 13, 2) := by decide +kernel
theorem dX10_says_125 : decode cX10_says 125 = .ok (.if_icmp .ne 32, 3) := by decide +kernel
theorem dX10_says_128 : decode cX10_says 128 = .ok (.aload_n 0, 1) := by decide +kernel
theorem dX10_says_129 : decode cX10_says 129 = .ok (.getfield 126, 3) := by decide +kernel
theorem dX10_says_132 : decode cX10_says 132 = .ok (.iload 4, 2) := by decide +kernel
theorem dX10_says_134 : decode cX10_says 134 = .ok (.iconst 1, 1) := by decide +kernel
theorem dX10_says_135 : decode cX10_says 135 = .ok (.isub, 1) := by decide +kernel
theorem dX10_says_136 : decode cX10_says 136 = .ok (.aload_n 0, 1) := by decide +kernel
theorem dX10_says_137 : decode cX10_says 137 = .ok (.getfield 126, 3) := by decide +kernel
theorem dX10_says_140 : decode cX10_says 140 = .ok (.iload 4, 2) := by decide +kernel
theorem dX10_says_142 : decode cX10_says 142 = .ok (.iconst 1, 1) := by decide +kernel
theorem dX10_says_143 : decode cX10_says 143 = .ok (.isub, 1) := by decide +kernel
theorem dX10_says_144 : decode cX10_says 144 = .ok (.iaload, 1) := by decide +kernel
theorem dX10_says_145 : decode cX10_says 145 = .ok (.ifCond .ne 7, 3) := by decide +kernel
theorem dX10_says_148 : decode cX10_says 148 = .ok (.iconst 1, 1) := by decide +kernel
theorem dX10_says_149 : decode cX10_says 149 = .ok (.goto 4, 3) := by decide +kernel
theorem dX10_says_152 : decode cX10_says 152 = .ok (.iconst 0, 1) := by decide +kernel
theorem dX10_says_153 : decode cX10_says 153 = .ok (.iastore, 1) := by decide +kernel
theorem dX10_says_154 : decode cX10_says 154 = .ok (.goto 65, 3) := by decide +kernel
theorem dX10_says_157 : decode cX10_says 157 = .ok (.iload 6, 2) := by decide +kernel
theorem dX10_says_159 : decode cX10_says 159 = .ok (.bipush 19, 2) := by decide +kernel
theorem dX10_says_161 : decode cX10_says 161 = .ok (.if_icmp .ne 25, 3) := by decide +kernel
theorem dX10_says_164 : decode cX10_says 164 = .ok (.aload_n 0, 1) := by decide +kernel
theorem dX10_says_165 : decode cX10_says 165 = .ok (.getfield 126, 3) := by decide +kernel
theorem dX10_says_168 : decode cX10_says 168 = .ok (.iload 4, 2) := by decide +kernel
theorem dX10_says_170 : decode cX10_says 170 = .ok (.iconst 1, 1) := by decide +kernel
theorem dX10_says_171 : decode cX10_says 171 = .ok (.isub, 1) := by decide +kernel
theorem dX10_says_172 : decode cX10_says 172 = .ok (.aload_n 0, 1) := by decide +kernel
theorem dX10_says_173 : decode cX10_says 173 = .ok (.getfield 126, 3) := by decide +kernel
theorem dX10_says_176 : decode cX10_says 176 = .ok (.iload 4, 2) := by decide +kernel
theorem dX10_says_178 : decode cX10_says 178 = .ok (.iconst 1, 1) := by decide +kernel
theorem dX10_says_179 : decode cX10_says 179 = .ok (.isub, 1) := by decide +kernel
theorem dX10_says_180 : decode cX10_says 180 = .ok (.iaload, 1) := by decide +kernel
theorem dX10_says_181 : decode cX10_says 181 = .ok (.ineg, 1) := by decide +kernel
theorem dX10_says_182 : decode cX10_says 182 = .ok (.iastore, 1) := by decide +kernel
theorem dX10_says_183 : decode cX10_says 183 = .ok (.goto 36, 3) := by decide +kernel
theorem dX10_says_186 : decode cX10_says 186 = .ok (.iinc 4 (-1), 3) := by decide +kernel
theorem dX10_says_189 : decode cX10_says 189 = .ok (.aload_n 0, 1) := by decide +kernel
theorem dX10_says_190 : decode cX10_says 190 = .ok (.getfield 126, 3) := by decide +kernel
theorem dX10_says_193 : decode cX10_says 193 = .ok (.iload 4, 2) := by decide +kernel
theorem dX10_says_195 : decode cX10_says 195 = .ok (.iconst 1, 1) := by decide +kernel
theorem dX10_says_196 : decode cX10_says 196 = .ok (.isub, 1) := by decide +kernel
theorem dX10_says_197 : decode cX10_says 197 = .ok (.iload 6, 2) := by decide +kernel
theorem dX10_says_199 : decode cX10_says 199 = .ok (.aload_n 0, 1) := by decide +kernel
theorem dX10_says_200 : decode cX10_says 200 = .ok (.getfield 126, 3) := by decide +kernel
theorem dX10_says_203 : decode cX10_says 203 = .ok (.iload 4, 2) := by decide +kernel
theorem dX10_says_205 : decode cX10_says 205 = .ok (.iconst 1, 1) := by decide +kernel
theorem dX10_says_206 : decode cX10_says 206 = .ok (.isub, 1) := by decide +kernel
theorem dX10_says_207 : decode cX10_says 207 = .ok (.iaload, 1) := by decide +kernel
theorem dX10_says_208 : decode cX10_says 208 = .ok (.aload_n 0, 1) := by decide +kernel
theorem dX10_says_209 : decode cX10_says 209 = .ok (.getfield 126, 3) := by decide +kernel
theorem dX10_says_212 : decode cX10_says 212 = .ok (.iload 4, 2) := by decide +kernel
theorem dX10_says_214 : decode cX10_says 214 = .ok (.iaload, 1) := by decide +kernel
theorem dX10_says_215 : decode cX10_says 215 = .ok (.invokestatic 319, 3) := by decide +kernel
theorem dX10_says_218 : decode cX10_says 218 = .ok (.iastore, 1) := by decide +kernel
theorem dX10_says_219 : decode cX10_says 219 = .ok (.iinc 5 1, 3) := by decide +kernel
theorem dX10_says_222 : decode cX10_says 222 = .ok (.goto (-190), 3) := by decide +kernel
theorem dX10_says_225 : decode cX10_says 225 = .ok (.aload_n 0, 1) := by decide +kernel
theorem dX10_says_226 : decode cX10_says 226 = .ok (.getfield 126, 3) := by decide +kernel
theorem dX10_says_229 : decode cX10_says 229 = .ok (.iconst 0, 1) := by decide +kernel
theorem dX10_says_230 : decode cX10_says 230 = .ok (.iaload, 1) := by decide +kernel
theorem dX10_says_231 : decode cX10_says 231 = .ok (.ireturn, 1) := by decide +kernel
theorem dX10_names_0 : decode cX10_names 0 = .ok (.aload_n 0, 1) := by decide +kernel
theorem dX10_names_1 : decode cX10_names 1 = .ok (.getfield 129, 3) := by decide +kernel
theorem dX10_names_4 : decode cX10_names 4 = .ok (.iconst 0, 1) := by decide +kernel
theorem dX10_names_5 : decode cX10_names 5 = .ok (.iload_n 1, 1) := by decide +kernel
theorem dX10_names_6 : decode cX10_names 6 = .ok (.iastore, 1) := by decide +kernel
theorem dX10_names_7 : decode cX10_names 7 = .ok (.aload_n 0, 1) := by decide +kernel
theorem dX10_names_8 : decode cX10_names 8 = .ok (.getfield 129, 3) := by decide +kernel
theorem dX10_names_11 : decode cX10_names 11 = .ok (.iconst 1, 1) := by decide +kernel
theorem dX10_names_12 : decode cX10_names 12 = .ok (.iload_n 2, 1) := by decide +kernel
theorem dX10_names_13 : decode cX10_names 13 = .ok (.iastore, 1) := by decide +kernel
theorem dX10_names_14 : decode cX10_names 14 = .ok (.aload_n 0, 1) := by decide +kernel
theorem dX10_names_15 : decode cX10_names 15 = .ok (.getfield 129, 3) := by decide +kernel
theorem dX10_names_18 : decode cX10_names 18 = .ok (.iconst 2, 1) := by decide +kernel
theorem dX10_names_19 : decode cX10_names 19 = .ok (.iload_n 3, 1) := by decide +kernel
theorem dX10_names_20 : decode cX10_names 20 = .ok (.iastore, 1) := by decide +kernel
theorem dX10_names_21 : decode cX10_names 21 = .ok (.aload_n 0, 1) := by decide +kernel
theorem dX10_names_22 : decode cX10_names 22 = .ok (.getfield 129, 3) := by decide +kernel
theorem dX10_names_25 : decode cX10_names 25 = .ok (.iconst 3, 1) := by decide +kernel
theorem dX10_names_26 : decode cX10_names 26 = .ok (.iload 4, 2) := by decide +kernel
theorem dX10_names_28 : decode cX10_names 28 = .ok (.iastore, 1) := by decide +kernel
theorem dX10_names_29 : decode cX10_names 29 = .ok (.return_, 1) := by decide +kernel
theorem dX10_within_0 : decode cX10_within 0 = .ok (.iload_n 0, 1) := by decide +kernel
theorem dX10_within_1 : decode cX10_within 1 = .ok (.ifCond .ge 7, 3) := by decide +kernel
theorem dX10_within_4 : decode cX10_within 4 = .ok (.iconst 0, 1) := by decide +kernel
theorem dX10_within_5 : decode cX10_within 5 = .ok (.goto 13, 3) := by decide +kernel
theorem dX10_within_8 : decode cX10_within 8 = .ok (.iload_n 0, 1) := by decide +kernel
theorem dX10_within_9 : decode cX10_within 9 = .ok (.iload_n 1, 1) := by decide +kernel
theorem dX10_within_10 : decode cX10_within 10 = .ok (.if_icmp .le 7, 3) := by decide +kernel
theorem dX10_within_13 : decode cX10_within 13 = .ok (.iload_n 1, 1) := by decide +kernel
theorem dX10_within_14 : decode cX10_within 14 = .ok (.goto 4, 3) := by decide +kernel
theorem dX10_within_17 : decode cX10_within 17 = .ok (.iload_n 0, 1) := by decide +kernel
theorem dX10_within_18 : decode cX10_within 18 = .ok (.ireturn, 1) := by decide +kernel
theorem dX10_force_0 : decode cX10_force 0 = .ok (.iload_n 1, 1) := by decide +kernel
theorem dX10_force_1 : decode cX10_force 1 = .ok (.iconst 0, 1) := by decide +kernel
theorem dX10_force_2 : decode cX10_force 2 = .ok (.aload_n 0, 1) := by decide +kernel
theorem dX10_force_3 : decode cX10_force 3 = .ok (.getfield 65, 3) := by decide +kernel
theorem dX10_force_6 : decode cX10_force 6 = .ok (.iconst 1, 1) := by decide +kernel
theorem dX10_force_7 : decode cX10_force 7 = .ok (.isub, 1) := by decide +kernel
theorem dX10_force_8 : decode cX10_force 8 = .ok (.invokestatic 162, 3) := by decide +kernel
theorem dX10_force_11 : decode cX10_force 11 = .ok (.ifCond .ne 6, 3) := by decide +kernel
theorem dX10_force_14 : decode cX10_force 14 = .ok (.bipush (-2), 2) := by decide +kernel
theorem dX10_force_16 : decode cX10_force 16 = .ok (.ireturn, 1) := by decide +kernel
theorem dX10_force_17 : decode cX10_force 17 = .ok (.aload_n 0, 1) := by decide +kernel
theorem dX10_force_18 : decode cX10_force 18 = .ok (.getfield 202, 3) := by decide +kernel
theorem dX10_force_21 : decode cX10_force 21 = .ok (.istore_n 2, 1) := by decide +kernel
theorem dX10_force_22 : decode cX10_force 22 = .ok (.aload_n 0, 1) := by decide +kernel
theorem dX10_force_23 : decode cX10_force 23 = .ok (.iload_n 1, 1) := by decide +kernel
theorem dX10_force_24 : decode cX10_force 24 = .ok (.putfield 202, 3) := by decide +kernel
theorem dX10_force_27 : decode cX10_force 27 = .ok (.iload_n 2, 1) := by decide +kernel
theorem dX10_force_28 : decode cX10_force 28 = .ok (.ireturn, 1) := by decide +kernel
theorem dX10_keeps_0 : decode cX10_keeps 0 = .ok (.iconst 0, 1) := by decide +kernel
theorem dX10_keeps_1 : decode cX10_keeps 1 = .ok (.istore_n 1, 1) := by decide +kernel
theorem dX10_keeps_2 : decode cX10_keeps 2 = .ok (.iload_n 1, 1) := by decide +kernel
theorem dX10_keeps_3 : decode cX10_keeps 3 = .ok (.bipush 8, 2) := by decide +kernel
theorem dX10_keeps_5 : decode cX10_keeps 5 = .ok (.if_icmp .ge 21, 3) := by decide +kernel
theorem dX10_keeps_8 : decode cX10_keeps 8 = .ok (.aload_n 0, 1) := by decide +kernel
theorem dX10_keeps_9 : decode cX10_keeps 9 = .ok (.getfield 132, 3) := by decide +kernel
theorem dX10_keeps_12 : decode cX10_keeps 12 = .ok (.iload_n 1, 1) := by decide +kernel
theorem dX10_keeps_13 : decode cX10_keeps 13 = .ok (.aload_n 0, 1) := by decide +kernel
theorem dX10_keeps_14 : decode cX10_keeps 14 = .ok (.getfield 35, 3) := by decide +kernel
theorem dX10_keeps_17 : decode cX10_keeps 17 = .ok (.iload_n 1, 1) := by decide +kernel
theorem dX10_keeps_18 : decode cX10_keeps 18 = .ok (.iaload, 1) := by decide +kernel
theorem dX10_keeps_19 : decode cX10_keeps 19 = .ok (.iastore, 1) := by decide +kernel
theorem dX10_keeps_20 : decode cX10_keeps 20 = .ok (.iinc 1 1, 3) := by decide +kernel
theorem dX10_keeps_23 : decode cX10_keeps 23 = .ok (.goto (-21), 3) := by decide +kernel
theorem dX10_keeps_26 : decode cX10_keeps 26 = .ok (.return_, 1) := by decide +kernel
theorem dX10_lays_0 : decode cX10_lays 0 = .ok (.iconst 0, 1) := by decide +kernel
theorem dX10_lays_1 : decode cX10_lays 1 = .ok (.istore_n 1, 1) := by decide +kernel
theorem dX10_lays_2 : decode cX10_lays 2 = .ok (.iload_n 1, 1) := by decide +kernel
theorem dX10_lays_3 : decode cX10_lays 3 = .ok (.bipush 8, 2) := by decide +kernel
theorem dX10_lays_5 : decode cX10_lays 5 = .ok (.if_icmp .ge 21, 3) := by decide +kernel
theorem dX10_lays_8 : decode cX10_lays 8 = .ok (.aload_n 0, 1) := by decide +kernel
theorem dX10_lays_9 : decode cX10_lays 9 = .ok (.getfield 35, 3) := by decide +kernel
theorem dX10_lays_12 : decode cX10_lays 12 = .ok (.iload_n 1, 1) := by decide +kernel
theorem dX10_lays_13 : decode cX10_lays 13 = .ok (.aload_n 0, 1) := by decide +kernel
theorem dX10_lays_14 : decode cX10_lays 14 = .ok (.getfield 132, 3) := by decide +kernel
theorem dX10_lays_17 : decode cX10_lays 17 = .ok (.iload_n 1, 1) := by decide +kernel
theorem dX10_lays_18 : decode cX10_lays 18 = .ok (.iaload, 1) := by decide +kernel
theorem dX10_lays_19 : decode cX10_lays 19 = .ok (.iastore, 1) := by decide +kernel
theorem dX10_lays_20 : decode cX10_lays 20 = .ok (.iinc 1 1, 3) := by decide +kernel
theorem dX10_lays_23 : decode cX10_lays 23 = .ok (.goto (-21), 3) := by decide +kernel
theorem dX10_lays_26 : decode cX10_lays 26 = .ok (.return_, 1) := by decide +kernel
theorem dX10_totalWith_0 : decode cX10_totalWith 0 = .ok (.iconst 0, 1) := by decide +kernel
theorem dX10_totalWith_1 : decode cX10_totalWith 1 = .ok (.istore_n 2, 1) := by decide +kernel
theorem dX10_totalWith_2 : decode cX10_totalWith 2 = .ok (.iload_n 2, 1) := by decide +kernel
theorem dX10_totalWith_3 : decode cX10_totalWith 3 = .ok (.aload_n 0, 1) := by decide +kernel
theorem dX10_totalWith_4 : decode cX10_totalWith 4 = .ok (.getfield 166, 3) := by decide +kernel
theorem dX10_totalWith_7 : decode cX10_totalWith 7 = .ok (.if_icmp .ge 20, 3) := by decide +kernel
theorem dX10_totalWith_10 : decode cX10_totalWith 10 = .ok (.aload_n 0, 1) := by decide +kernel
theorem dX10_totalWith_11 : decode cX10_totalWith 11 = .ok (.getfield 35, 3) := by decide +kernel
theorem dX10_totalWith_14 : decode cX10_totalWith 14 = .ok (.iload_n 2, 1) := by decide +kernel
theorem dX10_totalWith_15 : decode cX10_totalWith 15 = .ok (.iload_n 1, 1) := by decide +kernel
theorem dX10_totalWith_16 : decode cX10_totalWith 16 = .ok (.iload_n 2, 1) := by decide +kernel
theorem dX10_totalWith_17 : decode cX10_totalWith 17 = .ok (.ishr, 1) := by decide +kernel
theorem dX10_totalWith_18 : decode cX10_totalWith 18 = .ok (.iconst 1, 1) := by decide +kernel
theorem dX10_totalWith_19 : decode cX10_totalWith 19 = .ok (.iand, 1) := by decide +kernel
theorem dX10_totalWith_20 : decode cX10_totalWith 20 = .ok (.iastore, 1) := by decide +kernel
theorem dX10_totalWith_21 : decode cX10_totalWith 21 = .ok (.iinc 2 1, 3) := by decide +kernel
theorem dX10_totalWith_24 : decode cX10_totalWith 24 = .ok (.goto (-22), 3) := by decide +kernel
theorem dX10_totalWith_27 : decode cX10_totalWith 27 = .ok (.aload_n 0, 1) := by decide +kernel
theorem dX10_totalWith_28 : decode cX10_totalWith 28 = .ok (.invokevirtual 257, 3) := by decide +kernel
theorem dX10_totalWith_31 : decode cX10_totalWith 31 = .ok (.lreturn, 1) := by decide +kernel
theorem dX10_ones_0 : decode cX10_ones 0 = .ok (.iconst 0, 1) := by decide +kernel
theorem dX10_ones_1 : decode cX10_ones 1 = .ok (.istore_n 1, 1) := by decide +kernel
theorem dX10_ones_2 : decode cX10_ones 2 = .ok (.iconst 0, 1) := by decide +kernel
theorem dX10_ones_3 : decode cX10_ones 3 = .ok (.istore_n 2, 1) := by decide +kernel
theorem dX10_ones_4 : decode cX10_ones 4 = .ok (.iload_n 2, 1) := by decide +kernel
theorem dX10_ones_5 : decode cX10_ones 5 = .ok (.bipush 8, 2) := by decide +kernel
theorem dX10_ones_7 : decode cX10_ones 7 = .ok (.if_icmp .ge 17, 3) := by decide +kernel
theorem dX10_ones_10 : decode cX10_ones 10 = .ok (.iload_n 1, 1) := by decide +kernel
theorem dX10_ones_11 : decode cX10_ones 11 = .ok (.iload_n 0, 1) := by decide +kernel
theorem dX10_ones_12 : decode cX10_ones 12 = .ok (.iload_n 2, 1) := by decide +kernel
theorem dX10_ones_13 : decode cX10_ones 13 = .ok (.ishr, 1) := by decide +kernel
theorem dX10_ones_14 : decode cX10_ones 14 = .ok (.iconst 1, 1) := by decide +kernel
theorem dX10_ones_15 : decode cX10_ones 15 = .ok (.iand, 1) := by decide +kernel
theorem dX10_ones_16 : decode cX10_ones 16 = .ok (.iadd, 1) := by decide +kernel
theorem dX10_ones_17 : decode cX10_ones 17 = .ok (.istore_n 1, 1) := by decide +kernel
theorem dX10_ones_18 : decode cX10_ones 18 = .ok (.iinc 2 1, 3) := by decide +kernel
theorem dX10_ones_21 : decode cX10_ones 21 = .ok (.goto (-17), 3) := by decide +kernel
theorem dX10_ones_24 : decode cX10_ones 24 = .ok (.iload_n 1, 1) := by decide +kernel
theorem dX10_ones_25 : decode cX10_ones 25 = .ok (.ireturn, 1) := by decide +kernel
theorem dX10_isWithin_0 : decode cX10_isWithin 0 = .ok (.iconst 0, 1) := by decide +kernel
theorem dX10_isWithin_1 : decode cX10_isWithin 1 = .ok (.istore_n 2, 1) := by decide +kernel
theorem dX10_isWithin_2 : decode cX10_isWithin 2 = .ok (.iload_n 2, 1) := by decide +kernel
theorem dX10_isWithin_3 : decode cX10_isWithin 3 = .ok (.aload_n 0, 1) := by decide +kernel
theorem dX10_isWithin_4 : decode cX10_isWithin 4 = .ok (.getfield 169, 3) := by decide +kernel
theorem dX10_isWithin_7 : decode cX10_isWithin 7 = .ok (.if_icmp .ge 28, 3) := by decide +kernel
theorem dX10_isWithin_10 : decode cX10_isWithin 10 = .ok (.aload_n 0, 1) := by decide +kernel
theorem dX10_isWithin_11 : decode cX10_isWithin 11 = .ok (.getfield 92, 3) := by decide +kernel
theorem dX10_isWithin_14 : decode cX10_isWithin 14 = .ok (.iload_n 2, 1) := by decide +kernel
theorem dX10_isWithin_15 : decode cX10_isWithin 15 = .ok (.iaload, 1) := by decide +kernel
theorem dX10_isWithin_16 : decode cX10_isWithin 16 = .ok (.aload_n 0, 1) := by decide +kernel
theorem dX10_isWithin_17 : decode cX10_isWithin 17 = .ok (.getfield 135, 3) := by decide +kernel
theorem dX10_isWithin_20 : decode cX10_isWithin 20 = .ok (.iload_n 2, 1) := by decide +kernel
theorem dX10_isWithin_21 : decode cX10_isWithin 21 = .ok (.iaload, 1) := by decide +kernel
theorem dX10_isWithin_22 : decode cX10_isWithin 22 = .ok (.isub, 1) := by decide +kernel
theorem dX10_isWithin_23 : decode cX10_isWithin 23 = .ok (.iload_n 1, 1) := by decide +kernel
theorem dX10_isWithin_24 : decode cX10_isWithin 24 = .ok (.if_icmp .le 5, 3) := by decide +kernel
theorem dX10_isWithin_27 : decode cX10_isWithin 27 = .ok (.iconst 0, 1) := by decide +kernel
theorem dX10_isWithin_28 : decode cX10_isWithin 28 = .ok (.ireturn, 1) := by decide +kernel
theorem dX10_isWithin_29 : decode cX10_isWithin 29 = .ok (.iinc 2 1, 3) := by decide +kernel
theorem dX10_isWithin_32 : decode cX10_isWithin 32 = .ok (.goto (-30), 3) := by decide +kernel
theorem dX10_isWithin_35 : decode cX10_isWithin 35 = .ok (.iconst 1, 1) := by decide +kernel
theorem dX10_isWithin_36 : decode cX10_isWithin 36 = .ok (.ireturn, 1) := by decide +kernel
theorem dX10_bestSet_0 : decode cX10_bestSet 0 = .ok (.aload_n 0, 1) := by decide +kernel
theorem dX10_bestSet_1 : decode cX10_bestSet 1 = .ok (.invokevirtual 257, 3) := by decide +kernel
theorem dX10_bestSet_4 : decode cX10_bestSet 4 = .ok (.pop2, 1) := by decide +kernel
theorem dX10_bestSet_5 : decode cX10_bestSet 5 = .ok (.iconst 0, 1) := by decide +kernel
theorem dX10_bestSet_6 : decode cX10_bestSet 6 = .ok (.istore_n 3, 1) := by decide +kernel
theorem dX10_bestSet_7 : decode cX10_bestSet 7 = .ok (.iload_n 3, 1) := by decide +kernel
theorem dX10_bestSet_8 : decode cX10_bestSet 8 = .ok (.aload_n 0, 1) := by decide +kernel
theorem dX10_bestSet_9 : decode cX10_bestSet 9 = .ok (.getfield 169, 3) := by decide +kernel
theorem dX10_bestSet_12 : decode cX10_bestSet 12 = .ok (.if_icmp .ge 21, 3) := by decide +kernel
theorem dX10_bestSet_15 : decode cX10_bestSet 15 = .ok (.aload_n 0, 1) := by decide +kernel
theorem dX10_bestSet_16 : decode cX10_bestSet 16 = .ok (.getfield 135, 3) := by decide +kernel
theorem dX10_bestSet_19 : decode cX10_bestSet 19 = .ok (.iload_n 3, 1) := by decide +kernel
theorem dX10_bestSet_20 : decode cX10_bestSet 20 = .ok (.aload_n 0, 1) := by decide +kernel
theorem dX10_bestSet_21 : decode cX10_bestSet 21 = .ok (.getfield 92, 3) := by decide +kernel
theorem dX10_bestSet_24 : decode cX10_bestSet 24 = .ok (.iload_n 3, 1) := by decide +kernel
theorem dX10_bestSet_25 : decode cX10_bestSet 25 = .ok (.iaload, 1) := by decide +kernel
theorem dX10_bestSet_26 : decode cX10_bestSet 26 = .ok (.iastore, 1) := by decide +kernel
theorem dX10_bestSet_27 : decode cX10_bestSet 27 = .ok (.iinc 3 1, 3) := by decide +kernel
theorem dX10_bestSet_30 : decode cX10_bestSet 30 = .ok (.goto (-23), 3) := by decide +kernel
theorem dX10_bestSet_33 : decode cX10_bestSet 33 = .ok (.aload_n 0, 1) := by decide +kernel
theorem dX10_bestSet_34 : decode cX10_bestSet 34 = .ok (.invokevirtual 322, 3) := by decide +kernel
theorem dX10_bestSet_37 : decode cX10_bestSet 37 = .ok (.iconst (-1), 1) := by decide +kernel
theorem dX10_bestSet_38 : decode cX10_bestSet 38 = .ok (.istore_n 3, 1) := by decide +kernel
theorem dX10_bestSet_39 : decode cX10_bestSet 39 = .ok (.iconst 0, 1) := by decide +kernel
theorem dX10_bestSet_40 : decode cX10_bestSet 40 = .ok (.istore 4, 2) := by decide +kernel
theorem dX10_bestSet_42 : decode cX10_bestSet 42 = .ok (.iload 4, 2) := by decide +kernel
theorem dX10_bestSet_44 : decode cX10_bestSet 44 = .ok (.iconst 1, 1) := by decide +kernel
theorem dX10_bestSet_45 : decode cX10_bestSet 45 = .ok (.aload_n 0, 1) := by decide +kernel
theorem dX10_bestSet_46 : decode cX10_bestSet 46 = .ok (.getfield 166, 3) := by decide +kernel
theorem dX10_bestSet_49 : decode cX10_bestSet 49 = .ok (.ishl, 1) := by decide +kernel
theorem dX10_bestSet_50 : decode cX10_bestSet 50 = .ok (.if_icmp .ge 87, 3) := by decide +kernel
theorem dX10_bestSet_53 : decode cX10_bestSet 53 = .ok (.aload_n 0, 1) := by decide +kernel
theorem dX10_bestSet_54 : decode cX10_bestSet 54 = .ok (.iload 4, 2) := by decide +kernel
theorem dX10_bestSet_56 : decode cX10_bestSet 56 = .ok (.invokevirtual 325, 3) := by decide +kernel
theorem dX10_bestSet_59 : decode cX10_bestSet 59 = .ok (.lstore 5, 2) := by decide +kernel
theorem dX10_bestSet_61 : decode cX10_bestSet 61 = .ok (.iload_n 1, 1) := by decide +kernel
theorem dX10_bestSet_62 : decode cX10_bestSet 62 = .ok (.ifCond .lt 11, 3) := by decide +kernel
theorem dX10_bestSet_65 : decode cX10_bestSet 65 = .ok (.aload_n 0, 1) := by decide +kernel
theorem dX10_bestSet_66 : decode cX10_bestSet 66 = .ok (.getfield 246, 3) := by decide +kernel
theorem dX10_bestSet_69 : decode cX10_bestSet 69 = .ok (.iload_n 1, 1) := by decide +kernel
theorem dX10_bestSet_70 : decode cX10_bestSet 70 = .ok (.if_icmp .gt 61, 3) := by decide +kernel
theorem dX10_bestSet_73 : decode cX10_bestSet 73 = .ok (.iload_n 2, 1) := by decide +kernel
theorem dX10_bestSet_74 : decode cX10_bestSet 74 = .ok (.ifCond .lt 11, 3) := by decide +kernel
theorem dX10_bestSet_77 : decode cX10_bestSet 77 = .ok (.aload_n 0, 1) := by decide +kernel
theorem dX10_bestSet_78 : decode cX10_bestSet 78 = .ok (.iload_n 2, 1) := by decide +kernel
theorem dX10_bestSet_79 : decode cX10_bestSet 79 = .ok (.invokevirtual 329, 3) := by decide +kernel
theorem dX10_bestSet_82 : decode cX10_bestSet 82 = .ok (.ifCond .eq 49, 3) := by decide +kernel
theorem dX10_bestSet_85 : decode cX10_bestSet 85 = .ok (.iload_n 3, 1) := by decide +kernel
theorem dX10_bestSet_86 : decode cX10_bestSet 86 = .ok (.iconst (-1), 1) := by decide +kernel
theorem dX10_bestSet_87 : decode cX10_bestSet 87 = .ok (.if_icmp .eq 35, 3) := by decide +kernel
theorem dX10_bestSet_90 : decode cX10_bestSet 90 = .ok (.lload 5, 2) := by decide +kernel
theorem dX10_bestSet_92 : decode cX10_bestSet 92 = .ok (.aload_n 0, 1) := by decide +kernel
theorem dX10_bestSet_93 : decode cX10_bestSet 93 = .ok (.getfield 332, 3) := by decide +kernel
theorem dX10_bestSet_96 : decode cX10_bestSet 96 = .ok (.lcmp, 1) := by decide +kernel
theorem dX10_bestSet_97 : decode cX10_bestSet 97 = .ok (.ifCond .lt 25, 3) := by decide +kernel
theorem dX10_bestSet_100 : decode cX10_bestSet 100 = .ok (.lload 5, 2) := by decide +kernel
theorem dX10_bestSet_102 : decode cX10_bestSet 102 = .ok (.aload_n 0, 1) := by decide +kernel
theorem dX10_bestSet_103 : decode cX10_bestSet 103 = .ok (.getfield 332, 3) := by decide +kernel
theorem dX10_bestSet_106 : decode cX10_bestSet 106 = .ok (.lcmp, 1) := by decide +kernel
theorem dX10_bestSet_107 : decode cX10_bestSet 107 = .ok (.ifCond .ne 24, 3) := by decide +kernel
theorem dX10_bestSet_110 : decode cX10_bestSet 110 = .ok (.iload 4, 2) := by decide +kernel
theorem dX10_bestSet_112 : decode cX10_bestSet 112 = .ok (.invokestatic 336, 3) := by decide +kernel
theorem dX10_bestSet_115 : decode cX10_bestSet 115 = .ok (.iload_n 3, 1) := by decide +kernel
theorem dX10_bestSet_116 : decode cX10_bestSet 116 = .ok (.invokestatic 336, 3) := by decide +kernel
theorem dX10_bestSet_119 : decode cX10_bestSet 119 = .ok (.if_icmp .ge 12, 3) := by decide +kernel
theorem dX10_bestSet_122 : decode cX10_bestSet 122 = .ok (.iload 4, 2) := by decide +kernel
theorem dX10_bestSet_124 : decode cX10_bestSet 124 = .ok (.istore_n 3, 1) := by decide +kernel
theorem dX10_bestSet_125 : decode cX10_bestSet 125 = .ok (.aload_n 0, 1) := by decide +kernel
theorem dX10_bestSet_126 : decode cX10_bestSet 126 = .ok (.lload 5, 2) := by decide +kernel
theorem dX10_bestSet_128 : decode cX10_bestSet 128 = .ok (.putfield 332, 3) := by decide +kernel
theorem dX10_bestSet_131 : decode cX10_bestSet 131 = .ok (.iinc 4 1, 3) := by decide +kernel
theorem dX10_bestSet_134 : decode cX10_bestSet 134 = .ok (.goto (-92), 3) := by decide +kernel
theorem dX10_bestSet_137 : decode cX10_bestSet 137 = .ok (.aload_n 0, 1) := by decide +kernel
theorem dX10_bestSet_138 : decode cX10_bestSet 138 = .ok (.invokevirtual 339, 3) := by decide +kernel
theorem dX10_bestSet_141 : decode cX10_bestSet 141 = .ok (.iload_n 3, 1) := by decide +kernel
theorem dX10_bestSet_142 : decode cX10_bestSet 142 = .ok (.ireturn, 1) := by decide +kernel
theorem dX10_best_0 : decode cX10_best 0 = .ok (.iload_n 1, 1) := by decide +kernel
theorem dX10_best_1 : decode cX10_best 1 = .ok (.iconst 0, 1) := by decide +kernel
theorem dX10_best_2 : decode cX10_best 2 = .ok (.iconst 1, 1) := by decide +kernel
theorem dX10_best_3 : decode cX10_best 3 = .ok (.invokestatic 162, 3) := by decide +kernel
theorem dX10_best_6 : decode cX10_best 6 = .ok (.ifCond .ne 7, 3) := by decide +kernel
theorem dX10_best_9 : decode cX10_best 9 = .ok (.ldc2_w 255, 3) := by decide +kernel
theorem dX10_best_12 : decode cX10_best 12 = .ok (.lreturn, 1) := by decide +kernel
theorem dX10_best_13 : decode cX10_best 13 = .ok (.aload_n 0, 1) := by decide +kernel
theorem dX10_best_14 : decode cX10_best 14 = .ok (.iconst (-1), 1) := by decide +kernel
theorem dX10_best_15 : decode cX10_best 15 = .ok (.iconst (-1), 1) := by decide +kernel
theorem dX10_best_16 : decode cX10_best 16 = .ok (.invokevirtual 342, 3) := by decide +kernel
theorem dX10_best_19 : decode cX10_best 19 = .ok (.istore_n 2, 1) := by decide +kernel
theorem dX10_best_20 : decode cX10_best 20 = .ok (.iload_n 1, 1) := by decide +kernel
theorem dX10_best_21 : decode cX10_best 21 = .ok (.ifCond .ne 8, 3) := by decide +kernel
theorem dX10_best_24 : decode cX10_best 24 = .ok (.iload_n 2, 1) := by decide +kernel
theorem dX10_best_25 : decode cX10_best 25 = .ok (.i2l, 1) := by decide +kernel
theorem dX10_best_26 : decode cX10_best 26 = .ok (.goto 7, 3) := by decide +kernel
theorem dX10_best_29 : decode cX10_best 29 = .ok (.aload_n 0, 1) := by decide +kernel
theorem dX10_best_30 : decode cX10_best 30 = .ok (.getfield 332, 3) := by decide +kernel
theorem dX10_best_33 : decode cX10_best 33 = .ok (.lreturn, 1) := by decide +kernel
theorem dX10_bound_0 : decode cX10_bound 0 = .ok (.iload_n 1, 1) := by decide +kernel
theorem dX10_bound_1 : decode cX10_bound 1 = .ok (.iconst 0, 1) := by decide +kernel
theorem dX10_bound_2 : decode cX10_bound 2 = .ok (.ldc_w 345, 3) := by decide +kernel
theorem dX10_bound_5 : decode cX10_bound 5 = .ok (.invokestatic 162, 3) := by decide +kernel
theorem dX10_bound_8 : decode cX10_bound 8 = .ok (.ifCond .eq 12, 3) := by decide +kernel
theorem dX10_bound_11 : decode cX10_bound 11 = .ok (.aload_n 0, 1) := by decide +kernel
theorem dX10_bound_12 : decode cX10_bound 12 = .ok (.iload_n 1, 1) := by decide +kernel
theorem dX10_bound_13 : decode cX10_bound 13 = .ok (.iconst (-1), 1) := by decide +kernel
theorem dX10_bound_14 : decode cX10_bound 14 = .ok (.invokevirtual 342, 3) := by decide +kernel
theorem dX10_bound_17 : decode cX10_bound 17 = .ok (.goto 5, 3) := by decide +kernel
theorem dX10_bound_20 : decode cX10_bound 20 = .ok (.bipush (-2), 2) := by decide +kernel
theorem dX10_bound_22 : decode cX10_bound 22 = .ok (.ireturn, 1) := by decide +kernel
theorem dX10_least_0 : decode cX10_least 0 = .ok (.iload_n 1, 1) := by decide +kernel
theorem dX10_least_1 : decode cX10_least 1 = .ok (.iconst 0, 1) := by decide +kernel
theorem dX10_least_2 : decode cX10_least 2 = .ok (.ldc_w 346, 3) := by decide +kernel
theorem dX10_least_5 : decode cX10_least 5 = .ok (.invokestatic 162, 3) := by decide +kernel
theorem dX10_least_8 : decode cX10_least 8 = .ok (.ifCond .eq 12, 3) := by decide +kernel
theorem dX10_least_11 : decode cX10_least 11 = .ok (.aload_n 0, 1) := by decide +kernel
theorem dX10_least_12 : decode cX10_least 12 = .ok (.iconst (-1), 1) := by decide +kernel
theorem dX10_least_13 : decode cX10_least 13 = .ok (.iload_n 1, 1) := by decide +kernel
theorem dX10_least_14 : decode cX10_least 14 = .ok (.invokevirtual 342, 3) := by decide +kernel
theorem dX10_least_17 : decode cX10_least 17 = .ok (.goto 5, 3) := by decide +kernel
theorem dX10_least_20 : decode cX10_least 20 = .ok (.bipush (-2), 2) := by decide +kernel
theorem dX10_least_22 : decode cX10_least 22 = .ok (.ireturn, 1) := by decide +kernel
theorem dX10_fair_0 : decode cX10_fair 0 = .ok (.aload_n 0, 1) := by decide +kernel
theorem dX10_fair_1 : decode cX10_fair 1 = .ok (.invokevirtual 322, 3) := by decide +kernel
theorem dX10_fair_4 : decode cX10_fair 4 = .ok (.iconst (-1), 1) := by decide +kernel
theorem dX10_fair_5 : decode cX10_fair 5 = .ok (.istore_n 1, 1) := by decide +kernel
theorem dX10_fair_6 : decode cX10_fair 6 = .ok (.iconst 0, 1) := by decide +kernel
theorem dX10_fair_7 : decode cX10_fair 7 = .ok (.istore_n 2, 1) := by decide +kernel
theorem dX10_fair_8 : decode cX10_fair 8 = .ok (.iconst 0, 1) := by decide +kernel
theorem dX10_fair_9 : decode cX10_fair 9 = .ok (.istore_n 3, 1) := by decide +kernel
theorem dX10_fair_10 : decode cX10_fair 10 = .ok (.iload_n 3, 1) := by decide +kernel
theorem dX10_fair_11 : decode cX10_fair 11 = .ok (.iconst 1, 1) := by decide +kernel
theorem dX10_fair_12 : decode cX10_fair 12 = .ok (.aload_n 0, 1) := by decide +kernel
theorem dX10_fair_13 : decode cX10_fair 13 = .ok (.getfield 166, 3) := by decide +kernel
theorem dX10_fair_16 : decode cX10_fair 16 = .ok (.ishl, 1) := by decide +kernel
theorem dX10_fair_17 : decode cX10_fair 17 = .ok (.if_icmp .ge 35, 3) := by decide +kernel
theorem dX10_fair_20 : decode cX10_fair 20 = .ok (.aload_n 0, 1) := by decide +kernel
theorem dX10_fair_21 : decode cX10_fair 21 = .ok (.iload_n 3, 1) := by decide +kernel
theorem dX10_fair_22 : decode cX10_fair 22 = .ok (.invokevirtual 325, 3) := by decide +kernel
theorem dX10_fair_25 : decode cX10_fair 25 = .ok (.pop2, 1) := by decide +kernel
theorem dX10_fair_26 : decode cX10_fair 26 = .ok (.iload_n 1, 1) := by decide +kernel
theorem dX10_fair_27 : decode cX10_fair 27 = .ok (.iconst (-1), 1) := by decide +kernel
theorem dX10_fair_28 : decode cX10_fair 28 = .ok (.if_icmp .eq 11, 3) := by decide +kernel
theorem dX10_fair_31 : decode cX10_fair 31 = .ok (.aload_n 0, 1) := by decide +kernel
theorem dX10_fair_32 : decode cX10_fair 32 = .ok (.getfield 249, 3) := by decide +kernel
theorem dX10_fair_35 : decode cX10_fair 35 = .ok (.iload_n 2, 1) := by decide +kernel
theorem dX10_fair_36 : decode cX10_fair 36 = .ok (.if_icmp .ge 10, 3) := by decide +kernel
theorem dX10_fair_39 : decode cX10_fair 39 = .ok (.iload_n 3, 1) := by decide +kernel
theorem dX10_fair_40 : decode cX10_fair 40 = .ok (.istore_n 1, 1) := by decide +kernel
theorem dX10_fair_41 : decode cX10_fair 41 = .ok (.aload_n 0, 1) := by decide +kernel
theorem dX10_fair_42 : decode cX10_fair 42 = .ok (.getfield 249, 3) := by decide +kernel
theorem dX10_fair_45 : decode cX10_fair 45 = .ok (.istore_n 2, 1) := by decide +kernel
theorem dX10_fair_46 : decode cX10_fair 46 = .ok (.iinc 3 1, 3) := by decide +kernel
theorem dX10_fair_49 : decode cX10_fair 49 = .ok (.goto (-39), 3) := by decide +kernel
theorem dX10_fair_52 : decode cX10_fair 52 = .ok (.aload_n 0, 1) := by decide +kernel
theorem dX10_fair_53 : decode cX10_fair 53 = .ok (.invokevirtual 339, 3) := by decide +kernel
theorem dX10_fair_56 : decode cX10_fair 56 = .ok (.iload_n 1, 1) := by decide +kernel
theorem dX10_fair_57 : decode cX10_fair 57 = .ok (.ireturn, 1) := by decide +kernel
theorem dX10_fewest_0 : decode cX10_fewest 0 = .ok (.iload_n 1, 1) := by decide +kernel
theorem dX10_fewest_1 : decode cX10_fewest 1 = .ok (.iconst 0, 1) := by decide +kernel
theorem dX10_fewest_2 : decode cX10_fewest 2 = .ok (.ldc_w 347, 3) := by decide +kernel
theorem dX10_fewest_5 : decode cX10_fewest 5 = .ok (.invokestatic 162, 3) := by decide +kernel
theorem dX10_fewest_8 : decode cX10_fewest 8 = .ok (.ifCond .ne 6, 3) := by decide +kernel
theorem dX10_fewest_11 : decode cX10_fewest 11 = .ok (.bipush (-2), 2) := by decide +kernel
theorem dX10_fewest_13 : decode cX10_fewest 13 = .ok (.ireturn, 1) := by decide +kernel
theorem dX10_fewest_14 : decode cX10_fewest 14 = .ok (.aload_n 0, 1) := by decide +kernel
theorem dX10_fewest_15 : decode cX10_fewest 15 = .ok (.invokevirtual 322, 3) := by decide +kernel
theorem dX10_fewest_18 : decode cX10_fewest 18 = .ok (.iconst (-1), 1) := by decide +kernel
theorem dX10_fewest_19 : decode cX10_fewest 19 = .ok (.istore_n 2, 1) := by decide +kernel
theorem dX10_fewest_20 : decode cX10_fewest 20 = .ok (.iconst 0, 1) := by decide +kernel
theorem dX10_fewest_21 : decode cX10_fewest 21 = .ok (.istore_n 3, 1) := by decide +kernel
theorem dX10_fewest_22 : decode cX10_fewest 22 = .ok (.iload_n 3, 1) := by decide +kernel
theorem dX10_fewest_23 : decode cX10_fewest 23 = .ok (.iconst 1, 1) := by decide +kernel
theorem dX10_fewest_24 : decode cX10_fewest 24 = .ok (.aload_n 0, 1) := by decide +kernel
theorem dX10_fewest_25 : decode cX10_fewest 25 = .ok (.getfield 166, 3) := by decide +kernel
theorem dX10_fewest_28 : decode cX10_fewest 28 = .ok (.ishl, 1) := by decide +kernel
theorem dX10_fewest_29 : decode cX10_fewest 29 = .ok (.if_icmp .ge 38, 3) := by decide +kernel
theorem dX10_fewest_32 : decode cX10_fewest 32 = .ok (.iload_n 2, 1) := by decide +kernel
theorem dX10_fewest_33 : decode cX10_fewest 33 = .ok (.iconst (-1), 1) := by decide +kernel
theorem dX10_fewest_34 : decode cX10_fewest 34 = .ok (.if_icmp .eq 14, 3) := by decide +kernel
theorem dX10_fewest_37 : decode cX10_fewest 37 = .ok (.iload_n 3, 1) := by decide +kernel
theorem dX10_fewest_38 : decode cX10_fewest 38 = .ok (.invokestatic 336, 3) := by decide +kernel
theorem dX10_fewest_41 : decode cX10_fewest 41 = .ok (.iload_n 2, 1) := by decide +kernel
theorem dX10_fewest_42 : decode cX10_fewest 42 = .ok (.invokestatic 336, 3) := by decide +kernel
theorem dX10_fewest_45 : decode cX10_fewest 45 = .ok (.if_icmp .ge 16, 3) := by decide +kernel
theorem dX10_fewest_48 : decode cX10_fewest 48 = .ok (.aload_n 0, 1) := by decide +kernel
theorem dX10_fewest_49 : decode cX10_fewest 49 = .ok (.iload_n 3, 1) := by decide +kernel
theorem dX10_fewest_50 : decode cX10_fewest 50 = .ok (.invokevirtual 325, 3) := by decide +kernel
theorem dX10_fewest_53 : decode cX10_fewest 53 = .ok (.iload_n 1, 1) := by decide +kernel
theorem dX10_fewest_54 : decode cX10_fewest 54 = .ok (.i2l, 1) := by decide +kernel
theorem dX10_fewest_55 : decode cX10_fewest 55 = .ok (.lcmp, 1) := by decide +kernel
theorem dX10_fewest_56 : decode cX10_fewest 56 = .ok (.ifCond .gt 5, 3) := by decide +kernel
theorem dX10_fewest_59 : decode cX10_fewest 59 = .ok (.iload_n 3, 1) := by decide +kernel
theorem dX10_fewest_60 : decode cX10_fewest 60 = .ok (.istore_n 2, 1) := by decide +kernel
theorem dX10_fewest_61 : decode cX10_fewest 61 = .ok (.iinc 3 1, 3) := by decide +kernel
theorem dX10_fewest_64 : decode cX10_fewest 64 = .ok (.goto (-42), 3) := by decide +kernel
theorem dX10_fewest_67 : decode cX10_fewest 67 = .ok (.aload_n 0, 1) := by decide +kernel
theorem dX10_fewest_68 : decode cX10_fewest 68 = .ok (.invokevirtual 339, 3) := by decide +kernel
theorem dX10_fewest_71 : decode cX10_fewest 71 = .ok (.iload_n 2, 1) := by decide +kernel
theorem dX10_fewest_72 : decode cX10_fewest 72 = .ok (.ireturn, 1) := by decide +kernel
theorem dX10_judge_0 : decode cX10_judge 0 = .ok (.iload_n 1, 1) := by decide +kernel
theorem dX10_judge_1 : decode cX10_judge 1 = .ok (.iconst 0, 1) := by decide +kernel
theorem dX10_judge_2 : decode cX10_judge 2 = .ok (.iconst 3, 1) := by decide +kernel
theorem dX10_judge_3 : decode cX10_judge 3 = .ok (.invokestatic 162, 3) := by decide +kernel
theorem dX10_judge_6 : decode cX10_judge 6 = .ok (.ifCond .ne 6, 3) := by decide +kernel
theorem dX10_judge_9 : decode cX10_judge 9 = .ok (.bipush (-2), 2) := by decide +kernel
theorem dX10_judge_11 : decode cX10_judge 11 = .ok (.ireturn, 1) := by decide +kernel
theorem dX10_judge_12 : decode cX10_judge 12 = .ok (.aload_n 0, 1) := by decide +kernel
theorem dX10_judge_13 : decode cX10_judge 13 = .ok (.getfield 83, 3) := by decide +kernel
theorem dX10_judge_16 : decode cX10_judge 16 = .ok (.iload_n 1, 1) := by decide +kernel
theorem dX10_judge_17 : decode cX10_judge 17 = .ok (.iaload, 1) := by decide +kernel
theorem dX10_judge_18 : decode cX10_judge 18 = .ok (.iconst (-1), 1) := by decide +kernel
theorem dX10_judge_19 : decode cX10_judge 19 = .ok (.if_icmp .ne 6, 3) := by decide +kernel
theorem dX10_judge_22 : decode cX10_judge 22 = .ok (.bipush (-11), 2) := by decide +kernel
theorem dX10_judge_24 : decode cX10_judge 24 = .ok (.ireturn, 1) := by decide +kernel
theorem dX10_judge_25 : decode cX10_judge 25 = .ok (.aload_n 0, 1) := by decide +kernel
theorem dX10_judge_26 : decode cX10_judge 26 = .ok (.getfield 86, 3) := by decide +kernel
theorem dX10_judge_29 : decode cX10_judge 29 = .ok (.iload_n 1, 1) := by decide +kernel
theorem dX10_judge_30 : decode cX10_judge 30 = .ok (.iaload, 1) := by decide +kernel
theorem dX10_judge_31 : decode cX10_judge 31 = .ok (.aload_n 0, 1) := by decide +kernel
theorem dX10_judge_32 : decode cX10_judge 32 = .ok (.getfield 166, 3) := by decide +kernel
theorem dX10_judge_35 : decode cX10_judge 35 = .ok (.if_icmp .ne 7, 3) := by decide +kernel
theorem dX10_judge_38 : decode cX10_judge 38 = .ok (.iconst 1, 1) := by decide +kernel
theorem dX10_judge_39 : decode cX10_judge 39 = .ok (.goto 4, 3) := by decide +kernel
theorem dX10_judge_42 : decode cX10_judge 42 = .ok (.iconst 0, 1) := by decide +kernel
theorem dX10_judge_43 : decode cX10_judge 43 = .ok (.istore_n 2, 1) := by decide +kernel
theorem dX10_judge_44 : decode cX10_judge 44 = .ok (.iconst 0, 1) := by decide +kernel
theorem dX10_judge_45 : decode cX10_judge 45 = .ok (.istore_n 3, 1) := by decide +kernel
theorem dX10_judge_46 : decode cX10_judge 46 = .ok (.iconst 0, 1) := by decide +kernel
theorem dX10_judge_47 : decode cX10_judge 47 = .ok (.istore 4, 2) := by decide +kernel
theorem dX10_judge_49 : decode cX10_judge 49 = .ok (.iload 4, 2) := by decide +kernel
theorem dX10_judge_51 : decode cX10_judge 51 = .ok (.aload_n 0, 1) := by decide +kernel
theorem dX10_judge_52 : decode cX10_judge 52 = .ok (.getfield 166, 3) := by decide +kernel
theorem dX10_judge_55 : decode cX10_judge 55 = .ok (.if_icmp .ge 57, 3) := by decide +kernel
theorem dX10_judge_58 : decode cX10_judge 58 = .ok (.iload_n 2, 1) := by decide +kernel
theorem dX10_judge_59 : decode cX10_judge 59 = .ok (.ifCond .eq 53, 3) := by decide +kernel
theorem dX10_judge_62 : decode cX10_judge 62 = .ok (.aload_n 0, 1) := by decide +kernel
theorem dX10_judge_63 : decode cX10_judge 63 = .ok (.getfield 89, 3) := by decide +kernel
theorem dX10_judge_66 : decode cX10_judge 66 = .ok (.bipush 41, 2) := by decide +kernel
theorem dX10_judge_68 : decode cX10_judge 68 = .ok (.iload_n 1, 1) := by decide +kernel
theorem dX10_judge_69 : decode cX10_judge 69 = .ok (.imul, 1) := by decide +kernel
theorem dX10_judge_70 : decode cX10_judge 70 = .ok (.iload 4, 2) := by decide +kernel
theorem dX10_judge_72 : decode cX10_judge 72 = .ok (.iadd, 1) := by decide +kernel
theorem dX10_judge_73 : decode cX10_judge 73 = .ok (.iaload, 1) := by decide +kernel
theorem dX10_judge_74 : decode cX10_judge 74 = .ok (.iconst 0, 1) := by decide +kernel
theorem dX10_judge_75 : decode cX10_judge 75 = .ok (.iconst 1, 1) := by decide +kernel
theorem dX10_judge_76 : decode cX10_judge 76 = .ok (.invokestatic 162, 3) := by decide +kernel
theorem dX10_judge_79 : decode cX10_judge 79 = .ok (.istore_n 2, 1) := by decide +kernel
theorem dX10_judge_80 : decode cX10_judge 80 = .ok (.iload_n 3, 1) := by decide +kernel
theorem dX10_judge_81 : decode cX10_judge 81 = .ok (.iload_n 2, 1) := by decide +kernel
theorem dX10_judge_82 : decode cX10_judge 82 = .ok (.ifCond .eq 21, 3) := by decide +kernel
theorem dX10_judge_85 : decode cX10_judge 85 = .ok (.aload_n 0, 1) := by decide +kernel
theorem dX10_judge_86 : decode cX10_judge 86 = .ok (.getfield 89, 3) := by decide +kernel
theorem dX10_judge_89 : decode cX10_judge 89 = .ok (.bipush 41, 2) := by decide +kernel
theorem dX10_judge_91 : decode cX10_judge 91 = .ok (.iload_n 1, 1) := by decide +kernel
theorem dX10_judge_92 : decode cX10_judge 92 = .ok (.imul, 1) := by decide +kernel
theorem dX10_judge_93 : decode cX10_judge 93 = .ok (.iload 4, 2) := by decide +kernel
theorem dX10_judge_95 : decode cX10_judge 95 = .ok (.iadd, 1) := by decide +kernel
theorem dX10_judge_96 : decode cX10_judge 96 = .ok (.iaload, 1) := by decide +kernel
theorem dX10_judge_97 : decode cX10_judge 97 = .ok (.iload 4, 2) := by decide +kernel
theorem dX10_judge_99 : decode cX10_judge 99 = .ok (.ishl, 1) := by decide +kernel
theorem dX10_judge_100 : decode cX10_judge 100 = .ok (.goto 4, 3) := by decide +kernel
theorem dX10_judge_103 : decode cX10_judge 103 = .ok (.iconst 0, 1) := by decide +kernel
theorem dX10_judge_104 : decode cX10_judge 104 = .ok (.ior, 1) := by decide +kernel
theorem dX10_judge_105 : decode cX10_judge 105 = .ok (.istore_n 3, 1) := by decide +kernel
theorem dX10_judge_106 : decode cX10_judge 106 = .ok (.iinc 4 1, 3) := by decide +kernel
theorem dX10_judge_109 : decode cX10_judge 109 = .ok (.goto (-60), 3) := by decide +kernel
theorem dX10_judge_112 : decode cX10_judge 112 = .ok (.iload_n 2, 1) := by decide +kernel
theorem dX10_judge_113 : decode cX10_judge 113 = .ok (.ifCond .ne 6, 3) := by decide +kernel
theorem dX10_judge_116 : decode cX10_judge 116 = .ok (.bipush (-2), 2) := by decide +kernel
theorem dX10_judge_118 : decode cX10_judge 118 = .ok (.ireturn, 1) := by decide +kernel
theorem dX10_judge_119 : decode cX10_judge 119 = .ok (.aload_n 0, 1) := by decide +kernel
theorem dX10_judge_120 : decode cX10_judge 120 = .ok (.invokevirtual 322, 3) := by decide +kernel
theorem dX10_judge_123 : decode cX10_judge 123 = .ok (.aload_n 0, 1) := by decide +kernel
theorem dX10_judge_124 : decode cX10_judge 124 = .ok (.iload_n 3, 1) := by decide +kernel
theorem dX10_judge_125 : decode cX10_judge 125 = .ok (.invokevirtual 325, 3) := by decide +kernel
theorem dX10_judge_128 : decode cX10_judge 128 = .ok (.pop2, 1) := by decide +kernel
theorem dX10_judge_129 : decode cX10_judge 129 = .ok (.iconst (-1), 1) := by decide +kernel
theorem dX10_judge_130 : decode cX10_judge 130 = .ok (.istore 4, 2) := by decide +kernel
theorem dX10_judge_132 : decode cX10_judge 132 = .ok (.aload_n 0, 1) := by decide +kernel
theorem dX10_judge_133 : decode cX10_judge 133 = .ok (.getfield 169, 3) := by decide +kernel
theorem dX10_judge_136 : decode cX10_judge 136 = .ok (.iconst 1, 1) := by decide +kernel
theorem dX10_judge_137 : decode cX10_judge 137 = .ok (.isub, 1) := by decide +kernel
theorem dX10_judge_138 : decode cX10_judge 138 = .ok (.istore 5, 2) := by decide +kernel
theorem dX10_judge_140 : decode cX10_judge 140 = .ok (.iload 5, 2) := by decide +kernel
theorem dX10_judge_142 : decode cX10_judge 142 = .ok (.ifCond .lt 48, 3) := by decide +kernel
theorem dX10_judge_145 : decode cX10_judge 145 = .ok (.aload_n 0, 1) := by decide +kernel
theorem dX10_judge_146 : decode cX10_judge 146 = .ok (.iload 5, 2) := by decide +kernel
theorem dX10_judge_148 : decode cX10_judge 148 = .ok (.invokevirtual 242, 3) := by decide +kernel
theorem dX10_judge_151 : decode cX10_judge 151 = .ok (.aload_n 0, 1) := by decide +kernel
theorem dX10_judge_152 : decode cX10_judge 152 = .ok (.getfield 226, 3) := by decide +kernel
theorem dX10_judge_155 : decode cX10_judge 155 = .ok (.aload_n 0, 1) := by decide +kernel
theorem dX10_judge_156 : decode cX10_judge 156 = .ok (.getfield 13, 3) := by decide +kernel
theorem dX10_judge_159 : decode cX10_judge 159 = .ok (.bipush 6, 2) := by decide +kernel
theorem dX10_judge_161 : decode cX10_judge 161 = .ok (.aload_n 0, 1) := by decide +kernel
theorem dX10_judge_162 : decode cX10_judge 162 = .ok (.getfield 53, 3) := by decide +kernel
theorem dX10_judge_165 : decode cX10_judge 165 = .ok (.iload 5, 2) := by decide +kernel
theorem dX10_judge_167 : decode cX10_judge 167 = .ok (.iaload, 1) := by decide +kernel
theorem dX10_judge_168 : decode cX10_judge 168 = .ok (.imul, 1) := by decide +kernel
theorem dX10_judge_169 : decode cX10_judge 169 = .ok (.iconst 5, 1) := by decide +kernel
theorem dX10_judge_170 : decode cX10_judge 170 = .ok (.iadd, 1) := by decide +kernel
theorem dX10_judge_171 : decode cX10_judge 171 = .ok (.iaload, 1) := by decide +kernel
theorem dX10_judge_172 : decode cX10_judge 172 = .ok (.if_icmp .le 8, 3) := by decide +kernel
theorem dX10_judge_175 : decode cX10_judge 175 = .ok (.iload 5, 2) := by decide +kernel
theorem dX10_judge_177 : decode cX10_judge 177 = .ok (.goto 5, 3) := by decide +kernel
theorem dX10_judge_180 : decode cX10_judge 180 = .ok (.iload 4, 2) := by decide +kernel
theorem dX10_judge_182 : decode cX10_judge 182 = .ok (.istore 4, 2) := by decide +kernel
theorem dX10_judge_184 : decode cX10_judge 184 = .ok (.iinc 5 (-1), 3) := by decide +kernel
theorem dX10_judge_187 : decode cX10_judge 187 = .ok (.goto (-47), 3) := by decide +kernel
theorem dX10_judge_190 : decode cX10_judge 190 = .ok (.aload_n 0, 1) := by decide +kernel
theorem dX10_judge_191 : decode cX10_judge 191 = .ok (.invokevirtual 339, 3) := by decide +kernel
theorem dX10_judge_194 : decode cX10_judge 194 = .ok (.iload 4, 2) := by decide +kernel
theorem dX10_judge_196 : decode cX10_judge 196 = .ok (.ireturn, 1) := by decide +kernel
theorem dX10_patterns_0 : decode cX10_patterns 0 = .ok (.iload_n 1, 1) := by decide +kernel
theorem dX10_patterns_1 : decode cX10_patterns 1 = .ok (.iconst 0, 1) := by decide +kernel
theorem dX10_patterns_2 : decode cX10_patterns 2 = .ok (.iconst 1, 1) := by decide +kernel
theorem dX10_patterns_3 : decode cX10_patterns 3 = .ok (.invokestatic 162, 3) := by decide +kernel
theorem dX10_patterns_6 : decode cX10_patterns 6 = .ok (.ifCond .ne 7, 3) := by decide +kernel
theorem dX10_patterns_9 : decode cX10_patterns 9 = .ok (.ldc2_w 255, 3) := by decide +kernel
theorem dX10_patterns_12 : decode cX10_patterns 12 = .ok (.lreturn, 1) := by decide +kernel
theorem dX10_patterns_13 : decode cX10_patterns 13 = .ok (.aload_n 0, 1) := by decide +kernel
theorem dX10_patterns_14 : decode cX10_patterns 14 = .ok (.getfield 166, 3) := by decide +kernel
theorem dX10_patterns_17 : decode cX10_patterns 17 = .ok (.iconst 5, 1) := by decide +kernel
theorem dX10_patterns_18 : decode cX10_patterns 18 = .ok (.if_icmp .ge 10, 3) := by decide +kernel
theorem dX10_patterns_21 : decode cX10_patterns 21 = .ok (.aload_n 0, 1) := by decide +kernel
theorem dX10_patterns_22 : decode cX10_patterns 22 = .ok (.getfield 166, 3) := by decide +kernel
theorem dX10_patterns_25 : decode cX10_patterns 25 = .ok (.goto 4, 3) := by decide +kernel
theorem dX10_patterns_28 : decode cX10_patterns 28 = .ok (.iconst 5, 1) := by decide +kernel
theorem dX10_patterns_29 : decode cX10_patterns 29 = .ok (.istore_n 2, 1) := by decide +kernel
theorem dX10_patterns_30 : decode cX10_patterns 30 = .ok (.iconst 1, 1) := by decide +kernel
theorem dX10_patterns_31 : decode cX10_patterns 31 = .ok (.istore_n 3, 1) := by decide +kernel
theorem dX10_patterns_32 : decode cX10_patterns 32 = .ok (.iconst 0, 1) := by decide +kernel
theorem dX10_patterns_33 : decode cX10_patterns 33 = .ok (.istore 4, 2) := by decide +kernel
theorem dX10_patterns_35 : decode cX10_patterns 35 = .ok (.iload 4, 2) := by decide +kernel
theorem dX10_patterns_37 : decode cX10_patterns 37 = .ok (.bipush 8, 2) := by decide +kernel
theorem dX10_patterns_39 : decode cX10_patterns 39 = .ok (.if_icmp .ge 37, 3) := by decide +kernel
theorem dX10_patterns_42 : decode cX10_patterns 42 = .ok (.aload_n 0, 1) := by decide +kernel
theorem dX10_patterns_43 : decode cX10_patterns 43 = .ok (.getfield 138, 3) := by decide +kernel
theorem dX10_patterns_46 : decode cX10_patterns 46 = .ok (.iload 4, 2) := by decide +kernel
theorem dX10_patterns_48 : decode cX10_patterns 48 = .ok (.aload_n 0, 1) := by decide +kernel
theorem dX10_patterns_49 : decode cX10_patterns 49 = .ok (.getfield 41, 3) := by decide +kernel
theorem dX10_patterns_52 : decode cX10_patterns 52 = .ok (.iload 4, 2) := by decide +kernel
theorem dX10_patterns_54 : decode cX10_patterns 54 = .ok (.iaload, 1) := by decide +kernel
theorem dX10_patterns_55 : decode cX10_patterns 55 = .ok (.iastore, 1) := by decide +kernel
theorem dX10_patterns_56 : decode cX10_patterns 56 = .ok (.iload_n 3, 1) := by decide +kernel
theorem dX10_patterns_57 : decode cX10_patterns 57 = .ok (.iload 4, 2) := by decide +kernel
theorem dX10_patterns_59 : decode cX10_patterns 59 = .ok (.iload_n 2, 1) := by decide +kernel
theorem dX10_patterns_60 : decode cX10_patterns 60 = .ok (.if_icmp .ge 7, 3) := by decide +kernel
theorem dX10_patterns_63 : decode cX10_patterns 63 = .ok (.iconst 3, 1) := by decide +kernel
theorem dX10_patterns_64 : decode cX10_patterns 64 = .ok (.goto 4, 3) := by decide +kernel
theorem dX10_patterns_67 : decode cX10_patterns 67 = .ok (.iconst 1, 1) := by decide +kernel
theorem dX10_patterns_68 : decode cX10_patterns 68 = .ok (.imul, 1) := by decide +kernel
theorem dX10_patterns_69 : decode cX10_patterns 69 = .ok (.istore_n 3, 1) := by decide +kernel
theorem dX10_patterns_70 : decode cX10_patterns 70 = .ok (.iinc 4 1, 3) := by decide +kernel
theorem dX10_patterns_73 : decode cX10_patterns 73 = .ok (.goto (-38), 3) := by decide +kernel
theorem dX10_patterns_76 : decode cX10_patterns 76 = .ok (.ldc2_w 348, 3) := by decide +kernel
theorem dX10_patterns_79 : decode cX10_patterns 79 = .ok (.lstore 4, 2) := by decide +kernel
theorem dX10_patterns_81 : decode cX10_patterns 81 = .ok (.lconst 0, 1) := by decide +kernel
theorem dX10_patterns_82 : decode cX10_patterns 82 = .ok (.lstore 6, 2) := by decide +kernel
theorem dX10_patterns_84 : decode cX10_patterns 84 = .ok (.iconst 0, 1) := by decide +kernel
theorem dX10_patterns_85 : decode cX10_patterns 85 = .ok (.istore 8, 2) := by decide +kernel
theorem dX10_patterns_87 : decode cX10_patterns 87 = .ok (.iload 8, 2) := by decide +kernel
theorem dX10_patterns_89 : decode cX10_patterns 89 = .ok (.iload_n 3, 1) := by decide +kernel
theorem dX10_patterns_90 : decode cX10_patterns 90 = .ok (.if_icmp .ge 105, 3) := by decide +kernel
theorem dX10_patterns_93 : decode cX10_patterns 93 = .ok (.iload 8, 2) := by decide +kernel
theorem dX10_patterns_95 : decode cX10_patterns 95 = .ok (.istore 9, 2) := by decide +kernel
theorem dX10_patterns_97 : decode cX10_patterns 97 = .ok (.lconst 0, 1) := by decide +kernel
theorem dX10_patterns_98 : decode cX10_patterns 98 = .ok (.lstore 10, 2) := by decide +kernel
theorem dX10_patterns_100 : decode cX10_patterns 100 = .ok (.lconst 1, 1) := by decide +kernel
theorem dX10_patterns_101 : decode cX10_patterns 101 = .ok (.lstore 12, 2) := by decide +kernel
theorem dX10_patterns_103 : decode cX10_patterns 103 = .ok (.iload_n 2, 1) := by decide +kernel
theorem dX10_patterns_104 : decode cX10_patterns 104 = .ok (.iconst 1, 1) := by decide +kernel
theorem dX10_patterns_105 : decode cX10_patterns 105 = .ok (.isub, 1) := by decide +kernel
theorem dX10_patterns_106 : decode cX10_patterns 106 = .ok (.istore 14, 2) := by decide +kernel
theorem dX10_patterns_108 : decode cX10_patterns 108 = .ok (.iload 14, 2) := by decide +kernel
theorem dX10_patterns_110 : decode cX10_patterns 110 = .ok (.ifCond .lt 50, 3) := by decide +kernel
theorem dX10_patterns_113 : decode cX10_patterns 113 = .ok (.aload_n 0, 1) := by decide +kernel
theorem dX10_patterns_114 : decode cX10_patterns 114 = .ok (.getfield 41, 3) := by decide +kernel
theorem dX10_patterns_117 : decode cX10_patterns 117 = .ok (.iload 14, 2) := by decide +kernel
theorem dX10_patterns_119 : decode cX10_patterns 119 = .ok (.iload 9, 2) := by decide +kernel
theorem dX10_patterns_121 : decode cX10_patterns 121 = .ok (.iconst 3, 1) := by decide +kernel
theorem dX10_patterns_122 : decode cX10_patterns 122 = .ok (.irem, 1) := by decide +kernel
theorem dX10_patterns_123 : decode cX10_patterns 123 = .ok (.iastore, 1) := by decide +kernel
theorem dX10_patterns_124 : decode cX10_patterns 124 = .ok (.lload 10, 2) := by decide +kernel
theorem dX10_patterns_126 : decode cX10_patterns 126 = .ok (.lload 12, 2) := by decide +kernel
theorem dX10_patterns_128 : decode cX10_patterns 128 = .ok (.aload_n 0, 1) := by decide +kernel
theorem dX10_patterns_129 : decode cX10_patterns 129 = .ok (.getfield 41, 3) := by decide +kernel
theorem dX10_patterns_132 : decode cX10_patterns 132 = .ok (.iload 14, 2) := by decide +kernel
theorem dX10_patterns_134 : decode cX10_patterns 134 = .ok (.iaload, 1) := by decide +kernel
theorem dX10_patterns_135 : decode cX10_patterns 135 = .ok (.i2l, 1) := by decide +kernel
theorem dX10_patterns_136 : decode cX10_patterns 136 = .ok (.lmul, 1) := by decide +kernel
theorem dX10_patterns_137 : decode cX10_patterns 137 = .ok (.ladd, 1) := by decide +kernel
theorem dX10_patterns_138 : decode cX10_patterns 138 = .ok (.lstore 10, 2) := by decide +kernel
theorem dX10_patterns_140 : decode cX10_patterns 140 = .ok (.lload 12, 2) := by decide +kernel
theorem dX10_patterns_142 : decode cX10_patterns 142 = .ok (.ldc2_w 350, 3) := by decide +kernel
theorem dX10_patterns_145 : decode cX10_patterns 145 = .ok (.lmul, 1) := by decide +kernel
theorem dX10_patterns_146 : decode cX10_patterns 146 = .ok (.lstore 12, 2) := by decide +kernel
theorem dX10_patterns_148 : decode cX10_patterns 148 = .ok (.iload 9, 2) := by decide +kernel
theorem dX10_patterns_150 : decode cX10_patterns 150 = .ok (.iconst 3, 1) := by decide +kernel
theorem dX10_patterns_151 : decode cX10_patterns 151 = .ok (.idiv, 1) := by decide +kernel
theorem dX10_patterns_152 : decode cX10_patterns 152 = .ok (.istore 9, 2) := by decide +kernel
theorem dX10_patterns_154 : decode cX10_patterns 154 = .ok (.iinc 14 (-1), 3) := by decide +kernel
theorem dX10_patterns_157 : decode cX10_patterns 157 = .ok (.goto (-49), 3) := by decide +kernel
theorem dX10_patterns_160 : decode cX10_patterns 160 = .ok (.aload_n 0, 1) := by decide +kernel
theorem dX10_patterns_161 : decode cX10_patterns 161 = .ok (.invokevirtual 257, 3) := by decide +kernel
theorem dX10_patterns_164 : decode cX10_patterns 164 = .ok (.lstore 14, 2) := by decide +kernel
theorem dX10_patterns_166 : decode cX10_patterns 166 = .ok (.lload 4, 2) := by decide +kernel
theorem dX10_patterns_168 : decode cX10_patterns 168 = .ok (.lconst 0, 1) := by decide +kernel
theorem dX10_patterns_169 : decode cX10_patterns 169 = .ok (.lcmp, 1) := by decide +kernel
theorem dX10_patterns_170 : decode cX10_patterns 170 = .ok (.ifCond .lt 11, 3) := by decide +kernel
theorem dX10_patterns_173 : decode cX10_patterns 173 = .ok (.lload 14, 2) := by decide +kernel
theorem dX10_patterns_175 : decode cX10_patterns 175 = .ok (.lload 6, 2) := by decide +kernel
theorem dX10_patterns_177 : decode cX10_patterns 177 = .ok (.lcmp, 1) := by decide +kernel
theorem dX10_patterns_178 : decode cX10_patterns 178 = .ok (.ifCond .ge 11, 3) := by decide +kernel
theorem dX10_patterns_181 : decode cX10_patterns 181 = .ok (.lload 10, 2) := by decide +kernel
theorem dX10_patterns_183 : decode cX10_patterns 183 = .ok (.lstore 4, 2) := by decide +kernel
theorem dX10_patterns_185 : decode cX10_patterns 185 = .ok (.lload 14, 2) := by decide +kernel
theorem dX10_patterns_187 : decode cX10_patterns 187 = .ok (.lstore 6, 2) := by decide +kernel
theorem dX10_patterns_189 : decode cX10_patterns 189 = .ok (.iinc 8 1, 3) := by decide +kernel
theorem dX10_patterns_192 : decode cX10_patterns 192 = .ok (.goto (-105), 3) := by decide +kernel
theorem dX10_patterns_195 : decode cX10_patterns 195 = .ok (.iconst 0, 1) := by decide +kernel
theorem dX10_patterns_196 : decode cX10_patterns 196 = .ok (.istore 8, 2) := by decide +kernel
theorem dX10_patterns_198 : decode cX10_patterns 198 = .ok (.iload 8, 2) := by decide +kernel
theorem dX10_patterns_200 : decode cX10_patterns 200 = .ok (.bipush 8, 2) := by decide +kernel
theorem dX10_patterns_202 : decode cX10_patterns 202 = .ok (.if_icmp .ge 23, 3) := by decide +kernel
theorem dX10_patterns_205 : decode cX10_patterns 205 = .ok (.aload_n 0, 1) := by decide +kernel
theorem dX10_patterns_206 : decode cX10_patterns 206 = .ok (.getfield 41, 3) := by decide +kernel
theorem dX10_patterns_209 : decode cX10_patterns 209 = .ok (.iload 8, 2) := by decide +kernel
theorem dX10_patterns_211 : decode cX10_patterns 211 = .ok (.aload_n 0, 1) := by decide +kernel
theorem dX10_patterns_212 : decode cX10_patterns 212 = .ok (.getfield 138, 3) := by decide +kernel
theorem dX10_patterns_215 : decode cX10_patterns 215 = .ok (.iload 8, 2) := by decide +kernel
theorem dX10_patterns_217 : decode cX10_patterns 217 = .ok (.iaload, 1) := by decide +kernel
theorem dX10_patterns_218 : decode cX10_patterns 218 = .ok (.iastore, 1) := by decide +kernel
theorem dX10_patterns_219 : decode cX10_patterns 219 = .ok (.iinc 8 1, 3) := by decide +kernel
theorem dX10_patterns_222 : decode cX10_patterns 222 = .ok (.goto (-24), 3) := by decide +kernel
theorem dX10_patterns_225 : decode cX10_patterns 225 = .ok (.iload_n 1, 1) := by decide +kernel
theorem dX10_patterns_226 : decode cX10_patterns 226 = .ok (.ifCond .ne 8, 3) := by decide +kernel
theorem dX10_patterns_229 : decode cX10_patterns 229 = .ok (.lload 4, 2) := by decide +kernel
theorem dX10_patterns_231 : decode cX10_patterns 231 = .ok (.goto 5, 3) := by decide +kernel
theorem dX10_patterns_234 : decode cX10_patterns 234 = .ok (.lload 6, 2) := by decide +kernel
theorem dX10_patterns_236 : decode cX10_patterns 236 = .ok (.lreturn, 1) := by decide +kernel
theorem dX10_bench_0 : decode cX10_bench 0 = .ok (.aload_n 0, 1) := by decide +kernel
theorem dX10_bench_1 : decode cX10_bench 1 = .ok (.iload_n 1, 1) := by decide +kernel
theorem dX10_bench_2 : decode cX10_bench 2 = .ok (.invokevirtual 180, 3) := by decide +kernel
theorem dX10_bench_5 : decode cX10_bench 5 = .ok (.ifCond .eq 12, 3) := by decide +kernel
theorem dX10_bench_8 : decode cX10_bench 8 = .ok (.iload_n 2, 1) := by decide +kernel
theorem dX10_bench_9 : decode cX10_bench 9 = .ok (.iconst 0, 1) := by decide +kernel
theorem dX10_bench_10 : decode cX10_bench 10 = .ok (.iconst 3, 1) := by decide +kernel
theorem dX10_bench_11 : decode cX10_bench 11 = .ok (.invokestatic 162, 3) := by decide +kernel
theorem dX10_bench_14 : decode cX10_bench 14 = .ok (.ifCond .ne 7, 3) := by decide +kernel
theorem dX10_bench_17 : decode cX10_bench 17 = .ok (.ldc2_w 255, 3) := by decide +kernel
theorem dX10_bench_20 : decode cX10_bench 20 = .ok (.lreturn, 1) := by decide +kernel
theorem dX10_bench_21 : decode cX10_bench 21 = .ok (.aload_n 0, 1) := by decide +kernel
theorem dX10_bench_22 : decode cX10_bench 22 = .ok (.invokevirtual 257, 3) := by decide +kernel
theorem dX10_bench_25 : decode cX10_bench 25 = .ok (.lstore_n 3, 1) := by decide +kernel
theorem dX10_bench_26 : decode cX10_bench 26 = .ok (.iconst 0, 1) := by decide +kernel
theorem dX10_bench_27 : decode cX10_bench 27 = .ok (.istore 5, 2) := by decide +kernel
theorem dX10_bench_29 : decode cX10_bench 29 = .ok (.iload 5, 2) := by decide +kernel
theorem dX10_bench_31 : decode cX10_bench 31 = .ok (.aload_n 0, 1) := by decide +kernel
theorem dX10_bench_32 : decode cX10_bench 32 = .ok (.getfield 169, 3) := by decide +kernel
theorem dX10_bench_35 : decode cX10_bench 35 = .ok (.if_icmp .ge 23, 3) := by decide +kernel
theorem dX10_bench_38 : decode cX10_bench 38 = .ok (.aload_n 0, 1) := by decide +kernel
theorem dX10_bench_39 : decode cX10_bench 39 = .ok (.getfield 135, 3) := by decide +kernel
theorem dX10_bench_42 : decode cX10_bench 42 = .ok (.iload 5, 2) := by decide +kernel
theorem dX10_bench_44 : decode cX10_bench 44 = .ok (.aload_n 0, 1) := by decide +kernel
theorem dX10_bench_45 : decode cX10_bench 45 = .ok (.getfield 92, 3) := by decide +kernel
theorem dX10_bench_48 : decode cX10_bench 48 = .ok (.iload 5, 2) := by decide +kernel
theorem dX10_bench_50 : decode cX10_bench 50 = .ok (.iaload, 1) := by decide +kernel
theorem dX10_bench_51 : decode cX10_bench 51 = .ok (.iastore, 1) := by decide +kernel
theorem dX10_bench_52 : decode cX10_bench 52 = .ok (.iinc 5 1, 3) := by decide +kernel
theorem dX10_bench_55 : decode cX10_bench 55 = .ok (.goto (-26), 3) := by decide +kernel
theorem dX10_bench_58 : decode cX10_bench 58 = .ok (.aload_n 0, 1) := by decide +kernel
theorem dX10_bench_59 : decode cX10_bench 59 = .ok (.getfield 35, 3) := by decide +kernel
theorem dX10_bench_62 : decode cX10_bench 62 = .ok (.iload_n 1, 1) := by decide +kernel
theorem dX10_bench_63 : decode cX10_bench 63 = .ok (.iconst 1, 1) := by decide +kernel
theorem dX10_bench_64 : decode cX10_bench 64 = .ok (.aload_n 0, 1) := by decide +kernel
theorem dX10_bench_65 : decode cX10_bench 65 = .ok (.getfield 35, 3) := by decide +kernel
theorem dX10_bench_68 : decode cX10_bench 68 = .ok (.iload_n 1, 1) := by decide +kernel
theorem dX10_bench_69 : decode cX10_bench 69 = .ok (.iaload, 1) := by decide +kernel
theorem dX10_bench_70 : decode cX10_bench 70 = .ok (.isub, 1) := by decide +kernel
theorem dX10_bench_71 : decode cX10_bench 71 = .ok (.iastore, 1) := by decide +kernel
theorem dX10_bench_72 : decode cX10_bench 72 = .ok (.aload_n 0, 1) := by decide +kernel
theorem dX10_bench_73 : decode cX10_bench 73 = .ok (.invokevirtual 257, 3) := by decide +kernel
theorem dX10_bench_76 : decode cX10_bench 76 = .ok (.lstore 5, 2) := by decide +kernel
theorem dX10_bench_78 : decode cX10_bench 78 = .ok (.aload_n 0, 1) := by decide +kernel
theorem dX10_bench_79 : decode cX10_bench 79 = .ok (.getfield 35, 3) := by decide +kernel
theorem dX10_bench_82 : decode cX10_bench 82 = .ok (.iload_n 1, 1) := by decide +kernel
theorem dX10_bench_83 : decode cX10_bench 83 = .ok (.iconst 1, 1) := by decide +kernel
theorem dX10_bench_84 : decode cX10_bench 84 = .ok (.aload_n 0, 1) := by decide +kernel
theorem dX10_bench_85 : decode cX10_bench 85 = .ok (.getfield 35, 3) := by decide +kernel
theorem dX10_bench_88 : decode cX10_bench 88 = .ok (.iload_n 1, 1) := by decide +kernel
theorem dX10_bench_89 : decode cX10_bench 89 = .ok (.iaload, 1) := by decide +kernel
theorem dX10_bench_90 : decode cX10_bench 90 = .ok (.isub, 1) := by decide +kernel
theorem dX10_bench_91 : decode cX10_bench 91 = .ok (.iastore, 1) := by decide +kernel
theorem dX10_bench_92 : decode cX10_bench 92 = .ok (.iconst 0, 1) := by decide +kernel
theorem dX10_bench_93 : decode cX10_bench 93 = .ok (.istore 7, 2) := by decide +kernel
theorem dX10_bench_95 : decode cX10_bench 95 = .ok (.iconst 0, 1) := by decide +kernel
theorem dX10_bench_96 : decode cX10_bench 96 = .ok (.istore 8, 2) := by decide +kernel
theorem dX10_bench_98 : decode cX10_bench 98 = .ok (.iconst 0, 1) := by decide +kernel
theorem dX10_bench_99 : decode cX10_bench 99 = .ok (.istore 9, 2) := by decide +kernel
theorem dX10_bench_101 : decode cX10_bench 101 = .ok (.iconst 0, 1) := by decide +kernel
theorem dX10_bench_102 : decode cX10_bench 102 = .ok (.istore 10, 2) := by decide +kernel
theorem dX10_bench_104 : decode cX10_bench 104 = .ok (.iload 10, 2) := by decide +kernel
theorem dX10_bench_106 : decode cX10_bench 106 = .ok (.aload_n 0, 1) := by decide +kernel
theorem dX10_bench_107 : decode cX10_bench 107 = .ok (.getfield 169, 3) := by decide +kernel
theorem dX10_bench_110 : decode cX10_bench 110 = .ok (.if_icmp .ge 84, 3) := by decide +kernel
theorem dX10_bench_113 : decode cX10_bench 113 = .ok (.aload_n 0, 1) := by decide +kernel
theorem dX10_bench_114 : decode cX10_bench 114 = .ok (.getfield 92, 3) := by decide +kernel
theorem dX10_bench_117 : decode cX10_bench 117 = .ok (.iload 10, 2) := by decide +kernel
theorem dX10_bench_119 : decode cX10_bench 119 = .ok (.iaload, 1) := by decide +kernel
theorem dX10_bench_120 : decode cX10_bench 120 = .ok (.aload_n 0, 1) := by decide +kernel
theorem dX10_bench_121 : decode cX10_bench 121 = .ok (.getfield 135, 3) := by decide +kernel
theorem dX10_bench_124 : decode cX10_bench 124 = .ok (.iload 10, 2) := by decide +kernel
theorem dX10_bench_126 : decode cX10_bench 126 = .ok (.iaload, 1) := by decide +kernel
theorem dX10_bench_127 : decode cX10_bench 127 = .ok (.isub, 1) := by decide +kernel
theorem dX10_bench_128 : decode cX10_bench 128 = .ok (.istore 11, 2) := by decide +kernel
theorem dX10_bench_130 : decode cX10_bench 130 = .ok (.iload 7, 2) := by decide +kernel
theorem dX10_bench_132 : decode cX10_bench 132 = .ok (.iload 11, 2) := by decide +kernel
theorem dX10_bench_134 : decode cX10_bench 134 = .ok (.ifCond .le 13, 3) := by decide +kernel
theorem dX10_bench_137 : decode cX10_bench 137 = .ok (.aload_n 0, 1) := by decide +kernel
theorem dX10_bench_138 : decode cX10_bench 138 = .ok (.getfield 50, 3) := by decide +kernel
theorem dX10_bench_141 : decode cX10_bench 141 = .ok (.iload 10, 2) := by decide +kernel
theorem dX10_bench_143 : decode cX10_bench 143 = .ok (.iaload, 1) := by decide +kernel
theorem dX10_bench_144 : decode cX10_bench 144 = .ok (.goto 4, 3) := by decide +kernel
theorem dX10_bench_147 : decode cX10_bench 147 = .ok (.iconst 0, 1) := by decide +kernel
theorem dX10_bench_148 : decode cX10_bench 148 = .ok (.iadd, 1) := by decide +kernel
theorem dX10_bench_149 : decode cX10_bench 149 = .ok (.istore 7, 2) := by decide +kernel
theorem dX10_bench_151 : decode cX10_bench 151 = .ok (.iload 8, 2) := by decide +kernel
theorem dX10_bench_153 : decode cX10_bench 153 = .ok (.iload 11, 2) := by decide +kernel
theorem dX10_bench_155 : decode cX10_bench 155 = .ok (.ifCond .ge 13, 3) := by decide +kernel
theorem dX10_bench_158 : decode cX10_bench 158 = .ok (.aload_n 0, 1) := by decide +kernel
theorem dX10_bench_159 : decode cX10_bench 159 = .ok (.getfield 50, 3) := by decide +kernel
theorem dX10_bench_162 : decode cX10_bench 162 = .ok (.iload 10, 2) := by decide +kernel
theorem dX10_bench_164 : decode cX10_bench 164 = .ok (.iaload, 1) := by decide +kernel
theorem dX10_bench_165 : decode cX10_bench 165 = .ok (.goto 4, 3) := by decide +kernel
theorem dX10_bench_168 : decode cX10_bench 168 = .ok (.iconst 0, 1) := by decide +kernel
theorem dX10_bench_169 : decode cX10_bench 169 = .ok (.iadd, 1) := by decide +kernel
theorem dX10_bench_170 : decode cX10_bench 170 = .ok (.istore 8, 2) := by decide +kernel
theorem dX10_bench_172 : decode cX10_bench 172 = .ok (.iload 11, 2) := by decide +kernel
theorem dX10_bench_174 : decode cX10_bench 174 = .ok (.iload 9, 2) := by decide +kernel
theorem dX10_bench_176 : decode cX10_bench 176 = .ok (.if_icmp .le 8, 3) := by decide +kernel
theorem dX10_bench_179 : decode cX10_bench 179 = .ok (.iload 11, 2) := by decide +kernel
theorem dX10_bench_181 : decode cX10_bench 181 = .ok (.goto 5, 3) := by decide +kernel
theorem dX10_bench_184 : decode cX10_bench 184 = .ok (.iload 9, 2) := by decide +kernel
theorem dX10_bench_186 : decode cX10_bench 186 = .ok (.istore 9, 2) := by decide +kernel
theorem dX10_bench_188 : decode cX10_bench 188 = .ok (.iinc 10 1, 3) := by decide +kernel
theorem dX10_bench_191 : decode cX10_bench 191 = .ok (.goto (-87), 3) := by decide +kernel
theorem dX10_bench_194 : decode cX10_bench 194 = .ok (.iload_n 2, 1) := by decide +kernel
theorem dX10_bench_195 : decode cX10_bench 195 = .ok (.ifCond .ne 10, 3) := by decide +kernel
theorem dX10_bench_198 : decode cX10_bench 198 = .ok (.lload 5, 2) := by decide +kernel
theorem dX10_bench_200 : decode cX10_bench 200 = .ok (.lload_n 3, 1) := by decide +kernel
theorem dX10_bench_201 : decode cX10_bench 201 = .ok (.lsub, 1) := by decide +kernel
theorem dX10_bench_202 : decode cX10_bench 202 = .ok (.goto 28, 3) := by decide +kernel
theorem dX10_bench_205 : decode cX10_bench 205 = .ok (.iload_n 2, 1) := by decide +kernel
theorem dX10_bench_206 : decode cX10_bench 206 = .ok (.iconst 1, 1) := by decide +kernel
theorem dX10_bench_207 : decode cX10_bench 207 = .ok (.if_icmp .ne 9, 3) := by decide +kernel
theorem dX10_bench_210 : decode cX10_bench 210 = .ok (.iload 7, 2) := by decide +kernel
theorem dX10_bench_212 : decode cX10_bench 212 = .ok (.i2l, 1) := by decide +kernel
theorem dX10_bench_213 : decode cX10_bench 213 = .ok (.goto 17, 3) := by decide +kernel
theorem dX10_bench_216 : decode cX10_bench 216 = .ok (.iload_n 2, 1) := by decide +kernel
theorem dX10_bench_217 : decode cX10_bench 217 = .ok (.iconst 2, 1) := by decide +kernel
theorem dX10_bench_218 : decode cX10_bench 218 = .ok (.if_icmp .ne 9, 3) := by decide +kernel
theorem dX10_bench_221 : decode cX10_bench 221 = .ok (.iload 8, 2) := by decide +kernel
theorem dX10_bench_223 : decode cX10_bench 223 = .ok (.i2l, 1) := by decide +kernel
theorem dX10_bench_224 : decode cX10_bench 224 = .ok (.goto 6, 3) := by decide +kernel
theorem dX10_bench_227 : decode cX10_bench 227 = .ok (.iload 9, 2) := by decide +kernel
theorem dX10_bench_229 : decode cX10_bench 229 = .ok (.i2l, 1) := by decide +kernel
theorem dX10_bench_230 : decode cX10_bench 230 = .ok (.lreturn, 1) := by decide +kernel
theorem dX10_givesUp_0 : decode cX10_givesUp 0 = .ok (.iconst (-1), 1) := by decide +kernel
theorem dX10_givesUp_1 : decode cX10_givesUp 1 = .ok (.istore_n 1, 1) := by decide +kernel
theorem dX10_givesUp_2 : decode cX10_givesUp 2 = .ok (.iconst 0, 1) := by decide +kernel
theorem dX10_givesUp_3 : decode cX10_givesUp 3 = .ok (.istore_n 2, 1) := by decide +kernel
theorem dX10_givesUp_4 : decode cX10_givesUp 4 = .ok (.iload_n 2, 1) := by decide +kernel
theorem dX10_givesUp_5 : decode cX10_givesUp 5 = .ok (.aload_n 0, 1) := by decide +kernel
theorem dX10_givesUp_6 : decode cX10_givesUp 6 = .ok (.getfield 166, 3) := by decide +kernel
theorem dX10_givesUp_9 : decode cX10_givesUp 9 = .ok (.if_icmp .ge 59, 3) := by decide +kernel
theorem dX10_givesUp_12 : decode cX10_givesUp 12 = .ok (.aload_n 0, 1) := by decide +kernel
theorem dX10_givesUp_13 : decode cX10_givesUp 13 = .ok (.getfield 35, 3) := by decide +kernel
theorem dX10_givesUp_16 : decode cX10_givesUp 16 = .ok (.iload_n 2, 1) := by decide +kernel
theorem dX10_givesUp_17 : decode cX10_givesUp 17 = .ok (.iaload, 1) := by decide +kernel
theorem dX10_givesUp_18 : decode cX10_givesUp 18 = .ok (.iconst 1, 1) := by decide +kernel
theorem dX10_givesUp_19 : decode cX10_givesUp 19 = .ok (.if_icmp .ne 43, 3) := by decide +kernel
theorem dX10_givesUp_22 : decode cX10_givesUp 22 = .ok (.aload_n 0, 1) := by decide +kernel
theorem dX10_givesUp_23 : decode cX10_givesUp 23 = .ok (.getfield 35, 3) := by decide +kernel
theorem dX10_givesUp_26 : decode cX10_givesUp 26 = .ok (.iload_n 2, 1) := by decide +kernel
theorem dX10_givesUp_27 : decode cX10_givesUp 27 = .ok (.iconst 0, 1) := by decide +kernel
theorem dX10_givesUp_28 : decode cX10_givesUp 28 = .ok (.iastore, 1) := by decide +kernel
theorem dX10_givesUp_29 : decode cX10_givesUp 29 = .ok (.aload_n 0, 1) := by decide +kernel
theorem dX10_givesUp_30 : decode cX10_givesUp 30 = .ok (.invokevirtual 257, 3) := by decide +kernel
theorem dX10_givesUp_33 : decode cX10_givesUp 33 = .ok (.lstore_n 3, 1) := by decide +kernel
theorem dX10_givesUp_34 : decode cX10_givesUp 34 = .ok (.aload_n 0, 1) := by decide +kernel
theorem dX10_givesUp_35 : decode cX10_givesUp 35 = .ok (.getfield 35, 3) := by decide +kernel
theorem dX10_givesUp_38 : decode cX10_givesUp 38 = .ok (.iload_n 2, 1) := by decide +kernel
theorem dX10_givesUp_39 : decode cX10_givesUp 39 = .ok (.iconst 1, 1) := by decide +kernel
theorem dX10_givesUp_40 : decode cX10_givesUp 40 = .ok (.iastore, 1) := by decide +kernel
theorem dX10_givesUp_41 : decode cX10_givesUp 41 = .ok (.iload_n 1, 1) := by decide +kernel
theorem dX10_givesUp_42 : decode cX10_givesUp 42 = .ok (.iconst (-1), 1) := by decide +kernel
theorem dX10_givesUp_43 : decode cX10_givesUp 43 = .ok (.if_icmp .eq 12, 3) := by decide +kernel
theorem dX10_givesUp_46 : decode cX10_givesUp 46 = .ok (.lload_n 3, 1) := by decide +kernel
theorem dX10_givesUp_47 : decode cX10_givesUp 47 = .ok (.aload_n 0, 1) := by decide +kernel
theorem dX10_givesUp_48 : decode cX10_givesUp 48 = .ok (.getfield 352, 3) := by decide +kernel
theorem dX10_givesUp_51 : decode cX10_givesUp 51 = .ok (.lcmp, 1) := by decide +kernel
theorem dX10_givesUp_52 : decode cX10_givesUp 52 = .ok (.ifCond .ge 10, 3) := by decide +kernel
theorem dX10_givesUp_55 : decode cX10_givesUp 55 = .ok (.iload_n 2, 1) := by decide +kernel
theorem dX10_givesUp_56 : decode cX10_givesUp 56 = .ok (.istore_n 1, 1) := by decide +kernel
theorem dX10_givesUp_57 : decode cX10_givesUp 57 = .ok (.aload_n 0, 1) := by decide +kernel
theorem dX10_givesUp_58 : decode cX10_givesUp 58 = .ok (.lload_n 3, 1) := by decide +kernel
theorem dX10_givesUp_59 : decode cX10_givesUp 59 = .ok (.putfield 352, 3) := by decide +kernel
theorem dX10_givesUp_62 : decode cX10_givesUp 62 = .ok (.iinc 2 1, 3) := by decide +kernel
theorem dX10_givesUp_65 : decode cX10_givesUp 65 = .ok (.goto (-61), 3) := by decide +kernel
theorem dX10_givesUp_68 : decode cX10_givesUp 68 = .ok (.iload_n 1, 1) := by decide +kernel
theorem dX10_givesUp_69 : decode cX10_givesUp 69 = .ok (.ireturn, 1) := by decide +kernel
theorem dX10_give_0 : decode cX10_give 0 = .ok (.aload_n 0, 1) := by decide +kernel
theorem dX10_give_1 : decode cX10_give 1 = .ok (.invokevirtual 355, 3) := by decide +kernel
theorem dX10_give_4 : decode cX10_give 4 = .ok (.ireturn, 1) := by decide +kernel
theorem dX10_order_0 : decode cX10_order 0 = .ok (.iload_n 1, 1) := by decide +kernel
theorem dX10_order_1 : decode cX10_order 1 = .ok (.iconst 0, 1) := by decide +kernel
theorem dX10_order_2 : decode cX10_order 2 = .ok (.bipush 8, 2) := by decide +kernel
theorem dX10_order_4 : decode cX10_order 4 = .ok (.invokestatic 162, 3) := by decide +kernel
theorem dX10_order_7 : decode cX10_order 7 = .ok (.ifCond .ne 6, 3) := by decide +kernel
theorem dX10_order_10 : decode cX10_order 10 = .ok (.bipush (-2), 2) := by decide +kernel
theorem dX10_order_12 : decode cX10_order 12 = .ok (.ireturn, 1) := by decide +kernel
theorem dX10_order_13 : decode cX10_order 13 = .ok (.aload_n 0, 1) := by decide +kernel
theorem dX10_order_14 : decode cX10_order 14 = .ok (.invokevirtual 322, 3) := by decide +kernel
theorem dX10_order_17 : decode cX10_order 17 = .ok (.iconst 0, 1) := by decide +kernel
theorem dX10_order_18 : decode cX10_order 18 = .ok (.istore_n 2, 1) := by decide +kernel
theorem dX10_order_19 : decode cX10_order 19 = .ok (.iconst 0, 1) := by decide +kernel
theorem dX10_order_20 : decode cX10_order 20 = .ok (.istore_n 3, 1) := by decide +kernel
theorem dX10_order_21 : decode cX10_order 21 = .ok (.iload_n 3, 1) := by decide +kernel
theorem dX10_order_22 : decode cX10_order 22 = .ok (.iload_n 1, 1) := by decide +kernel
theorem dX10_order_23 : decode cX10_order 23 = .ok (.if_icmp .ge 39, 3) := by decide +kernel
theorem dX10_order_26 : decode cX10_order 26 = .ok (.aload_n 0, 1) := by decide +kernel
theorem dX10_order_27 : decode cX10_order 27 = .ok (.invokevirtual 355, 3) := by decide +kernel
theorem dX10_order_30 : decode cX10_order 30 = .ok (.istore 4, 2) := by decide +kernel
theorem dX10_order_32 : decode cX10_order 32 = .ok (.iload 4, 2) := by decide +kernel
theorem dX10_order_34 : decode cX10_order 34 = .ok (.iconst (-1), 1) := by decide +kernel
theorem dX10_order_35 : decode cX10_order 35 = .ok (.if_icmp .eq 21, 3) := by decide +kernel
theorem dX10_order_38 : decode cX10_order 38 = .ok (.aload_n 0, 1) := by decide +kernel
theorem dX10_order_39 : decode cX10_order 39 = .ok (.getfield 35, 3) := by decide +kernel
theorem dX10_order_42 : decode cX10_order 42 = .ok (.iload 4, 2) := by decide +kernel
theorem dX10_order_44 : decode cX10_order 44 = .ok (.iconst 0, 1) := by decide +kernel
theorem dX10_order_45 : decode cX10_order 45 = .ok (.iastore, 1) := by decide +kernel
theorem dX10_order_46 : decode cX10_order 46 = .ok (.bipush 10, 2) := by decide +kernel
theorem dX10_order_48 : decode cX10_order 48 = .ok (.iload_n 2, 1) := by decide +kernel
theorem dX10_order_49 : decode cX10_order 49 = .ok (.imul, 1) := by decide +kernel
theorem dX10_order_50 : decode cX10_order 50 = .ok (.iload 4, 2) := by decide +kernel
theorem dX10_order_52 : decode cX10_order 52 = .ok (.iadd, 1) := by decide +kernel
theorem dX10_order_53 : decode cX10_order 53 = .ok (.iconst 1, 1) := by decide +kernel
theorem dX10_order_54 : decode cX10_order 54 = .ok (.iadd, 1) := by decide +kernel
theorem dX10_order_55 : decode cX10_order 55 = .ok (.istore_n 2, 1) := by decide +kernel
theorem dX10_order_56 : decode cX10_order 56 = .ok (.iinc 3 1, 3) := by decide +kernel
theorem dX10_order_59 : decode cX10_order 59 = .ok (.goto (-38), 3) := by decide +kernel
theorem dX10_order_62 : decode cX10_order 62 = .ok (.aload_n 0, 1) := by decide +kernel
theorem dX10_order_63 : decode cX10_order 63 = .ok (.invokevirtual 339, 3) := by decide +kernel
theorem dX10_order_66 : decode cX10_order 66 = .ok (.iload_n 2, 1) := by decide +kernel
theorem dX10_order_67 : decode cX10_order 67 = .ok (.ireturn, 1) := by decide +kernel
theorem dX10_thins_0 : decode cX10_thins 0 = .ok (.iconst 0, 1) := by decide +kernel
theorem dX10_thins_1 : decode cX10_thins 1 = .ok (.istore_n 1, 1) := by decide +kernel
theorem dX10_thins_2 : decode cX10_thins 2 = .ok (.aload_n 0, 1) := by decide +kernel
theorem dX10_thins_3 : decode cX10_thins 3 = .ok (.invokevirtual 355, 3) := by decide +kernel
theorem dX10_thins_6 : decode cX10_thins 6 = .ok (.istore_n 2, 1) := by decide +kernel
theorem dX10_thins_7 : decode cX10_thins 7 = .ok (.iload_n 2, 1) := by decide +kernel
theorem dX10_thins_8 : decode cX10_thins 8 = .ok (.iconst (-1), 1) := by decide +kernel
theorem dX10_thins_9 : decode cX10_thins 9 = .ok (.if_icmp .eq 33, 3) := by decide +kernel
theorem dX10_thins_12 : decode cX10_thins 12 = .ok (.aload_n 0, 1) := by decide +kernel
theorem dX10_thins_13 : decode cX10_thins 13 = .ok (.getfield 352, 3) := by decide +kernel
theorem dX10_thins_16 : decode cX10_thins 16 = .ok (.aload_n 0, 1) := by decide +kernel
theorem dX10_thins_17 : decode cX10_thins 17 = .ok (.invokevirtual 257, 3) := by decide +kernel
theorem dX10_thins_20 : decode cX10_thins 20 = .ok (.lcmp, 1) := by decide +kernel
theorem dX10_thins_21 : decode cX10_thins 21 = .ok (.ifCond .gt 21, 3) := by decide +kernel
theorem dX10_thins_24 : decode cX10_thins 24 = .ok (.aload_n 0, 1) := by decide +kernel
theorem dX10_thins_25 : decode cX10_thins 25 = .ok (.getfield 35, 3) := by decide +kernel
theorem dX10_thins_28 : decode cX10_thins 28 = .ok (.iload_n 2, 1) := by decide +kernel
theorem dX10_thins_29 : decode cX10_thins 29 = .ok (.iconst 0, 1) := by decide +kernel
theorem dX10_thins_30 : decode cX10_thins 30 = .ok (.iastore, 1) := by decide +kernel
theorem dX10_thins_31 : decode cX10_thins 31 = .ok (.iinc 1 1, 3) := by decide +kernel
theorem dX10_thins_34 : decode cX10_thins 34 = .ok (.aload_n 0, 1) := by decide +kernel
theorem dX10_thins_35 : decode cX10_thins 35 = .ok (.invokevirtual 355, 3) := by decide +kernel
theorem dX10_thins_38 : decode cX10_thins 38 = .ok (.istore_n 2, 1) := by decide +kernel
theorem dX10_thins_39 : decode cX10_thins 39 = .ok (.goto (-32), 3) := by decide +kernel
theorem dX10_thins_42 : decode cX10_thins 42 = .ok (.iload_n 1, 1) := by decide +kernel
theorem dX10_thins_43 : decode cX10_thins 43 = .ok (.ireturn, 1) := by decide +kernel
theorem dX10_across_0 : decode cX10_across 0 = .ok (.aload_n 0, 1) := by decide +kernel
theorem dX10_across_1 : decode cX10_across 1 = .ok (.iload_n 1, 1) := by decide +kernel
theorem dX10_across_2 : decode cX10_across 2 = .ok (.invokevirtual 180, 3) := by decide +kernel
theorem dX10_across_5 : decode cX10_across 5 = .ok (.ifCond .eq 13, 3) := by decide +kernel
theorem dX10_across_8 : decode cX10_across 8 = .ok (.aload_n 0, 1) := by decide +kernel
theorem dX10_across_9 : decode cX10_across 9 = .ok (.getfield 23, 3) := by decide +kernel
theorem dX10_across_12 : decode cX10_across 12 = .ok (.iload_n 1, 1) := by decide +kernel
theorem dX10_across_13 : decode cX10_across 13 = .ok (.iaload, 1) := by decide +kernel
theorem dX10_across_14 : decode cX10_across 14 = .ok (.iconst 3, 1) := by decide +kernel
theorem dX10_across_15 : decode cX10_across 15 = .ok (.if_icmp .eq 7, 3) := by decide +kernel
theorem dX10_across_18 : decode cX10_across 18 = .ok (.ldc2_w 255, 3) := by decide +kernel
theorem dX10_across_21 : decode cX10_across 21 = .ok (.lreturn, 1) := by decide +kernel
theorem dX10_across_22 : decode cX10_across 22 = .ok (.aload_n 0, 1) := by decide +kernel
theorem dX10_across_23 : decode cX10_across 23 = .ok (.invokevirtual 257, 3) := by decide +kernel
theorem dX10_across_26 : decode cX10_across 26 = .ok (.lstore_n 2, 1) := by decide +kernel
theorem dX10_across_27 : decode cX10_across 27 = .ok (.aload_n 0, 1) := by decide +kernel
theorem dX10_across_28 : decode cX10_across 28 = .ok (.getfield 23, 3) := by decide +kernel
theorem dX10_across_31 : decode cX10_across 31 = .ok (.iload_n 1, 1) := by decide +kernel
theorem dX10_across_32 : decode cX10_across 32 = .ok (.iconst 0, 1) := by decide +kernel
theorem dX10_across_33 : decode cX10_across 33 = .ok (.iastore, 1) := by decide +kernel
theorem dX10_across_34 : decode cX10_across 34 = .ok (.lload_n 2, 1) := by decide +kernel
theorem dX10_across_35 : decode cX10_across 35 = .ok (.aload_n 0, 1) := by decide +kernel
theorem dX10_across_36 : decode cX10_across 36 = .ok (.invokevirtual 257, 3) := by decide +kernel
theorem dX10_across_39 : decode cX10_across 39 = .ok (.lsub, 1) := by decide +kernel
theorem dX10_across_40 : decode cX10_across 40 = .ok (.lstore_n 2, 1) := by decide +kernel
theorem dX10_across_41 : decode cX10_across 41 = .ok (.aload_n 0, 1) := by decide +kernel
theorem dX10_across_42 : decode cX10_across 42 = .ok (.getfield 23, 3) := by decide +kernel
theorem dX10_across_45 : decode cX10_across 45 = .ok (.iload_n 1, 1) := by decide +kernel
theorem dX10_across_46 : decode cX10_across 46 = .ok (.iconst 3, 1) := by decide +kernel
theorem dX10_across_47 : decode cX10_across 47 = .ok (.iastore, 1) := by decide +kernel
theorem dX10_across_48 : decode cX10_across 48 = .ok (.lload_n 2, 1) := by decide +kernel
theorem dX10_across_49 : decode cX10_across 49 = .ok (.lreturn, 1) := by decide +kernel
theorem dX10_homesNow_0 : decode cX10_homesNow 0 = .ok (.iconst 0, 1) := by decide +kernel
theorem dX10_homesNow_1 : decode cX10_homesNow 1 = .ok (.istore_n 1, 1) := by decide +kernel
theorem dX10_homesNow_2 : decode cX10_homesNow 2 = .ok (.iconst 0, 1) := by decide +kernel
theorem dX10_homesNow_3 : decode cX10_homesNow 3 = .ok (.istore_n 2, 1) := by decide +kernel
theorem dX10_homesNow_4 : decode cX10_homesNow 4 = .ok (.iload_n 2, 1) := by decide +kernel
theorem dX10_homesNow_5 : decode cX10_homesNow 5 = .ok (.aload_n 0, 1) := by decide +kernel
theorem dX10_homesNow_6 : decode cX10_homesNow 6 = .ok (.getfield 169, 3) := by decide +kernel
theorem dX10_homesNow_9 : decode cX10_homesNow 9 = .ok (.if_icmp .ge 64, 3) := by decide +kernel
theorem dX10_homesNow_12 : decode cX10_homesNow 12 = .ok (.aload_n 0, 1) := by decide +kernel
theorem dX10_homesNow_13 : decode cX10_homesNow 13 = .ok (.iload_n 2, 1) := by decide +kernel
theorem dX10_homesNow_14 : decode cX10_homesNow 14 = .ok (.invokevirtual 242, 3) := by decide +kernel
theorem dX10_homesNow_17 : decode cX10_homesNow 17 = .ok (.aload_n 0, 1) := by decide +kernel
theorem dX10_homesNow_18 : decode cX10_homesNow 18 = .ok (.aload_n 0, 1) := by decide +kernel
theorem dX10_homesNow_19 : decode cX10_homesNow 19 = .ok (.getfield 217, 3) := by decide +kernel
theorem dX10_homesNow_22 : decode cX10_homesNow 22 = .ok (.aload_n 0, 1) := by decide +kernel
theorem dX10_homesNow_23 : decode cX10_homesNow 23 = .ok (.getfield 226, 3) := by decide +kernel
theorem dX10_homesNow_26 : decode cX10_homesNow 26 = .ok (.aload_n 0, 1) := by decide +kernel
theorem dX10_homesNow_27 : decode cX10_homesNow 27 = .ok (.getfield 229, 3) := by decide +kernel
theorem dX10_homesNow_30 : decode cX10_homesNow 30 = .ok (.aload_n 0, 1) := by decide +kernel
theorem dX10_homesNow_31 : decode cX10_homesNow 31 = .ok (.getfield 232, 3) := by decide +kernel
theorem dX10_homesNow_34 : decode cX10_homesNow 34 = .ok (.invokevirtual 358, 3) := by decide +kernel
theorem dX10_homesNow_37 : decode cX10_homesNow 37 = .ok (.iload_n 1, 1) := by decide +kernel
theorem dX10_homesNow_38 : decode cX10_homesNow 38 = .ok (.aload_n 0, 1) := by decide +kernel
theorem dX10_homesNow_39 : decode cX10_homesNow 39 = .ok (.iconst 0, 1) := by decide +kernel
theorem dX10_homesNow_40 : decode cX10_homesNow 40 = .ok (.aload_n 0, 1) := by decide +kernel
theorem dX10_homesNow_41 : decode cX10_homesNow 41 = .ok (.getfield 50, 3) := by decide +kernel
theorem dX10_homesNow_44 : decode cX10_homesNow 44 = .ok (.iload_n 2, 1) := by decide +kernel
theorem dX10_homesNow_45 : decode cX10_homesNow 45 = .ok (.iaload, 1) := by decide +kernel
theorem dX10_homesNow_46 : decode cX10_homesNow 46 = .ok (.aload_n 0, 1) := by decide +kernel
