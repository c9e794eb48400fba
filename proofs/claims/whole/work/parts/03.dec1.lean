theorem dX9_told_114 : decode cX9_told 114 = .ok (.bipush (-7), 2) := by decide +kernel
theorem dX9_told_116 : decode cX9_told 116 = .ok (.ireturn, 1) := by decide +kernel
theorem dX9_trip_0 : decode cX9_trip 0 = .ok (.iload_n 1, 1) := by decide +kernel
theorem dX9_trip_1 : decode cX9_trip 1 = .ok (.invokestatic 141, 3) := by decide +kernel
theorem dX9_trip_4 : decode cX9_trip 4 = .ok (.ifCond .eq 28, 3) := by decide +kernel
theorem dX9_trip_7 : decode cX9_trip 7 = .ok (.iload_n 2, 1) := by decide +kernel
theorem dX9_trip_8 : decode cX9_trip 8 = .ok (.invokestatic 141, 3) := by decide +kernel
theorem dX9_trip_11 : decode cX9_trip 11 = .ok (.ifCond .eq 21, 3) := by decide +kernel
theorem dX9_trip_14 : decode cX9_trip 14 = .ok (.iload_n 3, 1) := by decide +kernel
theorem dX9_trip_15 : decode cX9_trip 15 = .ok (.iconst 1, 1) := by decide +kernel
theorem dX9_trip_16 : decode cX9_trip 16 = .ok (.bipush 99, 2) := by decide +kernel
theorem dX9_trip_18 : decode cX9_trip 18 = .ok (.invokestatic 111, 3) := by decide +kernel
theorem dX9_trip_21 : decode cX9_trip 21 = .ok (.ifCond .eq 11, 3) := by decide +kernel
theorem dX9_trip_24 : decode cX9_trip 24 = .ok (.iload 4, 2) := by decide +kernel
theorem dX9_trip_26 : decode cX9_trip 26 = .ok (.invokestatic 121, 3) := by decide +kernel
theorem dX9_trip_29 : decode cX9_trip 29 = .ok (.ifCond .ne 6, 3) := by decide +kernel
theorem dX9_trip_32 : decode cX9_trip 32 = .ok (.bipush (-2), 2) := by decide +kernel
theorem dX9_trip_34 : decode cX9_trip 34 = .ok (.ireturn, 1) := by decide +kernel
theorem dX9_trip_35 : decode cX9_trip 35 = .ok (.aload_n 0, 1) := by decide +kernel
theorem dX9_trip_36 : decode cX9_trip 36 = .ok (.getfield 10, 3) := by decide +kernel
theorem dX9_trip_39 : decode cX9_trip 39 = .ok (.getfield 197, 3) := by decide +kernel
theorem dX9_trip_42 : decode cX9_trip 42 = .ok (.bipush 8, 2) := by decide +kernel
theorem dX9_trip_44 : decode cX9_trip 44 = .ok (.if_icmp .lt 6, 3) := by decide +kernel
theorem dX9_trip_47 : decode cX9_trip 47 = .ok (.bipush (-4), 2) := by decide +kernel
theorem dX9_trip_49 : decode cX9_trip 49 = .ok (.ireturn, 1) := by decide +kernel
theorem dX9_trip_50 : decode cX9_trip 50 = .ok (.aload_n 0, 1) := by decide +kernel
theorem dX9_trip_51 : decode cX9_trip 51 = .ok (.getfield 10, 3) := by decide +kernel
theorem dX9_trip_54 : decode cX9_trip 54 = .ok (.getfield 200, 3) := by decide +kernel
theorem dX9_trip_57 : decode cX9_trip 57 = .ok (.aload_n 0, 1) := by decide +kernel
theorem dX9_trip_58 : decode cX9_trip 58 = .ok (.getfield 10, 3) := by decide +kernel
theorem dX9_trip_61 : decode cX9_trip 61 = .ok (.getfield 197, 3) := by decide +kernel
theorem dX9_trip_64 : decode cX9_trip 64 = .ok (.aaload, 1) := by decide +kernel
theorem dX9_trip_65 : decode cX9_trip 65 = .ok (.iload_n 1, 1) := by decide +kernel
theorem dX9_trip_66 : decode cX9_trip 66 = .ok (.iload_n 2, 1) := by decide +kernel
theorem dX9_trip_67 : decode cX9_trip 67 = .ok (.iload_n 3, 1) := by decide +kernel
theorem dX9_trip_68 : decode cX9_trip 68 = .ok (.iload 4, 2) := by decide +kernel
theorem dX9_trip_70 : decode cX9_trip 70 = .ok (.invokevirtual 204, 3) := by decide +kernel
theorem dX9_trip_73 : decode cX9_trip 73 = .ok (.aload_n 0, 1) := by decide +kernel
theorem dX9_trip_74 : decode cX9_trip 74 = .ok (.getfield 10, 3) := by decide +kernel
theorem dX9_trip_77 : decode cX9_trip 77 = .ok (.dup, 1) := by decide +kernel
theorem dX9_trip_78 : decode cX9_trip 78 = .ok (.getfield 197, 3) := by decide +kernel
theorem dX9_trip_81 : decode cX9_trip 81 = .ok (.iconst 1, 1) := by decide +kernel
theorem dX9_trip_82 : decode cX9_trip 82 = .ok (.iadd, 1) := by decide +kernel
theorem dX9_trip_83 : decode cX9_trip 83 = .ok (.putfield 197, 3) := by decide +kernel
theorem dX9_trip_86 : decode cX9_trip 86 = .ok (.aload_n 0, 1) := by decide +kernel
theorem dX9_trip_87 : decode cX9_trip 87 = .ok (.getfield 10, 3) := by decide +kernel
theorem dX9_trip_90 : decode cX9_trip 90 = .ok (.getfield 197, 3) := by decide +kernel
theorem dX9_trip_93 : decode cX9_trip 93 = .ok (.iconst 1, 1) := by decide +kernel
theorem dX9_trip_94 : decode cX9_trip 94 = .ok (.isub, 1) := by decide +kernel
theorem dX9_trip_95 : decode cX9_trip 95 = .ok (.ireturn, 1) := by decide +kernel
theorem dX9_count_0 : decode cX9_count 0 = .ok (.iload_n 1, 1) := by decide +kernel
theorem dX9_count_1 : decode cX9_count 1 = .ok (.tableswitch 108 0 7 #[47, 55, 63, 74, 79, 84, 92, 100], 47) := by decide +kernel
theorem dX9_count_48 : decode cX9_count 48 = .ok (.aload_n 0, 1) := by decide +kernel
theorem dX9_count_49 : decode cX9_count 49 = .ok (.getfield 10, 3) := by decide +kernel
theorem dX9_count_52 : decode cX9_count 52 = .ok (.getfield 151, 3) := by decide +kernel
theorem dX9_count_55 : decode cX9_count 55 = .ok (.ireturn, 1) := by decide +kernel
theorem dX9_count_56 : decode cX9_count 56 = .ok (.aload_n 0, 1) := by decide +kernel
theorem dX9_count_57 : decode cX9_count 57 = .ok (.getfield 10, 3) := by decide +kernel
theorem dX9_count_60 : decode cX9_count 60 = .ok (.getfield 197, 3) := by decide +kernel
theorem dX9_count_63 : decode cX9_count 63 = .ok (.ireturn, 1) := by decide +kernel
theorem dX9_count_64 : decode cX9_count 64 = .ok (.aload_n 0, 1) := by decide +kernel
theorem dX9_count_65 : decode cX9_count 65 = .ok (.getfield 10, 3) := by decide +kernel
theorem dX9_count_68 : decode cX9_count 68 = .ok (.invokevirtual 207, 3) := by decide +kernel
theorem dX9_count_71 : decode cX9_count 71 = .ok (.invokestatic 210, 3) := by decide +kernel
theorem dX9_count_74 : decode cX9_count 74 = .ok (.ireturn, 1) := by decide +kernel
theorem dX9_count_75 : decode cX9_count 75 = .ok (.aload_n 0, 1) := by decide +kernel
theorem dX9_count_76 : decode cX9_count 76 = .ok (.getfield 47, 3) := by decide +kernel
theorem dX9_count_79 : decode cX9_count 79 = .ok (.ireturn, 1) := by decide +kernel
theorem dX9_count_80 : decode cX9_count 80 = .ok (.aload_n 0, 1) := by decide +kernel
theorem dX9_count_81 : decode cX9_count 81 = .ok (.getfield 51, 3) := by decide +kernel
theorem dX9_count_84 : decode cX9_count 84 = .ok (.ireturn, 1) := by decide +kernel
theorem dX9_count_85 : decode cX9_count 85 = .ok (.aload_n 0, 1) := by decide +kernel
theorem dX9_count_86 : decode cX9_count 86 = .ok (.getfield 28, 3) := by decide +kernel
theorem dX9_count_89 : decode cX9_count 89 = .ok (.getfield 108, 3) := by decide +kernel
theorem dX9_count_92 : decode cX9_count 92 = .ok (.ireturn, 1) := by decide +kernel
theorem dX9_count_93 : decode cX9_count 93 = .ok (.aload_n 0, 1) := by decide +kernel
theorem dX9_count_94 : decode cX9_count 94 = .ok (.getfield 10, 3) := by decide +kernel
theorem dX9_count_97 : decode cX9_count 97 = .ok (.getfield 135, 3) := by decide +kernel
theorem dX9_count_100 : decode cX9_count 100 = .ok (.ireturn, 1) := by decide +kernel
theorem dX9_count_101 : decode cX9_count 101 = .ok (.aload_n 0, 1) := by decide +kernel
theorem dX9_count_102 : decode cX9_count 102 = .ok (.getfield 10, 3) := by decide +kernel
theorem dX9_count_105 : decode cX9_count 105 = .ok (.getfield 138, 3) := by decide +kernel
theorem dX9_count_108 : decode cX9_count 108 = .ok (.ireturn, 1) := by decide +kernel
theorem dX9_count_109 : decode cX9_count 109 = .ok (.bipush (-2), 2) := by decide +kernel
theorem dX9_count_111 : decode cX9_count 111 = .ok (.ireturn, 1) := by decide +kernel
theorem dX9_takes_0 : decode cX9_takes 0 = .ok (.aload_n 0, 1) := by decide +kernel
theorem dX9_takes_1 : decode cX9_takes 1 = .ok (.iload_n 1, 1) := by decide +kernel
theorem dX9_takes_2 : decode cX9_takes 2 = .ok (.invokevirtual 215, 3) := by decide +kernel
theorem dX9_takes_5 : decode cX9_takes 5 = .ok (.ifCond .ne 6, 3) := by decide +kernel
theorem dX9_takes_8 : decode cX9_takes 8 = .ok (.bipush (-5), 2) := by decide +kernel
theorem dX9_takes_10 : decode cX9_takes 10 = .ok (.ireturn, 1) := by decide +kernel
theorem dX9_takes_11 : decode cX9_takes 11 = .ok (.iload_n 2, 1) := by decide +kernel
theorem dX9_takes_12 : decode cX9_takes 12 = .ok (.iconst 0, 1) := by decide +kernel
theorem dX9_takes_13 : decode cX9_takes 13 = .ok (.iconst 5, 1) := by decide +kernel
theorem dX9_takes_14 : decode cX9_takes 14 = .ok (.invokestatic 111, 3) := by decide +kernel
theorem dX9_takes_17 : decode cX9_takes 17 = .ok (.ifCond .ne 6, 3) := by decide +kernel
theorem dX9_takes_20 : decode cX9_takes 20 = .ok (.bipush (-7), 2) := by decide +kernel
theorem dX9_takes_22 : decode cX9_takes 22 = .ok (.ireturn, 1) := by decide +kernel
theorem dX9_takes_23 : decode cX9_takes 23 = .ok (.aload_n 0, 1) := by decide +kernel
theorem dX9_takes_24 : decode cX9_takes 24 = .ok (.invokevirtual 218, 3) := by decide +kernel
theorem dX9_takes_27 : decode cX9_takes 27 = .ok (.iload_n 2, 1) := by decide +kernel
theorem dX9_takes_28 : decode cX9_takes 28 = .ok (.tableswitch 86 0 4 #[36, 46, 56, 66, 76], 36) := by decide +kernel
theorem dX9_takes_64 : decode cX9_takes 64 = .ok (.aload_n 0, 1) := by decide +kernel
theorem dX9_takes_65 : decode cX9_takes 65 = .ok (.getfield 21, 3) := by decide +kernel
theorem dX9_takes_68 : decode cX9_takes 68 = .ok (.getfield 221, 3) := by decide +kernel
theorem dX9_takes_71 : decode cX9_takes 71 = .ok (.iload_n 1, 1) := by decide +kernel
theorem dX9_takes_72 : decode cX9_takes 72 = .ok (.iaload, 1) := by decide +kernel
theorem dX9_takes_73 : decode cX9_takes 73 = .ok (.ireturn, 1) := by decide +kernel
theorem dX9_takes_74 : decode cX9_takes 74 = .ok (.aload_n 0, 1) := by decide +kernel
theorem dX9_takes_75 : decode cX9_takes 75 = .ok (.getfield 21, 3) := by decide +kernel
theorem dX9_takes_78 : decode cX9_takes 78 = .ok (.getfield 224, 3) := by decide +kernel
theorem dX9_takes_81 : decode cX9_takes 81 = .ok (.iload_n 1, 1) := by decide +kernel
theorem dX9_takes_82 : decode cX9_takes 82 = .ok (.iaload, 1) := by decide +kernel
theorem dX9_takes_83 : decode cX9_takes 83 = .ok (.ireturn, 1) := by decide +kernel
theorem dX9_takes_84 : decode cX9_takes 84 = .ok (.aload_n 0, 1) := by decide +kernel
theorem dX9_takes_85 : decode cX9_takes 85 = .ok (.getfield 21, 3) := by decide +kernel
theorem dX9_takes_88 : decode cX9_takes 88 = .ok (.getfield 227, 3) := by decide +kernel
theorem dX9_takes_91 : decode cX9_takes 91 = .ok (.iload_n 1, 1) := by decide +kernel
theorem dX9_takes_92 : decode cX9_takes 92 = .ok (.iaload, 1) := by decide +kernel
theorem dX9_takes_93 : decode cX9_takes 93 = .ok (.ireturn, 1) := by decide +kernel
theorem dX9_takes_94 : decode cX9_takes 94 = .ok (.aload_n 0, 1) := by decide +kernel
theorem dX9_takes_95 : decode cX9_takes 95 = .ok (.getfield 21, 3) := by decide +kernel
theorem dX9_takes_98 : decode cX9_takes 98 = .ok (.getfield 230, 3) := by decide +kernel
theorem dX9_takes_101 : decode cX9_takes 101 = .ok (.iload_n 1, 1) := by decide +kernel
theorem dX9_takes_102 : decode cX9_takes 102 = .ok (.iaload, 1) := by decide +kernel
theorem dX9_takes_103 : decode cX9_takes 103 = .ok (.ireturn, 1) := by decide +kernel
theorem dX9_takes_104 : decode cX9_takes 104 = .ok (.aload_n 0, 1) := by decide +kernel
theorem dX9_takes_105 : decode cX9_takes 105 = .ok (.getfield 21, 3) := by decide +kernel
theorem dX9_takes_108 : decode cX9_takes 108 = .ok (.getfield 233, 3) := by decide +kernel
theorem dX9_takes_111 : decode cX9_takes 111 = .ok (.iload_n 1, 1) := by decide +kernel
theorem dX9_takes_112 : decode cX9_takes 112 = .ok (.iaload, 1) := by decide +kernel
theorem dX9_takes_113 : decode cX9_takes 113 = .ok (.ireturn, 1) := by decide +kernel
theorem dX9_takes_114 : decode cX9_takes 114 = .ok (.aload_n 0, 1) := by decide +kernel
theorem dX9_takes_115 : decode cX9_takes 115 = .ok (.getfield 21, 3) := by decide +kernel
theorem dX9_takes_118 : decode cX9_takes 118 = .ok (.getfield 236, 3) := by decide +kernel
theorem dX9_takes_121 : decode cX9_takes 121 = .ok (.iload_n 1, 1) := by decide +kernel
theorem dX9_takes_122 : decode cX9_takes 122 = .ok (.iaload, 1) := by decide +kernel
theorem dX9_takes_123 : decode cX9_takes 123 = .ok (.ireturn, 1) := by decide +kernel
theorem dX9_sum_0 : decode cX9_sum 0 = .ok (.iload_n 1, 1) := by decide +kernel
theorem dX9_sum_1 : decode cX9_sum 1 = .ok (.iconst 0, 1) := by decide +kernel
theorem dX9_sum_2 : decode cX9_sum 2 = .ok (.iconst 2, 1) := by decide +kernel
theorem dX9_sum_3 : decode cX9_sum 3 = .ok (.invokestatic 111, 3) := by decide +kernel
theorem dX9_sum_6 : decode cX9_sum 6 = .ok (.ifCond .ne 7, 3) := by decide +kernel
theorem dX9_sum_9 : decode cX9_sum 9 = .ok (.ldc2_w 239, 3) := by decide +kernel
theorem dX9_sum_12 : decode cX9_sum 12 = .ok (.lreturn, 1) := by decide +kernel
theorem dX9_sum_13 : decode cX9_sum 13 = .ok (.aload_n 0, 1) := by decide +kernel
theorem dX9_sum_14 : decode cX9_sum 14 = .ok (.invokevirtual 218, 3) := by decide +kernel
theorem dX9_sum_17 : decode cX9_sum 17 = .ok (.iload_n 1, 1) := by decide +kernel
theorem dX9_sum_18 : decode cX9_sum 18 = .ok (.lookupswitch 43 #[(0, 26), (1, 34)], 26) := by decide +kernel
theorem dX9_sum_44 : decode cX9_sum 44 = .ok (.aload_n 0, 1) := by decide +kernel
theorem dX9_sum_45 : decode cX9_sum 45 = .ok (.getfield 21, 3) := by decide +kernel
theorem dX9_sum_48 : decode cX9_sum 48 = .ok (.invokevirtual 241, 3) := by decide +kernel
theorem dX9_sum_51 : decode cX9_sum 51 = .ok (.lreturn, 1) := by decide +kernel
theorem dX9_sum_52 : decode cX9_sum 52 = .ok (.aload_n 0, 1) := by decide +kernel
theorem dX9_sum_53 : decode cX9_sum 53 = .ok (.getfield 21, 3) := by decide +kernel
theorem dX9_sum_56 : decode cX9_sum 56 = .ok (.invokevirtual 245, 3) := by decide +kernel
theorem dX9_sum_59 : decode cX9_sum 59 = .ok (.i2l, 1) := by decide +kernel
theorem dX9_sum_60 : decode cX9_sum 60 = .ok (.lreturn, 1) := by decide +kernel
theorem dX9_sum_61 : decode cX9_sum 61 = .ok (.aload_n 0, 1) := by decide +kernel
theorem dX9_sum_62 : decode cX9_sum 62 = .ok (.getfield 21, 3) := by decide +kernel
theorem dX9_sum_65 : decode cX9_sum 65 = .ok (.invokevirtual 248, 3) := by decide +kernel
theorem dX9_sum_68 : decode cX9_sum 68 = .ok (.i2l, 1) := by decide +kernel
theorem dX9_sum_69 : decode cX9_sum 69 = .ok (.lreturn, 1) := by decide +kernel
theorem dX9_use_0 : decode cX9_use 0 = .ok (.aload_n 0, 1) := by decide +kernel
theorem dX9_use_1 : decode cX9_use 1 = .ok (.iload_n 1, 1) := by decide +kernel
theorem dX9_use_2 : decode cX9_use 2 = .ok (.invokevirtual 164, 3) := by decide +kernel
theorem dX9_use_5 : decode cX9_use 5 = .ok (.ifCond .ne 6, 3) := by decide +kernel
theorem dX9_use_8 : decode cX9_use 8 = .ok (.bipush (-5), 2) := by decide +kernel
theorem dX9_use_10 : decode cX9_use 10 = .ok (.ireturn, 1) := by decide +kernel
theorem dX9_use_11 : decode cX9_use 11 = .ok (.aload_n 0, 1) := by decide +kernel
theorem dX9_use_12 : decode cX9_use 12 = .ok (.invokevirtual 218, 3) := by decide +kernel
theorem dX9_use_15 : decode cX9_use 15 = .ok (.aload_n 0, 1) := by decide +kernel
theorem dX9_use_16 : decode cX9_use 16 = .ok (.getfield 21, 3) := by decide +kernel
theorem dX9_use_19 : decode cX9_use 19 = .ok (.iload_n 1, 1) := by decide +kernel
theorem dX9_use_20 : decode cX9_use 20 = .ok (.invokevirtual 251, 3) := by decide +kernel
theorem dX9_use_23 : decode cX9_use 23 = .ok (.ireturn, 1) := by decide +kernel
theorem dX9_feed_0 : decode cX9_feed 0 = .ok (.iload_n 3, 1) := by decide +kernel
theorem dX9_feed_1 : decode cX9_feed 1 = .ok (.iconst 1, 1) := by decide +kernel
theorem dX9_feed_2 : decode cX9_feed 2 = .ok (.bipush 8, 2) := by decide +kernel
theorem dX9_feed_4 : decode cX9_feed 4 = .ok (.invokestatic 111, 3) := by decide +kernel
theorem dX9_feed_7 : decode cX9_feed 7 = .ok (.ifCond .ne 6, 3) := by decide +kernel
theorem dX9_feed_10 : decode cX9_feed 10 = .ok (.bipush (-2), 2) := by decide +kernel
theorem dX9_feed_12 : decode cX9_feed 12 = .ok (.ireturn, 1) := by decide +kernel
theorem dX9_feed_13 : decode cX9_feed 13 = .ok (.aload_n 0, 1) := by decide +kernel
theorem dX9_feed_14 : decode cX9_feed 14 = .ok (.getfield 28, 3) := by decide +kernel
theorem dX9_feed_17 : decode cX9_feed 17 = .ok (.getfield 108, 3) := by decide +kernel
theorem dX9_feed_20 : decode cX9_feed 20 = .ok (.iload_n 3, 1) := by decide +kernel
theorem dX9_feed_21 : decode cX9_feed 21 = .ok (.iadd, 1) := by decide +kernel
theorem dX9_feed_22 : decode cX9_feed 22 = .ok (.sipush 160, 3) := by decide +kernel
theorem dX9_feed_25 : decode cX9_feed 25 = .ok (.if_icmp .le 6, 3) := by decide +kernel
theorem dX9_feed_28 : decode cX9_feed 28 = .ok (.bipush (-4), 2) := by decide +kernel
theorem dX9_feed_30 : decode cX9_feed 30 = .ok (.ireturn, 1) := by decide +kernel
theorem dX9_feed_31 : decode cX9_feed 31 = .ok (.iload_n 3, 1) := by decide +kernel
theorem dX9_feed_32 : decode cX9_feed 32 = .ok (.iconst 1, 1) := by decide +kernel
theorem dX9_feed_33 : decode cX9_feed 33 = .ok (.isub, 1) := by decide +kernel
theorem dX9_feed_34 : decode cX9_feed 34 = .ok (.istore 4, 2) := by decide +kernel
theorem dX9_feed_36 : decode cX9_feed 36 = .ok (.iload 4, 2) := by decide +kernel
theorem dX9_feed_38 : decode cX9_feed 38 = .ok (.ifCond .lt 28, 3) := by decide +kernel
theorem dX9_feed_41 : decode cX9_feed 41 = .ok (.aload_n 0, 1) := by decide +kernel
theorem dX9_feed_42 : decode cX9_feed 42 = .ok (.getfield 28, 3) := by decide +kernel
theorem dX9_feed_45 : decode cX9_feed 45 = .ok (.lload_n 1, 1) := by decide +kernel
theorem dX9_feed_46 : decode cX9_feed 46 = .ok (.bipush 8, 2) := by decide +kernel
theorem dX9_feed_48 : decode cX9_feed 48 = .ok (.iload 4, 2) := by decide +kernel
theorem dX9_feed_50 : decode cX9_feed 50 = .ok (.imul, 1) := by decide +kernel
theorem dX9_feed_51 : decode cX9_feed 51 = .ok (.lushr, 1) := by decide +kernel
theorem dX9_feed_52 : decode cX9_feed 52 = .ok (.l2i, 1) := by decide +kernel
theorem dX9_feed_53 : decode cX9_feed 53 = .ok (.sipush 255, 3) := by decide +kernel
theorem dX9_feed_56 : decode cX9_feed 56 = .ok (.iand, 1) := by decide +kernel
theorem dX9_feed_57 : decode cX9_feed 57 = .ok (.invokevirtual 100, 3) := by decide +kernel
theorem dX9_feed_60 : decode cX9_feed 60 = .ok (.iinc 4 (-1), 3) := by decide +kernel
theorem dX9_feed_63 : decode cX9_feed 63 = .ok (.goto (-27), 3) := by decide +kernel
theorem dX9_feed_66 : decode cX9_feed 66 = .ok (.aload_n 0, 1) := by decide +kernel
theorem dX9_feed_67 : decode cX9_feed 67 = .ok (.getfield 28, 3) := by decide +kernel
theorem dX9_feed_70 : decode cX9_feed 70 = .ok (.getfield 108, 3) := by decide +kernel
theorem dX9_feed_73 : decode cX9_feed 73 = .ok (.ireturn, 1) := by decide +kernel
theorem dX9_text_0 : decode cX9_text 0 = .ok (.aload_n 0, 1) := by decide +kernel
theorem dX9_text_1 : decode cX9_text 1 = .ok (.getfield 47, 3) := by decide +kernel
theorem dX9_text_4 : decode cX9_text 4 = .ok (.bipush 6, 2) := by decide +kernel
theorem dX9_text_6 : decode cX9_text 6 = .ok (.if_icmp .lt 6, 3) := by decide +kernel
theorem dX9_text_9 : decode cX9_text 9 = .ok (.bipush (-4), 2) := by decide +kernel
theorem dX9_text_11 : decode cX9_text 11 = .ok (.ireturn, 1) := by decide +kernel
theorem dX9_text_12 : decode cX9_text 12 = .ok (.aload_n 0, 1) := by decide +kernel
theorem dX9_text_13 : decode cX9_text 13 = .ok (.getfield 37, 3) := by decide +kernel
theorem dX9_text_16 : decode cX9_text 16 = .ok (.aload_n 0, 1) := by decide +kernel
theorem dX9_text_17 : decode cX9_text 17 = .ok (.getfield 43, 3) := by decide +kernel
theorem dX9_text_20 : decode cX9_text 20 = .ok (.aload_n 0, 1) := by decide +kernel
theorem dX9_text_21 : decode cX9_text 21 = .ok (.getfield 47, 3) := by decide +kernel
theorem dX9_text_24 : decode cX9_text 24 = .ok (.aaload, 1) := by decide +kernel
theorem dX9_text_25 : decode cX9_text 25 = .ok (.invokevirtual 104, 3) := by decide +kernel
theorem dX9_text_28 : decode cX9_text 28 = .ok (.istore_n 1, 1) := by decide +kernel
theorem dX9_text_29 : decode cX9_text 29 = .ok (.aload_n 0, 1) := by decide +kernel
theorem dX9_text_30 : decode cX9_text 30 = .ok (.getfield 28, 3) := by decide +kernel
theorem dX9_text_33 : decode cX9_text 33 = .ok (.iconst 0, 1) := by decide +kernel
theorem dX9_text_34 : decode cX9_text 34 = .ok (.putfield 108, 3) := by decide +kernel
theorem dX9_text_37 : decode cX9_text 37 = .ok (.iload_n 1, 1) := by decide +kernel
theorem dX9_text_38 : decode cX9_text 38 = .ok (.ifCond .lt 8, 3) := by decide +kernel
theorem dX9_text_41 : decode cX9_text 41 = .ok (.bipush (-100), 2) := by decide +kernel
theorem dX9_text_43 : decode cX9_text 43 = .ok (.iload_n 1, 1) := by decide +kernel
theorem dX9_text_44 : decode cX9_text 44 = .ok (.isub, 1) := by decide +kernel
theorem dX9_text_45 : decode cX9_text 45 = .ok (.ireturn, 1) := by decide +kernel
theorem dX9_text_46 : decode cX9_text 46 = .ok (.aload_n 0, 1) := by decide +kernel
theorem dX9_text_47 : decode cX9_text 47 = .ok (.dup, 1) := by decide +kernel
theorem dX9_text_48 : decode cX9_text 48 = .ok (.getfield 47, 3) := by decide +kernel
theorem dX9_text_51 : decode cX9_text 51 = .ok (.iconst 1, 1) := by decide +kernel
theorem dX9_text_52 : decode cX9_text 52 = .ok (.iadd, 1) := by decide +kernel
theorem dX9_text_53 : decode cX9_text 53 = .ok (.putfield 47, 3) := by decide +kernel
theorem dX9_text_56 : decode cX9_text 56 = .ok (.aload_n 0, 1) := by decide +kernel
theorem dX9_text_57 : decode cX9_text 57 = .ok (.getfield 47, 3) := by decide +kernel
theorem dX9_text_60 : decode cX9_text 60 = .ok (.iconst 1, 1) := by decide +kernel
theorem dX9_text_61 : decode cX9_text 61 = .ok (.isub, 1) := by decide +kernel
theorem dX9_text_62 : decode cX9_text 62 = .ok (.ireturn, 1) := by decide +kernel
theorem dX9_force_0 : decode cX9_force 0 = .ok (.iload_n 1, 1) := by decide +kernel
theorem dX9_force_1 : decode cX9_force 1 = .ok (.iconst 0, 1) := by decide +kernel
theorem dX9_force_2 : decode cX9_force 2 = .ok (.aload_n 0, 1) := by decide +kernel
theorem dX9_force_3 : decode cX9_force 3 = .ok (.getfield 47, 3) := by decide +kernel
theorem dX9_force_6 : decode cX9_force 6 = .ok (.iconst 1, 1) := by decide +kernel
theorem dX9_force_7 : decode cX9_force 7 = .ok (.isub, 1) := by decide +kernel
theorem dX9_force_8 : decode cX9_force 8 = .ok (.invokestatic 111, 3) := by decide +kernel
theorem dX9_force_11 : decode cX9_force 11 = .ok (.ifCond .ne 6, 3) := by decide +kernel
theorem dX9_force_14 : decode cX9_force 14 = .ok (.bipush (-2), 2) := by decide +kernel
theorem dX9_force_16 : decode cX9_force 16 = .ok (.ireturn, 1) := by decide +kernel
theorem dX9_force_17 : decode cX9_force 17 = .ok (.aload_n 0, 1) := by decide +kernel
theorem dX9_force_18 : decode cX9_force 18 = .ok (.getfield 51, 3) := by decide +kernel
theorem dX9_force_21 : decode cX9_force 21 = .ok (.istore_n 2, 1) := by decide +kernel
theorem dX9_force_22 : decode cX9_force 22 = .ok (.aload_n 0, 1) := by decide +kernel
theorem dX9_force_23 : decode cX9_force 23 = .ok (.iload_n 1, 1) := by decide +kernel
theorem dX9_force_24 : decode cX9_force 24 = .ok (.putfield 51, 3) := by decide +kernel
theorem dX9_force_27 : decode cX9_force 27 = .ok (.iload_n 2, 1) := by decide +kernel
theorem dX9_force_28 : decode cX9_force 28 = .ok (.ireturn, 1) := by decide +kernel
theorem dX9_best_0 : decode cX9_best 0 = .ok (.iload_n 1, 1) := by decide +kernel
theorem dX9_best_1 : decode cX9_best 1 = .ok (.iconst 0, 1) := by decide +kernel
theorem dX9_best_2 : decode cX9_best 2 = .ok (.iconst 1, 1) := by decide +kernel
theorem dX9_best_3 : decode cX9_best 3 = .ok (.invokestatic 111, 3) := by decide +kernel
theorem dX9_best_6 : decode cX9_best 6 = .ok (.ifCond .ne 7, 3) := by decide +kernel
theorem dX9_best_9 : decode cX9_best 9 = .ok (.ldc2_w 239, 3) := by decide +kernel
theorem dX9_best_12 : decode cX9_best 12 = .ok (.lreturn, 1) := by decide +kernel
theorem dX9_best_13 : decode cX9_best 13 = .ok (.aload_n 0, 1) := by decide +kernel
theorem dX9_best_14 : decode cX9_best 14 = .ok (.getfield 21, 3) := by decide +kernel
theorem dX9_best_17 : decode cX9_best 17 = .ok (.invokevirtual 254, 3) := by decide +kernel
theorem dX9_best_20 : decode cX9_best 20 = .ok (.aload_n 0, 1) := by decide +kernel
theorem dX9_best_21 : decode cX9_best 21 = .ok (.ldc_w 257, 3) := by decide +kernel
theorem dX9_best_24 : decode cX9_best 24 = .ok (.ldc_w 257, 3) := by decide +kernel
theorem dX9_best_27 : decode cX9_best 27 = .ok (.invokevirtual 258, 3) := by decide +kernel
theorem dX9_best_30 : decode cX9_best 30 = .ok (.istore_n 2, 1) := by decide +kernel
theorem dX9_best_31 : decode cX9_best 31 = .ok (.iload_n 1, 1) := by decide +kernel
theorem dX9_best_32 : decode cX9_best 32 = .ok (.ifCond .ne 8, 3) := by decide +kernel
theorem dX9_best_35 : decode cX9_best 35 = .ok (.iload_n 2, 1) := by decide +kernel
theorem dX9_best_36 : decode cX9_best 36 = .ok (.i2l, 1) := by decide +kernel
theorem dX9_best_37 : decode cX9_best 37 = .ok (.goto 8, 3) := by decide +kernel
theorem dX9_best_40 : decode cX9_best 40 = .ok (.aload_n 0, 1) := by decide +kernel
theorem dX9_best_41 : decode cX9_best 41 = .ok (.iload_n 2, 1) := by decide +kernel
theorem dX9_best_42 : decode cX9_best 42 = .ok (.invokevirtual 262, 3) := by decide +kernel
theorem dX9_best_45 : decode cX9_best 45 = .ok (.lreturn, 1) := by decide +kernel
theorem dX9_bound_0 : decode cX9_bound 0 = .ok (.iload_n 1, 1) := by decide +kernel
theorem dX9_bound_1 : decode cX9_bound 1 = .ok (.iconst 0, 1) := by decide +kernel
theorem dX9_bound_2 : decode cX9_bound 2 = .ok (.ldc_w 266, 3) := by decide +kernel
theorem dX9_bound_5 : decode cX9_bound 5 = .ok (.invokestatic 111, 3) := by decide +kernel
theorem dX9_bound_8 : decode cX9_bound 8 = .ok (.ifCond .ne 6, 3) := by decide +kernel
theorem dX9_bound_11 : decode cX9_bound 11 = .ok (.bipush (-2), 2) := by decide +kernel
theorem dX9_bound_13 : decode cX9_bound 13 = .ok (.ireturn, 1) := by decide +kernel
theorem dX9_bound_14 : decode cX9_bound 14 = .ok (.aload_n 0, 1) := by decide +kernel
theorem dX9_bound_15 : decode cX9_bound 15 = .ok (.getfield 21, 3) := by decide +kernel
theorem dX9_bound_18 : decode cX9_bound 18 = .ok (.invokevirtual 254, 3) := by decide +kernel
theorem dX9_bound_21 : decode cX9_bound 21 = .ok (.aload_n 0, 1) := by decide +kernel
theorem dX9_bound_22 : decode cX9_bound 22 = .ok (.iload_n 1, 1) := by decide +kernel
theorem dX9_bound_23 : decode cX9_bound 23 = .ok (.ldc_w 257, 3) := by decide +kernel
theorem dX9_bound_26 : decode cX9_bound 26 = .ok (.invokevirtual 258, 3) := by decide +kernel
theorem dX9_bound_29 : decode cX9_bound 29 = .ok (.ireturn, 1) := by decide +kernel
theorem dX9_least_0 : decode cX9_least 0 = .ok (.iload_n 1, 1) := by decide +kernel
theorem dX9_least_1 : decode cX9_least 1 = .ok (.iconst 0, 1) := by decide +kernel
theorem dX9_least_2 : decode cX9_least 2 = .ok (.ldc_w 267, 3) := by decide +kernel
theorem dX9_least_5 : decode cX9_least 5 = .ok (.invokestatic 111, 3) := by decide +kernel
theorem dX9_least_8 : decode cX9_least 8 = .ok (.ifCond .ne 6, 3) := by decide +kernel
theorem dX9_least_11 : decode cX9_least 11 = .ok (.bipush (-2), 2) := by decide +kernel
theorem dX9_least_13 : decode cX9_least 13 = .ok (.ireturn, 1) := by decide +kernel
theorem dX9_least_14 : decode cX9_least 14 = .ok (.aload_n 0, 1) := by decide +kernel
theorem dX9_least_15 : decode cX9_least 15 = .ok (.invokevirtual 218, 3) := by decide +kernel
theorem dX9_least_18 : decode cX9_least 18 = .ok (.aload_n 0, 1) := by decide +kernel
theorem dX9_least_19 : decode cX9_least 19 = .ok (.invokevirtual 268, 3) := by decide +kernel
theorem dX9_least_22 : decode cX9_least 22 = .ok (.aload_n 0, 1) := by decide +kernel
theorem dX9_least_23 : decode cX9_least 23 = .ok (.ldc_w 257, 3) := by decide +kernel
theorem dX9_least_26 : decode cX9_least 26 = .ok (.iload_n 1, 1) := by decide +kernel
theorem dX9_least_27 : decode cX9_least 27 = .ok (.invokevirtual 258, 3) := by decide +kernel
theorem dX9_least_30 : decode cX9_least 30 = .ok (.ireturn, 1) := by decide +kernel
theorem dX9_fair_0 : decode cX9_fair 0 = .ok (.aload_n 0, 1) := by decide +kernel
theorem dX9_fair_1 : decode cX9_fair 1 = .ok (.getfield 21, 3) := by decide +kernel
theorem dX9_fair_4 : decode cX9_fair 4 = .ok (.invokevirtual 254, 3) := by decide +kernel
theorem dX9_fair_7 : decode cX9_fair 7 = .ok (.iconst 0, 1) := by decide +kernel
theorem dX9_fair_8 : decode cX9_fair 8 = .ok (.istore_n 1, 1) := by decide +kernel
theorem dX9_fair_9 : decode cX9_fair 9 = .ok (.ldc_w 257, 3) := by decide +kernel
theorem dX9_fair_12 : decode cX9_fair 12 = .ok (.istore_n 2, 1) := by decide +kernel
theorem dX9_fair_13 : decode cX9_fair 13 = .ok (.iconst 0, 1) := by decide +kernel
theorem dX9_fair_14 : decode cX9_fair 14 = .ok (.istore_n 3, 1) := by decide +kernel
theorem dX9_fair_15 : decode cX9_fair 15 = .ok (.iload_n 3, 1) := by decide +kernel
theorem dX9_fair_16 : decode cX9_fair 16 = .ok (.aload_n 0, 1) := by decide +kernel
theorem dX9_fair_17 : decode cX9_fair 17 = .ok (.getfield 10, 3) := by decide +kernel
theorem dX9_fair_20 : decode cX9_fair 20 = .ok (.invokevirtual 271, 3) := by decide +kernel
theorem dX9_fair_23 : decode cX9_fair 23 = .ok (.if_icmp .ge 45, 3) := by decide +kernel
theorem dX9_fair_26 : decode cX9_fair 26 = .ok (.aload_n 0, 1) := by decide +kernel
theorem dX9_fair_27 : decode cX9_fair 27 = .ok (.getfield 21, 3) := by decide +kernel
theorem dX9_fair_30 : decode cX9_fair 30 = .ok (.iload_n 3, 1) := by decide +kernel
theorem dX9_fair_31 : decode cX9_fair 31 = .ok (.aload_n 0, 1) := by decide +kernel
theorem dX9_fair_32 : decode cX9_fair 32 = .ok (.getfield 10, 3) := by decide +kernel
theorem dX9_fair_35 : decode cX9_fair 35 = .ok (.getfield 135, 3) := by decide +kernel
theorem dX9_fair_38 : decode cX9_fair 38 = .ok (.invokevirtual 274, 3) := by decide +kernel
theorem dX9_fair_41 : decode cX9_fair 41 = .ok (.aload_n 0, 1) := by decide +kernel
theorem dX9_fair_42 : decode cX9_fair 42 = .ok (.getfield 21, 3) := by decide +kernel
theorem dX9_fair_45 : decode cX9_fair 45 = .ok (.invokevirtual 248, 3) := by decide +kernel
theorem dX9_fair_48 : decode cX9_fair 48 = .ok (.iload_n 2, 1) := by decide +kernel
theorem dX9_fair_49 : decode cX9_fair 49 = .ok (.if_icmp .ge 13, 3) := by decide +kernel
theorem dX9_fair_52 : decode cX9_fair 52 = .ok (.aload_n 0, 1) := by decide +kernel
theorem dX9_fair_53 : decode cX9_fair 53 = .ok (.getfield 21, 3) := by decide +kernel
theorem dX9_fair_56 : decode cX9_fair 56 = .ok (.invokevirtual 248, 3) := by decide +kernel
theorem dX9_fair_59 : decode cX9_fair 59 = .ok (.istore_n 2, 1) := by decide +kernel
theorem dX9_fair_60 : decode cX9_fair 60 = .ok (.iload_n 3, 1) := by decide +kernel
theorem dX9_fair_61 : decode cX9_fair 61 = .ok (.istore_n 1, 1) := by decide +kernel
theorem dX9_fair_62 : decode cX9_fair 62 = .ok (.iinc 3 1, 3) := by decide +kernel
theorem dX9_fair_65 : decode cX9_fair 65 = .ok (.goto (-50), 3) := by decide +kernel
theorem dX9_fair_68 : decode cX9_fair 68 = .ok (.iload_n 1, 1) := by decide +kernel
theorem dX9_fair_69 : decode cX9_fair 69 = .ok (.ireturn, 1) := by decide +kernel
theorem dX9_fewest_0 : decode cX9_fewest 0 = .ok (.iload_n 1, 1) := by decide +kernel
theorem dX9_fewest_1 : decode cX9_fewest 1 = .ok (.iconst 0, 1) := by decide +kernel
theorem dX9_fewest_2 : decode cX9_fewest 2 = .ok (.ldc_w 278, 3) := by decide +kernel
theorem dX9_fewest_5 : decode cX9_fewest 5 = .ok (.invokestatic 111, 3) := by decide +kernel
theorem dX9_fewest_8 : decode cX9_fewest 8 = .ok (.ifCond .ne 6, 3) := by decide +kernel
theorem dX9_fewest_11 : decode cX9_fewest 11 = .ok (.bipush (-2), 2) := by decide +kernel
theorem dX9_fewest_13 : decode cX9_fewest 13 = .ok (.ireturn, 1) := by decide +kernel
theorem dX9_fewest_14 : decode cX9_fewest 14 = .ok (.aload_n 0, 1) := by decide +kernel
theorem dX9_fewest_15 : decode cX9_fewest 15 = .ok (.getfield 21, 3) := by decide +kernel
theorem dX9_fewest_18 : decode cX9_fewest 18 = .ok (.invokevirtual 254, 3) := by decide +kernel
theorem dX9_fewest_21 : decode cX9_fewest 21 = .ok (.iconst (-1), 1) := by decide +kernel
theorem dX9_fewest_22 : decode cX9_fewest 22 = .ok (.istore_n 2, 1) := by decide +kernel
theorem dX9_fewest_23 : decode cX9_fewest 23 = .ok (.bipush 9, 2) := by decide +kernel
theorem dX9_fewest_25 : decode cX9_fewest 25 = .ok (.istore_n 3, 1) := by decide +kernel
theorem dX9_fewest_26 : decode cX9_fewest 26 = .ok (.iconst 0, 1) := by decide +kernel
theorem dX9_fewest_27 : decode cX9_fewest 27 = .ok (.istore 4, 2) := by decide +kernel
theorem dX9_fewest_29 : decode cX9_fewest 29 = .ok (.iload 4, 2) := by decide +kernel
theorem dX9_fewest_31 : decode cX9_fewest 31 = .ok (.aload_n 0, 1) := by decide +kernel
theorem dX9_fewest_32 : decode cX9_fewest 32 = .ok (.getfield 10, 3) := by decide +kernel
theorem dX9_fewest_35 : decode cX9_fewest 35 = .ok (.invokevirtual 271, 3) := by decide +kernel
theorem dX9_fewest_38 : decode cX9_fewest 38 = .ok (.if_icmp .ge 39, 3) := by decide +kernel
theorem dX9_fewest_41 : decode cX9_fewest 41 = .ok (.iload 4, 2) := by decide +kernel
theorem dX9_fewest_43 : decode cX9_fewest 43 = .ok (.invokestatic 210, 3) := by decide +kernel
theorem dX9_fewest_46 : decode cX9_fewest 46 = .ok (.iload_n 3, 1) := by decide +kernel
theorem dX9_fewest_47 : decode cX9_fewest 47 = .ok (.if_icmp .ge 24, 3) := by decide +kernel
theorem dX9_fewest_50 : decode cX9_fewest 50 = .ok (.aload_n 0, 1) := by decide +kernel
theorem dX9_fewest_51 : decode cX9_fewest 51 = .ok (.iload 4, 2) := by decide +kernel
theorem dX9_fewest_53 : decode cX9_fewest 53 = .ok (.invokevirtual 262, 3) := by decide +kernel
theorem dX9_fewest_56 : decode cX9_fewest 56 = .ok (.iload_n 1, 1) := by decide +kernel
theorem dX9_fewest_57 : decode cX9_fewest 57 = .ok (.i2l, 1) := by decide +kernel
theorem dX9_fewest_58 : decode cX9_fewest 58 = .ok (.lcmp, 1) := by decide +kernel
theorem dX9_fewest_59 : decode cX9_fewest 59 = .ok (.ifCond .gt 12, 3) := by decide +kernel
theorem dX9_fewest_62 : decode cX9_fewest 62 = .ok (.iload 4, 2) := by decide +kernel
theorem dX9_fewest_64 : decode cX9_fewest 64 = .ok (.istore_n 2, 1) := by decide +kernel
theorem dX9_fewest_65 : decode cX9_fewest 65 = .ok (.iload 4, 2) := by decide +kernel
theorem dX9_fewest_67 : decode cX9_fewest 67 = .ok (.invokestatic 210, 3) := by decide +kernel
theorem dX9_fewest_70 : decode cX9_fewest 70 = .ok (.istore_n 3, 1) := by decide +kernel
theorem dX9_fewest_71 : decode cX9_fewest 71 = .ok (.iinc 4 1, 3) := by decide +kernel
theorem dX9_fewest_74 : decode cX9_fewest 74 = .ok (.goto (-45), 3) := by decide +kernel
theorem dX9_fewest_77 : decode cX9_fewest 77 = .ok (.iload_n 2, 1) := by decide +kernel
theorem dX9_fewest_78 : decode cX9_fewest 78 = .ok (.ireturn, 1) := by decide +kernel
theorem dX9_judge_0 : decode cX9_judge 0 = .ok (.iload_n 1, 1) := by decide +kernel
theorem dX9_judge_1 : decode cX9_judge 1 = .ok (.invokestatic 279, 3) := by decide +kernel
theorem dX9_judge_4 : decode cX9_judge 4 = .ok (.ifCond .ne 6, 3) := by decide +kernel
theorem dX9_judge_7 : decode cX9_judge 7 = .ok (.bipush (-2), 2) := by decide +kernel
theorem dX9_judge_9 : decode cX9_judge 9 = .ok (.ireturn, 1) := by decide +kernel
theorem dX9_judge_10 : decode cX9_judge 10 = .ok (.aload_n 0, 1) := by decide +kernel
theorem dX9_judge_11 : decode cX9_judge 11 = .ok (.getfield 63, 3) := by decide +kernel
theorem dX9_judge_14 : decode cX9_judge 14 = .ok (.iload_n 1, 1) := by decide +kernel
theorem dX9_judge_15 : decode cX9_judge 15 = .ok (.aaload, 1) := by decide +kernel
theorem dX9_judge_16 : decode cX9_judge 16 = .ok (.astore_n 2, 1) := by decide +kernel
theorem dX9_judge_17 : decode cX9_judge 17 = .ok (.aload_n 2, 1) := by decide +kernel
theorem dX9_judge_18 : decode cX9_judge 18 = .ok (.invokevirtual 282, 3) := by decide +kernel
theorem dX9_judge_21 : decode cX9_judge 21 = .ok (.ifCond .eq 6, 3) := by decide +kernel
theorem dX9_judge_24 : decode cX9_judge 24 = .ok (.bipush (-11), 2) := by decide +kernel
theorem dX9_judge_26 : decode cX9_judge 26 = .ok (.ireturn, 1) := by decide +kernel
theorem dX9_judge_27 : decode cX9_judge 27 = .ok (.aload_n 2, 1) := by decide +kernel
theorem dX9_judge_28 : decode cX9_judge 28 = .ok (.getfield 286, 3) := by decide +kernel
theorem dX9_judge_31 : decode cX9_judge 31 = .ok (.aload_n 0, 1) := by decide +kernel
theorem dX9_judge_32 : decode cX9_judge 32 = .ok (.getfield 10, 3) := by decide +kernel
theorem dX9_judge_35 : decode cX9_judge 35 = .ok (.getfield 151, 3) := by decide +kernel
theorem dX9_judge_38 : decode cX9_judge 38 = .ok (.if_icmp .eq 6, 3) := by decide +kernel
theorem dX9_judge_41 : decode cX9_judge 41 = .ok (.bipush (-2), 2) := by decide +kernel
theorem dX9_judge_43 : decode cX9_judge 43 = .ok (.ireturn, 1) := by decide +kernel
theorem dX9_judge_44 : decode cX9_judge 44 = .ok (.iconst 0, 1) := by decide +kernel
theorem dX9_judge_45 : decode cX9_judge 45 = .ok (.istore_n 3, 1) := by decide +kernel
theorem dX9_judge_46 : decode cX9_judge 46 = .ok (.iconst 0, 1) := by decide +kernel
theorem dX9_judge_47 : decode cX9_judge 47 = .ok (.istore 4, 2) := by decide +kernel
theorem dX9_judge_49 : decode cX9_judge 49 = .ok (.iload 4, 2) := by decide +kernel
theorem dX9_judge_51 : decode cX9_judge 51 = .ok (.aload_n 0, 1) := by decide +kernel
theorem dX9_judge_52 : decode cX9_judge 52 = .ok (.getfield 10, 3) := by decide +kernel
theorem dX9_judge_55 : decode cX9_judge 55 = .ok (.getfield 151, 3) := by decide +kernel
theorem dX9_judge_58 : decode cX9_judge 58 = .ok (.if_icmp .ge 40, 3) := by decide +kernel
theorem dX9_judge_61 : decode cX9_judge 61 = .ok (.aload_n 2, 1) := by decide +kernel
theorem dX9_judge_62 : decode cX9_judge 62 = .ok (.getfield 287, 3) := by decide +kernel
theorem dX9_judge_65 : decode cX9_judge 65 = .ok (.iload 4, 2) := by decide +kernel
theorem dX9_judge_67 : decode cX9_judge 67 = .ok (.iaload, 1) := by decide +kernel
theorem dX9_judge_68 : decode cX9_judge 68 = .ok (.iconst 0, 1) := by decide +kernel
theorem dX9_judge_69 : decode cX9_judge 69 = .ok (.iconst 1, 1) := by decide +kernel
theorem dX9_judge_70 : decode cX9_judge 70 = .ok (.invokestatic 111, 3) := by decide +kernel
theorem dX9_judge_73 : decode cX9_judge 73 = .ok (.ifCond .ne 6, 3) := by decide +kernel
theorem dX9_judge_76 : decode cX9_judge 76 = .ok (.bipush (-2), 2) := by decide +kernel
theorem dX9_judge_78 : decode cX9_judge 78 = .ok (.ireturn, 1) := by decide +kernel
theorem dX9_judge_79 : decode cX9_judge 79 = .ok (.iload_n 3, 1) := by decide +kernel
theorem dX9_judge_80 : decode cX9_judge 80 = .ok (.aload_n 2, 1) := by decide +kernel
theorem dX9_judge_81 : decode cX9_judge 81 = .ok (.getfield 287, 3) := by decide +kernel
theorem dX9_judge_84 : decode cX9_judge 84 = .ok (.iload 4, 2) := by decide +kernel
theorem dX9_judge_86 : decode cX9_judge 86 = .ok (.iaload, 1) := by decide +kernel
theorem dX9_judge_87 : decode cX9_judge 87 = .ok (.iload 4, 2) := by decide +kernel
theorem dX9_judge_89 : decode cX9_judge 89 = .ok (.ishl, 1) := by decide +kernel
theorem dX9_judge_90 : decode cX9_judge 90 = .ok (.ior, 1) := by decide +kernel
theorem dX9_judge_91 : decode cX9_judge 91 = .ok (.istore_n 3, 1) := by decide +kernel
theorem dX9_judge_92 : decode cX9_judge 92 = .ok (.iinc 4 1, 3) := by decide +kernel
theorem dX9_judge_95 : decode cX9_judge 95 = .ok (.goto (-46), 3) := by decide +kernel
theorem dX9_judge_98 : decode cX9_judge 98 = .ok (.aload_n 0, 1) := by decide +kernel
theorem dX9_judge_99 : decode cX9_judge 99 = .ok (.getfield 21, 3) := by decide +kernel
theorem dX9_judge_102 : decode cX9_judge 102 = .ok (.invokevirtual 254, 3) := by decide +kernel
theorem dX9_judge_105 : decode cX9_judge 105 = .ok (.aload_n 0, 1) := by decide +kernel
theorem dX9_judge_106 : decode cX9_judge 106 = .ok (.getfield 21, 3) := by decide +kernel
theorem dX9_judge_109 : decode cX9_judge 109 = .ok (.iload_n 3, 1) := by decide +kernel
theorem dX9_judge_110 : decode cX9_judge 110 = .ok (.aload_n 0, 1) := by decide +kernel
theorem dX9_judge_111 : decode cX9_judge 111 = .ok (.getfield 10, 3) := by decide +kernel
theorem dX9_judge_114 : decode cX9_judge 114 = .ok (.getfield 135, 3) := by decide +kernel
theorem dX9_judge_117 : decode cX9_judge 117 = .ok (.invokevirtual 274, 3) := by decide +kernel
theorem dX9_judge_120 : decode cX9_judge 120 = .ok (.iconst 0, 1) := by decide +kernel
theorem dX9_judge_121 : decode cX9_judge 121 = .ok (.istore 4, 2) := by decide +kernel
theorem dX9_judge_123 : decode cX9_judge 123 = .ok (.iload 4, 2) := by decide +kernel
theorem dX9_judge_125 : decode cX9_judge 125 = .ok (.aload_n 0, 1) := by decide +kernel
theorem dX9_judge_126 : decode cX9_judge 126 = .ok (.getfield 10, 3) := by decide +kernel
theorem dX9_judge_129 : decode cX9_judge 129 = .ok (.getfield 197, 3) := by decide +kernel
theorem dX9_judge_132 : decode cX9_judge 132 = .ok (.if_icmp .ge 48, 3) := by decide +kernel
theorem dX9_judge_135 : decode cX9_judge 135 = .ok (.aload_n 0, 1) := by decide +kernel
theorem dX9_judge_136 : decode cX9_judge 136 = .ok (.getfield 21, 3) := by decide +kernel
theorem dX9_judge_139 : decode cX9_judge 139 = .ok (.getfield 230, 3) := by decide +kernel
theorem dX9_judge_142 : decode cX9_judge 142 = .ok (.iload 4, 2) := by decide +kernel
theorem dX9_judge_144 : decode cX9_judge 144 = .ok (.iaload, 1) := by decide +kernel
theorem dX9_judge_145 : decode cX9_judge 145 = .ok (.aload_n 0, 1) := by decide +kernel
theorem dX9_judge_146 : decode cX9_judge 146 = .ok (.getfield 10, 3) := by decide +kernel
theorem dX9_judge_149 : decode cX9_judge 149 = .ok (.getfield 131, 3) := by decide +kernel
theorem dX9_judge_152 : decode cX9_judge 152 = .ok (.aload_n 0, 1) := by decide +kernel
theorem dX9_judge_153 : decode cX9_judge 153 = .ok (.getfield 10, 3) := by decide +kernel
theorem dX9_judge_156 : decode cX9_judge 156 = .ok (.getfield 200, 3) := by decide +kernel
theorem dX9_judge_159 : decode cX9_judge 159 = .ok (.iload 4, 2) := by decide +kernel
theorem dX9_judge_161 : decode cX9_judge 161 = .ok (.aaload, 1) := by decide +kernel
theorem dX9_judge_162 : decode cX9_judge 162 = .ok (.getfield 290, 3) := by decide +kernel
theorem dX9_judge_165 : decode cX9_judge 165 = .ok (.aaload, 1) := by decide +kernel
theorem dX9_judge_166 : decode cX9_judge 166 = .ok (.iconst 5, 1) := by decide +kernel
theorem dX9_judge_167 : decode cX9_judge 167 = .ok (.iaload, 1) := by decide +kernel
theorem dX9_judge_168 : decode cX9_judge 168 = .ok (.if_icmp .le 6, 3) := by decide +kernel
theorem dX9_judge_171 : decode cX9_judge 171 = .ok (.iload 4, 2) := by decide +kernel
theorem dX9_judge_173 : decode cX9_judge 173 = .ok (.ireturn, 1) := by decide +kernel
theorem dX9_judge_174 : decode cX9_judge 174 = .ok (.iinc 4 1, 3) := by decide +kernel
theorem dX9_judge_177 : decode cX9_judge 177 = .ok (.goto (-54), 3) := by decide +kernel
theorem dX9_judge_180 : decode cX9_judge 180 = .ok (.iconst (-1), 1) := by decide +kernel
theorem dX9_judge_181 : decode cX9_judge 181 = .ok (.ireturn, 1) := by decide +kernel
theorem dX9_patterns_0 : decode cX9_patterns 0 = .ok (.iload_n 1, 1) := by decide +kernel
theorem dX9_patterns_1 : decode cX9_patterns 1 = .ok (.iconst 0, 1) := by decide +kernel
theorem dX9_patterns_2 : decode cX9_patterns 2 = .ok (.iconst 1, 1) := by decide +kernel
theorem dX9_patterns_3 : decode cX9_patterns 3 = .ok (.invokestatic 111, 3) := by decide +kernel
theorem dX9_patterns_6 : decode cX9_patterns 6 = .ok (.ifCond .ne 7, 3) := by decide +kernel
theorem dX9_patterns_9 : decode cX9_patterns 9 = .ok (.ldc2_w 239, 3) := by decide +kernel
theorem dX9_patterns_12 : decode cX9_patterns 12 = .ok (.lreturn, 1) := by decide +kernel
theorem dX9_patterns_13 : decode cX9_patterns 13 = .ok (.aload_n 0, 1) := by decide +kernel
theorem dX9_patterns_14 : decode cX9_patterns 14 = .ok (.getfield 21, 3) := by decide +kernel
theorem dX9_patterns_17 : decode cX9_patterns 17 = .ok (.invokevirtual 254, 3) := by decide +kernel
theorem dX9_patterns_20 : decode cX9_patterns 20 = .ok (.iconst 5, 1) := by decide +kernel
theorem dX9_patterns_21 : decode cX9_patterns 21 = .ok (.aload_n 0, 1) := by decide +kernel
theorem dX9_patterns_22 : decode cX9_patterns 22 = .ok (.getfield 10, 3) := by decide +kernel
theorem dX9_patterns_25 : decode cX9_patterns 25 = .ok (.getfield 151, 3) := by decide +kernel
theorem dX9_patterns_28 : decode cX9_patterns 28 = .ok (.invokestatic 293, 3) := by decide +kernel
theorem dX9_patterns_31 : decode cX9_patterns 31 = .ok (.istore_n 2, 1) := by decide +kernel
theorem dX9_patterns_32 : decode cX9_patterns 32 = .ok (.iconst 1, 1) := by decide +kernel
theorem dX9_patterns_33 : decode cX9_patterns 33 = .ok (.istore_n 3, 1) := by decide +kernel
theorem dX9_patterns_34 : decode cX9_patterns 34 = .ok (.iconst 0, 1) := by decide +kernel
theorem dX9_patterns_35 : decode cX9_patterns 35 = .ok (.istore 4, 2) := by decide +kernel
theorem dX9_patterns_37 : decode cX9_patterns 37 = .ok (.iload 4, 2) := by decide +kernel
theorem dX9_patterns_39 : decode cX9_patterns 39 = .ok (.iload_n 2, 1) := by decide +kernel
theorem dX9_patterns_40 : decode cX9_patterns 40 = .ok (.if_icmp .ge 13, 3) := by decide +kernel
theorem dX9_patterns_43 : decode cX9_patterns 43 = .ok (.iload_n 3, 1) := by decide +kernel
theorem dX9_patterns_44 : decode cX9_patterns 44 = .ok (.iconst 3, 1) := by decide +kernel
theorem dX9_patterns_45 : decode cX9_patterns 45 = .ok (.imul, 1) := by decide +kernel
theorem dX9_patterns_46 : decode cX9_patterns 46 = .ok (.istore_n 3, 1) := by decide +kernel
theorem dX9_patterns_47 : decode cX9_patterns 47 = .ok (.iinc 4 1, 3) := by decide +kernel
theorem dX9_patterns_50 : decode cX9_patterns 50 = .ok (.goto (-13), 3) := by decide +kernel
theorem dX9_patterns_53 : decode cX9_patterns 53 = .ok (.lconst 0, 1) := by decide +kernel
theorem dX9_patterns_54 : decode cX9_patterns 54 = .ok (.lstore 4, 2) := by decide +kernel
theorem dX9_patterns_56 : decode cX9_patterns 56 = .ok (.ldc2_w 239, 3) := by decide +kernel
theorem dX9_patterns_59 : decode cX9_patterns 59 = .ok (.lstore 6, 2) := by decide +kernel
theorem dX9_patterns_61 : decode cX9_patterns 61 = .ok (.iconst 0, 1) := by decide +kernel
theorem dX9_patterns_62 : decode cX9_patterns 62 = .ok (.istore 8, 2) := by decide +kernel
theorem dX9_patterns_64 : decode cX9_patterns 64 = .ok (.iload 8, 2) := by decide +kernel
theorem dX9_patterns_66 : decode cX9_patterns 66 = .ok (.iload_n 3, 1) := by decide +kernel
theorem dX9_patterns_67 : decode cX9_patterns 67 = .ok (.if_icmp .ge 57, 3) := by decide +kernel
theorem dX9_patterns_70 : decode cX9_patterns 70 = .ok (.aload_n 0, 1) := by decide +kernel
theorem dX9_patterns_71 : decode cX9_patterns 71 = .ok (.iload_n 2, 1) := by decide +kernel
theorem dX9_patterns_72 : decode cX9_patterns 72 = .ok (.iload 8, 2) := by decide +kernel
theorem dX9_patterns_74 : decode cX9_patterns 74 = .ok (.invokevirtual 298, 3) := by decide +kernel
theorem dX9_patterns_77 : decode cX9_patterns 77 = .ok (.istore 9, 2) := by decide +kernel
theorem dX9_patterns_79 : decode cX9_patterns 79 = .ok (.aload_n 0, 1) := by decide +kernel
theorem dX9_patterns_80 : decode cX9_patterns 80 = .ok (.aload_n 0, 1) := by decide +kernel
theorem dX9_patterns_81 : decode cX9_patterns 81 = .ok (.getfield 10, 3) := by decide +kernel
theorem dX9_patterns_84 : decode cX9_patterns 84 = .ok (.invokevirtual 207, 3) := by decide +kernel
theorem dX9_patterns_87 : decode cX9_patterns 87 = .ok (.invokevirtual 262, 3) := by decide +kernel
theorem dX9_patterns_90 : decode cX9_patterns 90 = .ok (.lstore 10, 2) := by decide +kernel
theorem dX9_patterns_92 : decode cX9_patterns 92 = .ok (.lload 6, 2) := by decide +kernel
theorem dX9_patterns_94 : decode cX9_patterns 94 = .ok (.ldc2_w 239, 3) := by decide +kernel
theorem dX9_patterns_97 : decode cX9_patterns 97 = .ok (.lcmp, 1) := by decide +kernel
theorem dX9_patterns_98 : decode cX9_patterns 98 = .ok (.ifCond .eq 11, 3) := by decide +kernel
theorem dX9_patterns_101 : decode cX9_patterns 101 = .ok (.lload 10, 2) := by decide +kernel
theorem dX9_patterns_103 : decode cX9_patterns 103 = .ok (.lload 6, 2) := by decide +kernel
theorem dX9_patterns_105 : decode cX9_patterns 105 = .ok (.lcmp, 1) := by decide +kernel
theorem dX9_patterns_106 : decode cX9_patterns 106 = .ok (.ifCond .ge 12, 3) := by decide +kernel
theorem dX9_patterns_109 : decode cX9_patterns 109 = .ok (.lload 10, 2) := by decide +kernel
theorem dX9_patterns_111 : decode cX9_patterns 111 = .ok (.lstore 6, 2) := by decide +kernel
theorem dX9_patterns_113 : decode cX9_patterns 113 = .ok (.iload 9, 2) := by decide +kernel
theorem dX9_patterns_115 : decode cX9_patterns 115 = .ok (.i2l, 1) := by decide +kernel
theorem dX9_patterns_116 : decode cX9_patterns 116 = .ok (.lstore 4, 2) := by decide +kernel
theorem dX9_patterns_118 : decode cX9_patterns 118 = .ok (.iinc 8 1, 3) := by decide +kernel
theorem dX9_patterns_121 : decode cX9_patterns 121 = .ok (.goto (-57), 3) := by decide +kernel
theorem dX9_patterns_124 : decode cX9_patterns 124 = .ok (.iload_n 1, 1) := by decide +kernel
theorem dX9_patterns_125 : decode cX9_patterns 125 = .ok (.ifCond .ne 8, 3) := by decide +kernel
theorem dX9_patterns_128 : decode cX9_patterns 128 = .ok (.lload 4, 2) := by decide +kernel
theorem dX9_patterns_130 : decode cX9_patterns 130 = .ok (.goto 5, 3) := by decide +kernel
theorem dX9_patterns_133 : decode cX9_patterns 133 = .ok (.lload 6, 2) := by decide +kernel
theorem dX9_patterns_135 : decode cX9_patterns 135 = .ok (.lreturn, 1) := by decide +kernel
theorem dX9_bench_0 : decode cX9_bench 0 = .ok (.aload_n 0, 1) := by decide +kernel
theorem dX9_bench_1 : decode cX9_bench 1 = .ok (.iload_n 1, 1) := by decide +kernel
theorem dX9_bench_2 : decode cX9_bench 2 = .ok (.invokevirtual 164, 3) := by decide +kernel
theorem dX9_bench_5 : decode cX9_bench 5 = .ok (.ifCond .eq 12, 3) := by decide +kernel
theorem dX9_bench_8 : decode cX9_bench 8 = .ok (.iload_n 2, 1) := by decide +kernel
theorem dX9_bench_9 : decode cX9_bench 9 = .ok (.iconst 0, 1) := by decide +kernel
theorem dX9_bench_10 : decode cX9_bench 10 = .ok (.iconst 3, 1) := by decide +kernel
theorem dX9_bench_11 : decode cX9_bench 11 = .ok (.invokestatic 111, 3) := by decide +kernel
theorem dX9_bench_14 : decode cX9_bench 14 = .ok (.ifCond .ne 7, 3) := by decide +kernel
theorem dX9_bench_17 : decode cX9_bench 17 = .ok (.ldc2_w 239, 3) := by decide +kernel
theorem dX9_bench_20 : decode cX9_bench 20 = .ok (.lreturn, 1) := by decide +kernel
theorem dX9_bench_21 : decode cX9_bench 21 = .ok (.aload_n 0, 1) := by decide +kernel
theorem dX9_bench_22 : decode cX9_bench 22 = .ok (.invokevirtual 218, 3) := by decide +kernel
theorem dX9_bench_25 : decode cX9_bench 25 = .ok (.aload_n 0, 1) := by decide +kernel
theorem dX9_bench_26 : decode cX9_bench 26 = .ok (.invokevirtual 268, 3) := by decide +kernel
theorem dX9_bench_29 : decode cX9_bench 29 = .ok (.aload_n 0, 1) := by decide +kernel
theorem dX9_bench_30 : decode cX9_bench 30 = .ok (.getfield 21, 3) := by decide +kernel
theorem dX9_bench_33 : decode cX9_bench 33 = .ok (.invokevirtual 241, 3) := by decide +kernel
theorem dX9_bench_36 : decode cX9_bench 36 = .ok (.lstore_n 3, 1) := by decide +kernel
theorem dX9_bench_37 : decode cX9_bench 37 = .ok (.aload_n 0, 1) := by decide +kernel
theorem dX9_bench_38 : decode cX9_bench 38 = .ok (.getfield 21, 3) := by decide +kernel
theorem dX9_bench_41 : decode cX9_bench 41 = .ok (.aload_n 0, 1) := by decide +kernel
theorem dX9_bench_42 : decode cX9_bench 42 = .ok (.getfield 10, 3) := by decide +kernel
theorem dX9_bench_45 : decode cX9_bench 45 = .ok (.invokevirtual 207, 3) := by decide +kernel
theorem dX9_bench_48 : decode cX9_bench 48 = .ok (.iconst 1, 1) := by decide +kernel
theorem dX9_bench_49 : decode cX9_bench 49 = .ok (.iload_n 1, 1) := by decide +kernel
theorem dX9_bench_50 : decode cX9_bench 50 = .ok (.ishl, 1) := by decide +kernel
theorem dX9_bench_51 : decode cX9_bench 51 = .ok (.ixor, 1) := by decide +kernel
theorem dX9_bench_52 : decode cX9_bench 52 = .ok (.aload_n 0, 1) := by decide +kernel
theorem dX9_bench_53 : decode cX9_bench 53 = .ok (.getfield 10, 3) := by decide +kernel
theorem dX9_bench_56 : decode cX9_bench 56 = .ok (.getfield 135, 3) := by decide +kernel
theorem dX9_bench_59 : decode cX9_bench 59 = .ok (.invokevirtual 274, 3) := by decide +kernel
theorem dX9_bench_62 : decode cX9_bench 62 = .ok (.iload_n 2, 1) := by decide +kernel
theorem dX9_bench_63 : decode cX9_bench 63 = .ok (.tableswitch 49 0 2 #[25, 35, 42], 25) := by decide +kernel
theorem dX9_bench_88 : decode cX9_bench 88 = .ok (.aload_n 0, 1) := by decide +kernel
theorem dX9_bench_89 : decode cX9_bench 89 = .ok (.getfield 21, 3) := by decide +kernel
theorem dX9_bench_92 : decode cX9_bench 92 = .ok (.invokevirtual 241, 3) := by decide +kernel
theorem dX9_bench_95 : decode cX9_bench 95 = .ok (.lload_n 3, 1) := by decide +kernel
theorem dX9_bench_96 : decode cX9_bench 96 = .ok (.lsub, 1) := by decide +kernel
theorem dX9_bench_97 : decode cX9_bench 97 = .ok (.lreturn, 1) := by decide +kernel
theorem dX9_bench_98 : decode cX9_bench 98 = .ok (.aload_n 0, 1) := by decide +kernel
theorem dX9_bench_99 : decode cX9_bench 99 = .ok (.iconst 1, 1) := by decide +kernel
theorem dX9_bench_100 : decode cX9_bench 100 = .ok (.invokevirtual 301, 3) := by decide +kernel
theorem dX9_bench_103 : decode cX9_bench 103 = .ok (.i2l, 1) := by decide +kernel
theorem dX9_bench_104 : decode cX9_bench 104 = .ok (.lreturn, 1) := by decide +kernel
theorem dX9_bench_105 : decode cX9_bench 105 = .ok (.aload_n 0, 1) := by decide +kernel
theorem dX9_bench_106 : decode cX9_bench 106 = .ok (.iconst (-1), 1) := by decide +kernel
theorem dX9_bench_107 : decode cX9_bench 107 = .ok (.invokevirtual 301, 3) := by decide +kernel
theorem dX9_bench_110 : decode cX9_bench 110 = .ok (.i2l, 1) := by decide +kernel
theorem dX9_bench_111 : decode cX9_bench 111 = .ok (.lreturn, 1) := by decide +kernel
theorem dX9_bench_112 : decode cX9_bench 112 = .ok (.aload_n 0, 1) := by decide +kernel
theorem dX9_bench_113 : decode cX9_bench 113 = .ok (.invokevirtual 304, 3) := by decide +kernel
theorem dX9_bench_116 : decode cX9_bench 116 = .ok (.i2l, 1) := by decide +kernel
theorem dX9_bench_117 : decode cX9_bench 117 = .ok (.lreturn, 1) := by decide +kernel
theorem dX9_give_0 : decode cX9_give 0 = .ok (.aload_n 0, 1) := by decide +kernel
theorem dX9_give_1 : decode cX9_give 1 = .ok (.getfield 21, 3) := by decide +kernel
theorem dX9_give_4 : decode cX9_give 4 = .ok (.invokevirtual 254, 3) := by decide +kernel
theorem dX9_give_7 : decode cX9_give 7 = .ok (.aload_n 0, 1) := by decide +kernel
theorem dX9_give_8 : decode cX9_give 8 = .ok (.aload_n 0, 1) := by decide +kernel
theorem dX9_give_9 : decode cX9_give 9 = .ok (.getfield 10, 3) := by decide +kernel
theorem dX9_give_12 : decode cX9_give 12 = .ok (.invokevirtual 207, 3) := by decide +kernel
theorem dX9_give_15 : decode cX9_give 15 = .ok (.invokevirtual 307, 3) := by decide +kernel
theorem dX9_give_18 : decode cX9_give 18 = .ok (.ireturn, 1) := by decide +kernel
theorem dX9_order_0 : decode cX9_order 0 = .ok (.iload_n 1, 1) := by decide +kernel
theorem dX9_order_1 : decode cX9_order 1 = .ok (.iconst 0, 1) := by decide +kernel
theorem dX9_order_2 : decode cX9_order 2 = .ok (.bipush 8, 2) := by decide +kernel
theorem dX9_order_4 : decode cX9_order 4 = .ok (.invokestatic 111, 3) := by decide +kernel
theorem dX9_order_7 : decode cX9_order 7 = .ok (.ifCond .ne 6, 3) := by decide +kernel
theorem dX9_order_10 : decode cX9_order 10 = .ok (.bipush (-2), 2) := by decide +kernel
theorem dX9_order_12 : decode cX9_order 12 = .ok (.ireturn, 1) := by decide +kernel
theorem dX9_order_13 : decode cX9_order 13 = .ok (.aload_n 0, 1) := by decide +kernel
theorem dX9_order_14 : decode cX9_order 14 = .ok (.getfield 21, 3) := by decide +kernel
theorem dX9_order_17 : decode cX9_order 17 = .ok (.invokevirtual 254, 3) := by decide +kernel
theorem dX9_order_20 : decode cX9_order 20 = .ok (.aload_n 0, 1) := by decide +kernel
theorem dX9_order_21 : decode cX9_order 21 = .ok (.getfield 10, 3) := by decide +kernel
theorem dX9_order_24 : decode cX9_order 24 = .ok (.invokevirtual 207, 3) := by decide +kernel
theorem dX9_order_27 : decode cX9_order 27 = .ok (.istore_n 2, 1) := by decide +kernel
theorem dX9_order_28 : decode cX9_order 28 = .ok (.iconst 0, 1) := by decide +kernel
theorem dX9_order_29 : decode cX9_order 29 = .ok (.istore_n 3, 1) := by decide +kernel
theorem dX9_order_30 : decode cX9_order 30 = .ok (.iconst 0, 1) := by decide +kernel
theorem dX9_order_31 : decode cX9_order 31 = .ok (.istore 4, 2) := by decide +kernel
theorem dX9_order_33 : decode cX9_order 33 = .ok (.iload 4, 2) := by decide +kernel
theorem dX9_order_35 : decode cX9_order 35 = .ok (.iload_n 1, 1) := by decide +kernel
theorem dX9_order_36 : decode cX9_order 36 = .ok (.if_icmp .ge 39, 3) := by decide +kernel
theorem dX9_order_39 : decode cX9_order 39 = .ok (.iload_n 2, 1) := by decide +kernel
theorem dX9_order_40 : decode cX9_order 40 = .ok (.ifCond .eq 35, 3) := by decide +kernel
theorem dX9_order_43 : decode cX9_order 43 = .ok (.aload_n 0, 1) := by decide +kernel
theorem dX9_order_44 : decode cX9_order 44 = .ok (.iload_n 2, 1) := by decide +kernel
theorem dX9_order_45 : decode cX9_order 45 = .ok (.invokevirtual 307, 3) := by decide +kernel
theorem dX9_order_48 : decode cX9_order 48 = .ok (.istore 5, 2) := by decide +kernel
theorem dX9_order_50 : decode cX9_order 50 = .ok (.iload_n 2, 1) := by decide +kernel
theorem dX9_order_51 : decode cX9_order 51 = .ok (.iconst 1, 1) := by decide +kernel
theorem dX9_order_52 : decode cX9_order 52 = .ok (.iload 5, 2) := by decide +kernel
theorem dX9_order_54 : decode cX9_order 54 = .ok (.ishl, 1) := by decide +kernel
theorem dX9_order_55 : decode cX9_order 55 = .ok (.iconst (-1), 1) := by decide +kernel
theorem dX9_order_56 : decode cX9_order 56 = .ok (.ixor, 1) := by decide +kernel
theorem dX9_order_57 : decode cX9_order 57 = .ok (.iand, 1) := by decide +kernel
theorem dX9_order_58 : decode cX9_order 58 = .ok (.istore_n 2, 1) := by decide +kernel
theorem dX9_order_59 : decode cX9_order 59 = .ok (.iload_n 3, 1) := by decide +kernel
theorem dX9_order_60 : decode cX9_order 60 = .ok (.bipush 10, 2) := by decide +kernel
theorem dX9_order_62 : decode cX9_order 62 = .ok (.imul, 1) := by decide +kernel
theorem dX9_order_63 : decode cX9_order 63 = .ok (.iload 5, 2) := by decide +kernel
theorem dX9_order_65 : decode cX9_order 65 = .ok (.iadd, 1) := by decide +kernel
theorem dX9_order_66 : decode cX9_order 66 = .ok (.iconst 1, 1) := by decide +kernel
theorem dX9_order_67 : decode cX9_order 67 = .ok (.iadd, 1) := by decide +kernel
theorem dX9_order_68 : decode cX9_order 68 = .ok (.istore_n 3, 1) := by decide +kernel
theorem dX9_order_69 : decode cX9_order 69 = .ok (.iinc 4 1, 3) := by decide +kernel
theorem dX9_order_72 : decode cX9_order 72 = .ok (.goto (-39), 3) := by decide +kernel
theorem dX9_order_75 : decode cX9_order 75 = .ok (.iload_n 3, 1) := by decide +kernel
theorem dX9_order_76 : decode cX9_order 76 = .ok (.ireturn, 1) := by decide +kernel
theorem dX9_thins_0 : decode cX9_thins 0 = .ok (.aload_n 0, 1) := by decide +kernel
theorem dX9_thins_1 : decode cX9_thins 1 = .ok (.getfield 21, 3) := by decide +kernel
theorem dX9_thins_4 : decode cX9_thins 4 = .ok (.invokevirtual 254, 3) := by decide +kernel
theorem dX9_thins_7 : decode cX9_thins 7 = .ok (.iconst 0, 1) := by decide +kernel
theorem dX9_thins_8 : decode cX9_thins 8 = .ok (.istore_n 1, 1) := by decide +kernel
theorem dX9_thins_9 : decode cX9_thins 9 = .ok (.iconst 0, 1) := by decide +kernel
theorem dX9_thins_10 : decode cX9_thins 10 = .ok (.istore_n 2, 1) := by decide +kernel
theorem dX9_thins_11 : decode cX9_thins 11 = .ok (.iload_n 2, 1) := by decide +kernel
theorem dX9_thins_12 : decode cX9_thins 12 = .ok (.bipush 8, 2) := by decide +kernel
theorem dX9_thins_14 : decode cX9_thins 14 = .ok (.if_icmp .ge 71, 3) := by decide +kernel
theorem dX9_thins_17 : decode cX9_thins 17 = .ok (.aload_n 0, 1) := by decide +kernel
theorem dX9_thins_18 : decode cX9_thins 18 = .ok (.getfield 10, 3) := by decide +kernel
theorem dX9_thins_21 : decode cX9_thins 21 = .ok (.invokevirtual 207, 3) := by decide +kernel
theorem dX9_thins_24 : decode cX9_thins 24 = .ok (.istore_n 3, 1) := by decide +kernel
theorem dX9_thins_25 : decode cX9_thins 25 = .ok (.aload_n 0, 1) := by decide +kernel
theorem dX9_thins_26 : decode cX9_thins 26 = .ok (.iload_n 3, 1) := by decide +kernel
theorem dX9_thins_27 : decode cX9_thins 27 = .ok (.invokevirtual 307, 3) := by decide +kernel
theorem dX9_thins_30 : decode cX9_thins 30 = .ok (.istore 4, 2) := by decide +kernel
theorem dX9_thins_32 : decode cX9_thins 32 = .ok (.iload 4, 2) := by decide +kernel
theorem dX9_thins_34 : decode cX9_thins 34 = .ok (.iconst (-1), 1) := by decide +kernel
theorem dX9_thins_35 : decode cX9_thins 35 = .ok (.if_icmp .eq 50, 3) := by decide +kernel
theorem dX9_thins_38 : decode cX9_thins 38 = .ok (.aload_n 0, 1) := by decide +kernel
theorem dX9_thins_39 : decode cX9_thins 39 = .ok (.iload_n 3, 1) := by decide +kernel
theorem dX9_thins_40 : decode cX9_thins 40 = .ok (.iconst 1, 1) := by decide +kernel
theorem dX9_thins_41 : decode cX9_thins 41 = .ok (.iload 4, 2) := by decide +kernel
theorem dX9_thins_43 : decode cX9_thins 43 = .ok (.ishl, 1) := by decide +kernel
theorem dX9_thins_44 : decode cX9_thins 44 = .ok (.iconst (-1), 1) := by decide +kernel
theorem dX9_thins_45 : decode cX9_thins 45 = .ok (.ixor, 1) := by decide +kernel
theorem dX9_thins_46 : decode cX9_thins 46 = .ok (.iand, 1) := by decide +kernel
theorem dX9_thins_47 : decode cX9_thins 47 = .ok (.invokevirtual 262, 3) := by decide +kernel
theorem dX9_thins_50 : decode cX9_thins 50 = .ok (.aload_n 0, 1) := by decide +kernel
theorem dX9_thins_51 : decode cX9_thins 51 = .ok (.iload_n 3, 1) := by decide +kernel
theorem dX9_thins_52 : decode cX9_thins 52 = .ok (.invokevirtual 262, 3) := by decide +kernel
theorem dX9_thins_55 : decode cX9_thins 55 = .ok (.lcmp, 1) := by decide +kernel
theorem dX9_thins_56 : decode cX9_thins 56 = .ok (.ifCond .le 6, 3) := by decide +kernel
theorem dX9_thins_59 : decode cX9_thins 59 = .ok (.goto 26, 3) := by decide +kernel
theorem dX9_thins_62 : decode cX9_thins 62 = .ok (.aload_n 0, 1) := by decide +kernel
theorem dX9_thins_63 : decode cX9_thins 63 = .ok (.getfield 10, 3) := by decide +kernel
theorem dX9_thins_66 : decode cX9_thins 66 = .ok (.getfield 154, 3) := by decide +kernel
theorem dX9_thins_69 : decode cX9_thins 69 = .ok (.iload 4, 2) := by decide +kernel
theorem dX9_thins_71 : decode cX9_thins 71 = .ok (.aaload, 1) := by decide +kernel
theorem dX9_thins_72 : decode cX9_thins 72 = .ok (.iconst 0, 1) := by decide +kernel
theorem dX9_thins_73 : decode cX9_thins 73 = .ok (.putfield 167, 3) := by decide +kernel
theorem dX9_thins_76 : decode cX9_thins 76 = .ok (.iinc 1 1, 3) := by decide +kernel
theorem dX9_thins_79 : decode cX9_thins 79 = .ok (.iinc 2 1, 3) := by decide +kernel
theorem dX9_thins_82 : decode cX9_thins 82 = .ok (.goto (-71), 3) := by decide +kernel
theorem dX9_thins_85 : decode cX9_thins 85 = .ok (.iload_n 1, 1) := by decide +kernel
theorem dX9_thins_86 : decode cX9_thins 86 = .ok (.ireturn, 1) := by decide +kernel
theorem dX9_across_0 : decode cX9_across 0 = .ok (.aload_n 0, 1) := by decide +kernel
theorem dX9_across_1 : decode cX9_across 1 = .ok (.iload_n 1, 1) := by decide +kernel
theorem dX9_across_2 : decode cX9_across 2 = .ok (.invokevirtual 164, 3) := by decide +kernel
theorem dX9_across_5 : decode cX9_across 5 = .ok (.ifCond .eq 19, 3) := by decide +kernel
theorem dX9_across_8 : decode cX9_across 8 = .ok (.aload_n 0, 1) := by decide +kernel
theorem dX9_across_9 : decode cX9_across 9 = .ok (.getfield 10, 3) := by decide +kernel
theorem dX9_across_12 : decode cX9_across 12 = .ok (.getfield 154, 3) := by decide +kernel
theorem dX9_across_15 : decode cX9_across 15 = .ok (.iload_n 1, 1) := by decide +kernel
theorem dX9_across_16 : decode cX9_across 16 = .ok (.aaload, 1) := by decide +kernel
theorem dX9_across_17 : decode cX9_across 17 = .ok (.getfield 181, 3) := by decide +kernel
theorem dX9_across_20 : decode cX9_across 20 = .ok (.iconst 3, 1) := by decide +kernel
theorem dX9_across_21 : decode cX9_across 21 = .ok (.if_icmp .eq 7, 3) := by decide +kernel
theorem dX9_across_24 : decode cX9_across 24 = .ok (.ldc2_w 239, 3) := by decide +kernel
theorem dX9_across_27 : decode cX9_across 27 = .ok (.lreturn, 1) := by decide +kernel
theorem dX9_across_28 : decode cX9_across 28 = .ok (.aload_n 0, 1) := by decide +kernel
theorem dX9_across_29 : decode cX9_across 29 = .ok (.invokevirtual 218, 3) := by decide +kernel
theorem dX9_across_32 : decode cX9_across 32 = .ok (.aload_n 0, 1) := by decide +kernel
theorem dX9_across_33 : decode cX9_across 33 = .ok (.getfield 21, 3) := by decide +kernel
theorem dX9_across_36 : decode cX9_across 36 = .ok (.invokevirtual 241, 3) := by decide +kernel
theorem dX9_across_39 : decode cX9_across 39 = .ok (.lstore_n 2, 1) := by decide +kernel
theorem dX9_across_40 : decode cX9_across 40 = .ok (.aload_n 0, 1) := by decide +kernel
theorem dX9_across_41 : decode cX9_across 41 = .ok (.getfield 21, 3) := by decide +kernel
theorem dX9_across_44 : decode cX9_across 44 = .ok (.getfield 310, 3) := by decide +kernel
theorem dX9_across_47 : decode cX9_across 47 = .ok (.iload_n 1, 1) := by decide +kernel
theorem dX9_across_48 : decode cX9_across 48 = .ok (.aload_n 0, 1) := by decide +kernel
theorem dX9_across_49 : decode cX9_across 49 = .ok (.getfield 10, 3) := by decide +kernel
theorem dX9_across_52 : decode cX9_across 52 = .ok (.getfield 154, 3) := by decide +kernel
theorem dX9_across_55 : decode cX9_across 55 = .ok (.iload_n 1, 1) := by decide +kernel
theorem dX9_across_56 : decode cX9_across 56 = .ok (.aaload, 1) := by decide +kernel
theorem dX9_across_57 : decode cX9_across 57 = .ok (.getfield 313, 3) := by decide +kernel
theorem dX9_across_60 : decode cX9_across 60 = .ok (.iastore, 1) := by decide +kernel
theorem dX9_across_61 : decode cX9_across 61 = .ok (.lload_n 2, 1) := by decide +kernel
theorem dX9_across_62 : decode cX9_across 62 = .ok (.aload_n 0, 1) := by decide +kernel
theorem dX9_across_63 : decode cX9_across 63 = .ok (.aload_n 0, 1) := by decide +kernel
theorem dX9_across_64 : decode cX9_across 64 = .ok (.getfield 10, 3) := by decide +kernel
theorem dX9_across_67 : decode cX9_across 67 = .ok (.invokevirtual 207, 3) := by decide +kernel
theorem dX9_across_70 : decode cX9_across 70 = .ok (.invokevirtual 262, 3) := by decide +kernel
theorem dX9_across_73 : decode cX9_across 73 = .ok (.lsub, 1) := by decide +kernel
theorem dX9_across_74 : decode cX9_across 74 = .ok (.lreturn, 1) := by decide +kernel
theorem dX9_homes_0 : decode cX9_homes 0 = .ok (.aload_n 0, 1) := by decide +kernel
theorem dX9_homes_1 : decode cX9_homes 1 = .ok (.getfield 21, 3) := by decide +kernel
theorem dX9_homes_4 : decode cX9_homes 4 = .ok (.invokevirtual 254, 3) := by decide +kernel
theorem dX9_homes_7 : decode cX9_homes 7 = .ok (.aload_n 0, 1) := by decide +kernel
theorem dX9_homes_8 : decode cX9_homes 8 = .ok (.aload_n 0, 1) := by decide +kernel
theorem dX9_homes_9 : decode cX9_homes 9 = .ok (.getfield 10, 3) := by decide +kernel
theorem dX9_homes_12 : decode cX9_homes 12 = .ok (.getfield 135, 3) := by decide +kernel
theorem dX9_homes_15 : decode cX9_homes 15 = .ok (.invokevirtual 316, 3) := by decide +kernel
theorem dX9_homes_18 : decode cX9_homes 18 = .ok (.ireturn, 1) := by decide +kernel
theorem dX9_round_0 : decode cX9_round 0 = .ok (.iload_n 1, 1) := by decide +kernel
theorem dX9_round_1 : decode cX9_round 1 = .ok (.iconst 0, 1) := by decide +kernel
theorem dX9_round_2 : decode cX9_round 2 = .ok (.bipush 20, 2) := by decide +kernel
theorem dX9_round_4 : decode cX9_round 4 = .ok (.invokestatic 111, 3) := by decide +kernel
theorem dX9_round_7 : decode cX9_round 7 = .ok (.ifCond .ne 6, 3) := by decide +kernel
theorem dX9_round_10 : decode cX9_round 10 = .ok (.bipush (-2), 2) := by decide +kernel
theorem dX9_round_12 : decode cX9_round 12 = .ok (.ireturn, 1) := by decide +kernel
theorem dX9_round_13 : decode cX9_round 13 = .ok (.aload_n 0, 1) := by decide +kernel
theorem dX9_round_14 : decode cX9_round 14 = .ok (.iload_n 1, 1) := by decide +kernel
theorem dX9_round_15 : decode cX9_round 15 = .ok (.invokevirtual 319, 3) := by decide +kernel
theorem dX9_round_18 : decode cX9_round 18 = .ok (.aload_n 0, 1) := by decide +kernel
theorem dX9_round_19 : decode cX9_round 19 = .ok (.getfield 74, 3) := by decide +kernel
theorem dX9_round_22 : decode cX9_round 22 = .ok (.iload_n 1, 1) := by decide +kernel
theorem dX9_round_23 : decode cX9_round 23 = .ok (.iaload, 1) := by decide +kernel
theorem dX9_round_24 : decode cX9_round 24 = .ok (.ireturn, 1) := by decide +kernel
theorem dX9_rest_0 : decode cX9_rest 0 = .ok (.iload_n 1, 1) := by decide +kernel
theorem dX9_rest_1 : decode cX9_rest 1 = .ok (.iconst 0, 1) := by decide +kernel
theorem dX9_rest_2 : decode cX9_rest 2 = .ok (.iconst 2, 1) := by decide +kernel
theorem dX9_rest_3 : decode cX9_rest 3 = .ok (.invokestatic 111, 3) := by decide +kernel
theorem dX9_rest_6 : decode cX9_rest 6 = .ok (.ifCond .ne 6, 3) := by decide +kernel
theorem dX9_rest_9 : decode cX9_rest 9 = .ok (.bipush (-2), 2) := by decide +kernel
theorem dX9_rest_11 : decode cX9_rest 11 = .ok (.ireturn, 1) := by decide +kernel
theorem dX9_rest_12 : decode cX9_rest 12 = .ok (.aload_n 0, 1) := by decide +kernel
theorem dX9_rest_13 : decode cX9_rest 13 = .ok (.bipush 20, 2) := by decide +kernel
theorem dX9_rest_15 : decode cX9_rest 15 = .ok (.invokevirtual 319, 3) := by decide +kernel
theorem dX9_rest_18 : decode cX9_rest 18 = .ok (.iconst 1, 1) := by decide +kernel
theorem dX9_rest_19 : decode cX9_rest 19 = .ok (.istore_n 2, 1) := by decide +kernel
theorem dX9_rest_20 : decode cX9_rest 20 = .ok (.iload_n 2, 1) := by decide +kernel
theorem dX9_rest_21 : decode cX9_rest 21 = .ok (.bipush 20, 2) := by decide +kernel
theorem dX9_rest_23 : decode cX9_rest 23 = .ok (.if_icmp .gt 63, 3) := by decide +kernel
theorem dX9_rest_26 : decode cX9_rest 26 = .ok (.iconst 0, 1) := by decide +kernel
theorem dX9_rest_27 : decode cX9_rest 27 = .ok (.istore_n 3, 1) := by decide +kernel
theorem dX9_rest_28 : decode cX9_rest 28 = .ok (.iload_n 3, 1) := by decide +kernel
theorem dX9_rest_29 : decode cX9_rest 29 = .ok (.iload_n 2, 1) := by decide +kernel
theorem dX9_rest_30 : decode cX9_rest 30 = .ok (.if_icmp .ge 50, 3) := by decide +kernel
theorem dX9_rest_33 : decode cX9_rest 33 = .ok (.aload_n 0, 1) := by decide +kernel
theorem dX9_rest_34 : decode cX9_rest 34 = .ok (.getfield 74, 3) := by decide +kernel
theorem dX9_rest_37 : decode cX9_rest 37 = .ok (.iload_n 3, 1) := by decide +kernel
theorem dX9_rest_38 : decode cX9_rest 38 = .ok (.iaload, 1) := by decide +kernel
theorem dX9_rest_39 : decode cX9_rest 39 = .ok (.aload_n 0, 1) := by decide +kernel
theorem dX9_rest_40 : decode cX9_rest 40 = .ok (.getfield 74, 3) := by decide +kernel
theorem dX9_rest_43 : decode cX9_rest 43 = .ok (.iload_n 2, 1) := by decide +kernel
theorem dX9_rest_44 : decode cX9_rest 44 = .ok (.iaload, 1) := by decide +kernel
theorem dX9_rest_45 : decode cX9_rest 45 = .ok (.if_icmp .ne 29, 3) := by decide +kernel
theorem dX9_rest_48 : decode cX9_rest 48 = .ok (.iload_n 1, 1) := by decide +kernel
theorem dX9_rest_49 : decode cX9_rest 49 = .ok (.ifCond .ne 12, 3) := by decide +kernel
theorem dX9_rest_52 : decode cX9_rest 52 = .ok (.aload_n 0, 1) := by decide +kernel
theorem dX9_rest_53 : decode cX9_rest 53 = .ok (.getfield 74, 3) := by decide +kernel
theorem dX9_rest_56 : decode cX9_rest 56 = .ok (.iload_n 3, 1) := by decide +kernel
theorem dX9_rest_57 : decode cX9_rest 57 = .ok (.iaload, 1) := by decide +kernel
theorem dX9_rest_58 : decode cX9_rest 58 = .ok (.goto 15, 3) := by decide +kernel
theorem dX9_rest_61 : decode cX9_rest 61 = .ok (.iload_n 1, 1) := by decide +kernel
theorem dX9_rest_62 : decode cX9_rest 62 = .ok (.iconst 1, 1) := by decide +kernel
theorem dX9_rest_63 : decode cX9_rest 63 = .ok (.if_icmp .ne 7, 3) := by decide +kernel
theorem dX9_rest_66 : decode cX9_rest 66 = .ok (.iload_n 3, 1) := by decide +kernel
theorem dX9_rest_67 : decode cX9_rest 67 = .ok (.goto 6, 3) := by decide +kernel
theorem dX9_rest_70 : decode cX9_rest 70 = .ok (.iload_n 2, 1) := by decide +kernel
theorem dX9_rest_71 : decode cX9_rest 71 = .ok (.iload_n 3, 1) := by decide +kernel
theorem dX9_rest_72 : decode cX9_rest 72 = .ok (.isub, 1) := by decide +kernel
theorem dX9_rest_73 : decode cX9_rest 73 = .ok (.ireturn, 1) := by decide +kernel
theorem dX9_rest_74 : decode cX9_rest 74 = .ok (.iinc 3 1, 3) := by decide +kernel
theorem dX9_rest_77 : decode cX9_rest 77 = .ok (.goto (-49), 3) := by decide +kernel
theorem dX9_rest_80 : decode cX9_rest 80 = .ok (.iinc 2 1, 3) := by decide +kernel
theorem dX9_rest_83 : decode cX9_rest 83 = .ok (.goto (-63), 3) := by decide +kernel
theorem dX9_rest_86 : decode cX9_rest 86 = .ok (.bipush (-3), 2) := by decide +kernel
theorem dX9_rest_88 : decode cX9_rest 88 = .ok (.ireturn, 1) := by decide +kernel
theorem dX9_asks_0 : decode cX9_asks 0 = .ok (.aload_n 0, 1) := by decide +kernel
theorem dX9_asks_1 : decode cX9_asks 1 = .ok (.iload_n 1, 1) := by decide +kernel
theorem dX9_asks_2 : decode cX9_asks 2 = .ok (.invokevirtual 164, 3) := by decide +kernel
theorem dX9_asks_5 : decode cX9_asks 5 = .ok (.ifCond .ne 6, 3) := by decide +kernel
theorem dX9_asks_8 : decode cX9_asks 8 = .ok (.bipush (-5), 2) := by decide +kernel
theorem dX9_asks_10 : decode cX9_asks 10 = .ok (.ireturn, 1) := by decide +kernel
theorem dX9_asks_11 : decode cX9_asks 11 = .ok (.aload_n 0, 1) := by decide +kernel
theorem dX9_asks_12 : decode cX9_asks 12 = .ok (.invokevirtual 218, 3) := by decide +kernel
theorem dX9_asks_15 : decode cX9_asks 15 = .ok (.aload_n 0, 1) := by decide +kernel
theorem dX9_asks_16 : decode cX9_asks 16 = .ok (.iload_n 1, 1) := by decide +kernel
theorem dX9_asks_17 : decode cX9_asks 17 = .ok (.invokevirtual 322, 3) := by decide +kernel
theorem dX9_asks_20 : decode cX9_asks 20 = .ok (.ireturn, 1) := by decide +kernel
theorem dX9_asked_0 : decode cX9_asked 0 = .ok (.aload_n 0, 1) := by decide +kernel
theorem dX9_asked_1 : decode cX9_asked 1 = .ok (.invokevirtual 218, 3) := by decide +kernel
theorem dX9_asked_4 : decode cX9_asked 4 = .ok (.iconst 0, 1) := by decide +kernel
theorem dX9_asked_5 : decode cX9_asked 5 = .ok (.istore_n 1, 1) := by decide +kernel
theorem dX9_asked_6 : decode cX9_asked 6 = .ok (.iload_n 1, 1) := by decide +kernel
theorem dX9_asked_7 : decode cX9_asked 7 = .ok (.aload_n 0, 1) := by decide +kernel
theorem dX9_asked_8 : decode cX9_asked 8 = .ok (.getfield 10, 3) := by decide +kernel
theorem dX9_asked_11 : decode cX9_asked 11 = .ok (.getfield 151, 3) := by decide +kernel
theorem dX9_asked_14 : decode cX9_asked 14 = .ok (.if_icmp .ge 20, 3) := by decide +kernel
theorem dX9_asked_17 : decode cX9_asked 17 = .ok (.aload_n 0, 1) := by decide +kernel
theorem dX9_asked_18 : decode cX9_asked 18 = .ok (.getfield 83, 3) := by decide +kernel
theorem dX9_asked_21 : decode cX9_asked 21 = .ok (.iload_n 1, 1) := by decide +kernel
theorem dX9_asked_22 : decode cX9_asked 22 = .ok (.aload_n 0, 1) := by decide +kernel
theorem dX9_asked_23 : decode cX9_asked 23 = .ok (.iload_n 1, 1) := by decide +kernel
theorem dX9_asked_24 : decode cX9_asked 24 = .ok (.invokevirtual 322, 3) := by decide +kernel
theorem dX9_asked_27 : decode cX9_asked 27 = .ok (.iastore, 1) := by decide +kernel
theorem dX9_asked_28 : decode cX9_asked 28 = .ok (.iinc 1 1, 3) := by decide +kernel
theorem dX9_asked_31 : decode cX9_asked 31 = .ok (.goto (-25), 3) := by decide +kernel
theorem dX9_asked_34 : decode cX9_asked 34 = .ok (.iconst 0, 1) := by decide +kernel
theorem dX9_asked_35 : decode cX9_asked 35 = .ok (.istore_n 1, 1) := by decide +kernel
theorem dX9_asked_36 : decode cX9_asked 36 = .ok (.iconst 0, 1) := by decide +kernel
theorem dX9_asked_37 : decode cX9_asked 37 = .ok (.istore_n 2, 1) := by decide +kernel
theorem dX9_asked_38 : decode cX9_asked 38 = .ok (.iload_n 2, 1) := by decide +kernel
theorem dX9_asked_39 : decode cX9_asked 39 = .ok (.aload_n 0, 1) := by decide +kernel
theorem dX9_asked_40 : decode cX9_asked 40 = .ok (.getfield 10, 3) := by decide +kernel
theorem dX9_asked_43 : decode cX9_asked 43 = .ok (.getfield 151, 3) := by decide +kernel
theorem dX9_asked_46 : decode cX9_asked 46 = .ok (.if_icmp .ge 51, 3) := by decide +kernel
theorem dX9_asked_49 : decode cX9_asked 49 = .ok (.aload_n 0, 1) := by decide +kernel
theorem dX9_asked_50 : decode cX9_asked 50 = .ok (.getfield 10, 3) := by decide +kernel
theorem dX9_asked_53 : decode cX9_asked 53 = .ok (.getfield 154, 3) := by decide +kernel
theorem dX9_asked_56 : decode cX9_asked 56 = .ok (.iload_n 2, 1) := by decide +kernel
theorem dX9_asked_57 : decode cX9_asked 57 = .ok (.aaload, 1) := by decide +kernel
theorem dX9_asked_58 : decode cX9_asked 58 = .ok (.getfield 175, 3) := by decide +kernel
theorem dX9_asked_61 : decode cX9_asked 61 = .ok (.aload_n 0, 1) := by decide +kernel
theorem dX9_asked_62 : decode cX9_asked 62 = .ok (.getfield 83, 3) := by decide +kernel
theorem dX9_asked_65 : decode cX9_asked 65 = .ok (.iload_n 2, 1) := by decide +kernel
theorem dX9_asked_66 : decode cX9_asked 66 = .ok (.iaload, 1) := by decide +kernel
theorem dX9_asked_67 : decode cX9_asked 67 = .ok (.if_icmp .eq 24, 3) := by decide +kernel
theorem dX9_asked_70 : decode cX9_asked 70 = .ok (.aload_n 0, 1) := by decide +kernel
theorem dX9_asked_71 : decode cX9_asked 71 = .ok (.getfield 10, 3) := by decide +kernel
theorem dX9_asked_74 : decode cX9_asked 74 = .ok (.getfield 154, 3) := by decide +kernel
theorem dX9_asked_77 : decode cX9_asked 77 = .ok (.iload_n 2, 1) := by decide +kernel
theorem dX9_asked_78 : decode cX9_asked 78 = .ok (.aaload, 1) := by decide +kernel
theorem dX9_asked_79 : decode cX9_asked 79 = .ok (.aload_n 0, 1) := by decide +kernel
theorem dX9_asked_80 : decode cX9_asked 80 = .ok (.getfield 83, 3) := by decide +kernel
theorem dX9_asked_83 : decode cX9_asked 83 = .ok (.iload_n 2, 1) := by decide +kernel
theorem dX9_asked_84 : decode cX9_asked 84 = .ok (.iaload, 1) := by decide +kernel
theorem dX9_asked_85 : decode cX9_asked 85 = .ok (.putfield 175, 3) := by decide +kernel
theorem dX9_asked_88 : decode cX9_asked 88 = .ok (.iinc 1 1, 3) := by decide +kernel
theorem dX9_asked_91 : decode cX9_asked 91 = .ok (.iinc 2 1, 3) := by decide +kernel
theorem dX9_asked_94 : decode cX9_asked 94 = .ok (.goto (-56), 3) := by decide +kernel
theorem dX9_asked_97 : decode cX9_asked 97 = .ok (.iload_n 1, 1) := by decide +kernel
theorem dX9_asked_98 : decode cX9_asked 98 = .ok (.ireturn, 1) := by decide +kernel
theorem dX9_bunch_0 : decode cX9_bunch 0 = .ok (.iload_n 1, 1) := by decide +kernel
theorem dX9_bunch_1 : decode cX9_bunch 1 = .ok (.iconst 0, 1) := by decide +kernel
theorem dX9_bunch_2 : decode cX9_bunch 2 = .ok (.bipush 11, 2) := by decide +kernel
theorem dX9_bunch_4 : decode cX9_bunch 4 = .ok (.invokestatic 111, 3) := by decide +kernel
theorem dX9_bunch_7 : decode cX9_bunch 7 = .ok (.ifCond .eq 14, 3) := by decide +kernel
theorem dX9_bunch_10 : decode cX9_bunch 10 = .ok (.iload_n 2, 1) := by decide +kernel
theorem dX9_bunch_11 : decode cX9_bunch 11 = .ok (.iconst 0, 1) := by decide +kernel
theorem dX9_bunch_12 : decode cX9_bunch 12 = .ok (.sipush 3600, 3) := by decide +kernel
theorem dX9_bunch_15 : decode cX9_bunch 15 = .ok (.invokestatic 111, 3) := by decide +kernel
theorem dX9_bunch_18 : decode cX9_bunch 18 = .ok (.ifCond .ne 6, 3) := by decide +kernel
theorem dX9_bunch_21 : decode cX9_bunch 21 = .ok (.bipush (-2), 2) := by decide +kernel
theorem dX9_bunch_23 : decode cX9_bunch 23 = .ok (.ireturn, 1) := by decide +kernel
theorem dX9_bunch_24 : decode cX9_bunch 24 = .ok (.aload_n 0, 1) := by decide +kernel
theorem dX9_bunch_25 : decode cX9_bunch 25 = .ok (.iload_n 1, 1) := by decide +kernel
theorem dX9_bunch_26 : decode cX9_bunch 26 = .ok (.iconst 1, 1) := by decide +kernel
theorem dX9_bunch_27 : decode cX9_bunch 27 = .ok (.iadd, 1) := by decide +kernel
theorem dX9_bunch_28 : decode cX9_bunch 28 = .ok (.iload_n 2, 1) := by decide +kernel
theorem dX9_bunch_29 : decode cX9_bunch 29 = .ok (.invokevirtual 325, 3) := by decide +kernel
theorem dX9_bunch_32 : decode cX9_bunch 32 = .ok (.aload_n 0, 1) := by decide +kernel
theorem dX9_bunch_33 : decode cX9_bunch 33 = .ok (.getfield 80, 3) := by decide +kernel
theorem dX9_bunch_36 : decode cX9_bunch 36 = .ok (.iload_n 1, 1) := by decide +kernel
theorem dX9_bunch_37 : decode cX9_bunch 37 = .ok (.iaload, 1) := by decide +kernel
theorem dX9_bunch_38 : decode cX9_bunch 38 = .ok (.ireturn, 1) := by decide +kernel
theorem dX9_crowd_0 : decode cX9_crowd 0 = .ok (.iload_n 1, 1) := by decide +kernel
theorem dX9_crowd_1 : decode cX9_crowd 1 = .ok (.iconst 2, 1) := by decide +kernel
theorem dX9_crowd_2 : decode cX9_crowd 2 = .ok (.bipush 12, 2) := by decide +kernel
theorem dX9_crowd_4 : decode cX9_crowd 4 = .ok (.invokestatic 111, 3) := by decide +kernel
theorem dX9_crowd_7 : decode cX9_crowd 7 = .ok (.ifCond .eq 14, 3) := by decide +kernel
theorem dX9_crowd_10 : decode cX9_crowd 10 = .ok (.iload_n 2, 1) := by decide +kernel
theorem dX9_crowd_11 : decode cX9_crowd 11 = .ok (.iconst 0, 1) := by decide +kernel
theorem dX9_crowd_12 : decode cX9_crowd 12 = .ok (.sipush 3600, 3) := by decide +kernel
theorem dX9_crowd_15 : decode cX9_crowd 15 = .ok (.invokestatic 111, 3) := by decide +kernel
theorem dX9_crowd_18 : decode cX9_crowd 18 = .ok (.ifCond .ne 6, 3) := by decide +kernel
theorem dX9_crowd_21 : decode cX9_crowd 21 = .ok (.bipush (-2), 2) := by decide +kernel
theorem dX9_crowd_23 : decode cX9_crowd 23 = .ok (.ireturn, 1) := by decide +kernel
theorem dX9_crowd_24 : decode cX9_crowd 24 = .ok (.aload_n 0, 1) := by decide +kernel
theorem dX9_crowd_25 : decode cX9_crowd 25 = .ok (.iload_n 1, 1) := by decide +kernel
theorem dX9_crowd_26 : decode cX9_crowd 26 = .ok (.iload_n 2, 1) := by decide +kernel
theorem dX9_crowd_27 : decode cX9_crowd 27 = .ok (.invokevirtual 325, 3) := by decide +kernel
theorem dX9_crowd_30 : decode cX9_crowd 30 = .ok (.aload_n 0, 1) := by decide +kernel
theorem dX9_crowd_31 : decode cX9_crowd 31 = .ok (.getfield 80, 3) := by decide +kernel
theorem dX9_crowd_34 : decode cX9_crowd 34 = .ok (.iconst 1, 1) := by decide +kernel
theorem dX9_crowd_35 : decode cX9_crowd 35 = .ok (.iaload, 1) := by decide +kernel
theorem dX9_crowd_36 : decode cX9_crowd 36 = .ok (.aload_n 0, 1) := by decide +kernel
theorem dX9_crowd_37 : decode cX9_crowd 37 = .ok (.getfield 80, 3) := by decide +kernel
theorem dX9_crowd_40 : decode cX9_crowd 40 = .ok (.iconst 0, 1) := by decide +kernel
theorem dX9_crowd_41 : decode cX9_crowd 41 = .ok (.iaload, 1) := by decide +kernel
theorem dX9_crowd_42 : decode cX9_crowd 42 = .ok (.isub, 1) := by decide +kernel
theorem dX9_crowd_43 : decode cX9_crowd 43 = .ok (.istore_n 3, 1) := by decide +kernel
theorem dX9_crowd_44 : decode cX9_crowd 44 = .ok (.iconst 2, 1) := by decide +kernel
theorem dX9_crowd_45 : decode cX9_crowd 45 = .ok (.istore 4, 2) := by decide +kernel
theorem dX9_crowd_47 : decode cX9_crowd 47 = .ok (.iload 4, 2) := by decide +kernel
theorem dX9_crowd_49 : decode cX9_crowd 49 = .ok (.iload_n 1, 1) := by decide +kernel
theorem dX9_crowd_50 : decode cX9_crowd 50 = .ok (.if_icmp .ge 31, 3) := by decide +kernel
theorem dX9_crowd_53 : decode cX9_crowd 53 = .ok (.iload_n 3, 1) := by decide +kernel
theorem dX9_crowd_54 : decode cX9_crowd 54 = .ok (.aload_n 0, 1) := by decide +kernel
theorem dX9_crowd_55 : decode cX9_crowd 55 = .ok (.getfield 80, 3) := by decide +kernel
theorem dX9_crowd_58 : decode cX9_crowd 58 = .ok (.iload 4, 2) := by decide +kernel
theorem dX9_crowd_60 : decode cX9_crowd 60 = .ok (.iaload, 1) := by decide +kernel
theorem dX9_crowd_61 : decode cX9_crowd 61 = .ok (.aload_n 0, 1) := by decide +kernel
theorem dX9_crowd_62 : decode cX9_crowd 62 = .ok (.getfield 80, 3) := by decide +kernel
theorem dX9_crowd_65 : decode cX9_crowd 65 = .ok (.iload 4, 2) := by decide +kernel
theorem dX9_crowd_67 : decode cX9_crowd 67 = .ok (.iconst 1, 1) := by decide +kernel
theorem dX9_crowd_68 : decode cX9_crowd 68 = .ok (.isub, 1) := by decide +kernel
theorem dX9_crowd_69 : decode cX9_crowd 69 = .ok (.iaload, 1) := by decide +kernel
theorem dX9_crowd_70 : decode cX9_crowd 70 = .ok (.isub, 1) := by decide +kernel
theorem dX9_crowd_71 : decode cX9_crowd 71 = .ok (.invokestatic 293, 3) := by decide +kernel
theorem dX9_crowd_74 : decode cX9_crowd 74 = .ok (.istore_n 3, 1) := by decide +kernel
theorem dX9_crowd_75 : decode cX9_crowd 75 = .ok (.iinc 4 1, 3) := by decide +kernel
theorem dX9_crowd_78 : decode cX9_crowd 78 = .ok (.goto (-31), 3) := by decide +kernel
theorem dX9_crowd_81 : decode cX9_crowd 81 = .ok (.iload_n 3, 1) := by decide +kernel
theorem dX9_crowd_82 : decode cX9_crowd 82 = .ok (.ireturn, 1) := by decide +kernel
theorem dX9_drawn_0 : decode cX9_drawn 0 = .ok (.aload_n 0, 1) := by decide +kernel
theorem dX9_drawn_1 : decode cX9_drawn 1 = .ok (.iload_n 1, 1) := by decide +kernel
theorem dX9_drawn_2 : decode cX9_drawn 2 = .ok (.invokevirtual 215, 3) := by decide +kernel
theorem dX9_drawn_5 : decode cX9_drawn 5 = .ok (.ifCond .ne 6, 3) := by decide +kernel
theorem dX9_drawn_8 : decode cX9_drawn 8 = .ok (.bipush (-5), 2) := by decide +kernel
theorem dX9_drawn_10 : decode cX9_drawn 10 = .ok (.ireturn, 1) := by decide +kernel
theorem dX9_drawn_11 : decode cX9_drawn 11 = .ok (.iload_n 2, 1) := by decide +kernel
theorem dX9_drawn_12 : decode cX9_drawn 12 = .ok (.iconst 0, 1) := by decide +kernel
theorem dX9_drawn_13 : decode cX9_drawn 13 = .ok (.ldc_w 266, 3) := by decide +kernel
theorem dX9_drawn_16 : decode cX9_drawn 16 = .ok (.invokestatic 111, 3) := by decide +kernel
theorem dX9_drawn_19 : decode cX9_drawn 19 = .ok (.ifCond .ne 6, 3) := by decide +kernel
theorem dX9_drawn_22 : decode cX9_drawn 22 = .ok (.bipush (-7), 2) := by decide +kernel
theorem dX9_drawn_24 : decode cX9_drawn 24 = .ok (.ireturn, 1) := by decide +kernel
theorem dX9_drawn_25 : decode cX9_drawn 25 = .ok (.aload_n 0, 1) := by decide +kernel
theorem dX9_drawn_26 : decode cX9_drawn 26 = .ok (.invokevirtual 218, 3) := by decide +kernel
theorem dX9_drawn_29 : decode cX9_drawn 29 = .ok (.aload_n 0, 1) := by decide +kernel
theorem dX9_drawn_30 : decode cX9_drawn 30 = .ok (.aload_n 0, 1) := by decide +kernel
theorem dX9_drawn_31 : decode cX9_drawn 31 = .ok (.getfield 21, 3) := by decide +kernel
theorem dX9_drawn_34 : decode cX9_drawn 34 = .ok (.getfield 224, 3) := by decide +kernel
theorem dX9_drawn_37 : decode cX9_drawn 37 = .ok (.iload_n 1, 1) := by decide +kernel
theorem dX9_drawn_38 : decode cX9_drawn 38 = .ok (.iaload, 1) := by decide +kernel
theorem dX9_drawn_39 : decode cX9_drawn 39 = .ok (.invokevirtual 164, 3) := by decide +kernel
theorem dX9_drawn_42 : decode cX9_drawn 42 = .ok (.ifCond .eq 19, 3) := by decide +kernel
theorem dX9_drawn_45 : decode cX9_drawn 45 = .ok (.aload_n 0, 1) := by decide +kernel
theorem dX9_drawn_46 : decode cX9_drawn 46 = .ok (.aload_n 0, 1) := by decide +kernel
theorem dX9_drawn_47 : decode cX9_drawn 47 = .ok (.getfield 21, 3) := by decide +kernel
theorem dX9_drawn_50 : decode cX9_drawn 50 = .ok (.getfield 227, 3) := by decide +kernel
theorem dX9_drawn_53 : decode cX9_drawn 53 = .ok (.iload_n 1, 1) := by decide +kernel
theorem dX9_drawn_54 : decode cX9_drawn 54 = .ok (.iaload, 1) := by decide +kernel
theorem dX9_drawn_55 : decode cX9_drawn 55 = .ok (.invokevirtual 164, 3) := by decide +kernel
theorem dX9_drawn_58 : decode cX9_drawn 58 = .ok (.ifCond .ne 6, 3) := by decide +kernel
theorem dX9_drawn_61 : decode cX9_drawn 61 = .ok (.bipush (-3), 2) := by decide +kernel
theorem dX9_drawn_63 : decode cX9_drawn 63 = .ok (.ireturn, 1) := by decide +kernel
theorem dX9_drawn_64 : decode cX9_drawn 64 = .ok (.aload_n 0, 1) := by decide +kernel
theorem dX9_drawn_65 : decode cX9_drawn 65 = .ok (.aload_n 0, 1) := by decide +kernel
theorem dX9_drawn_66 : decode cX9_drawn 66 = .ok (.getfield 21, 3) := by decide +kernel
theorem dX9_drawn_69 : decode cX9_drawn 69 = .ok (.getfield 224, 3) := by decide +kernel
theorem dX9_drawn_72 : decode cX9_drawn 72 = .ok (.iload_n 1, 1) := by decide +kernel
theorem dX9_drawn_73 : decode cX9_drawn 73 = .ok (.iaload, 1) := by decide +kernel
theorem dX9_drawn_74 : decode cX9_drawn 74 = .ok (.aload_n 0, 1) := by decide +kernel
theorem dX9_drawn_75 : decode cX9_drawn 75 = .ok (.getfield 21, 3) := by decide +kernel
theorem dX9_drawn_78 : decode cX9_drawn 78 = .ok (.getfield 227, 3) := by decide +kernel
theorem dX9_drawn_81 : decode cX9_drawn 81 = .ok (.iload_n 1, 1) := by decide +kernel
theorem dX9_drawn_82 : decode cX9_drawn 82 = .ok (.iaload, 1) := by decide +kernel
theorem dX9_drawn_83 : decode cX9_drawn 83 = .ok (.iload_n 2, 1) := by decide +kernel
theorem dX9_drawn_84 : decode cX9_drawn 84 = .ok (.invokevirtual 328, 3) := by decide +kernel
theorem dX9_drawn_87 : decode cX9_drawn 87 = .ok (.ireturn, 1) := by decide +kernel
theorem dX9_image_0 : decode cX9_image 0 = .ok (.aload_n 0, 1) := by decide +kernel
theorem dX9_image_1 : decode cX9_image 1 = .ok (.getfield 57, 3) := by decide +kernel
theorem dX9_image_4 : decode cX9_image 4 = .ok (.aload_n 0, 1) := by decide +kernel
theorem dX9_image_5 : decode cX9_image 5 = .ok (.getfield 10, 3) := by decide +kernel
theorem dX9_image_8 : decode cX9_image 8 = .ok (.aload_n 0, 1) := by decide +kernel
theorem dX9_image_9 : decode cX9_image 9 = .ok (.getfield 51, 3) := by decide +kernel
theorem dX9_image_12 : decode cX9_image 12 = .ok (.invokevirtual 331, 3) := by decide +kernel
theorem dX9_image_15 : decode cX9_image 15 = .ok (.aload_n 0, 1) := by decide +kernel
theorem dX9_image_16 : decode cX9_image 16 = .ok (.getfield 10, 3) := by decide +kernel
theorem dX9_image_19 : decode cX9_image 19 = .ok (.getfield 151, 3) := by decide +kernel
theorem dX9_image_22 : decode cX9_image 22 = .ok (.ireturn, 1) := by decide +kernel
theorem dX9_back_0 : decode cX9_back 0 = .ok (.aload_n 0, 1) := by decide +kernel
theorem dX9_back_1 : decode cX9_back 1 = .ok (.getfield 57, 3) := by decide +kernel
theorem dX9_back_4 : decode cX9_back 4 = .ok (.getfield 335, 3) := by decide +kernel
theorem dX9_back_7 : decode cX9_back 7 = .ok (.ifCond .ne 6, 3) := by decide +kernel
theorem dX9_back_10 : decode cX9_back 10 = .ok (.bipush (-3), 2) := by decide +kernel
theorem dX9_back_12 : decode cX9_back 12 = .ok (.ireturn, 1) := by decide +kernel
theorem dX9_back_13 : decode cX9_back 13 = .ok (.aload_n 0, 1) := by decide +kernel
theorem dX9_back_14 : decode cX9_back 14 = .ok (.getfield 57, 3) := by decide +kernel
theorem dX9_back_17 : decode cX9_back 17 = .ok (.aload_n 0, 1) := by decide +kernel
theorem dX9_back_18 : decode cX9_back 18 = .ok (.getfield 10, 3) := by decide +kernel
theorem dX9_back_21 : decode cX9_back 21 = .ok (.invokevirtual 338, 3) := by decide +kernel
theorem dX9_back_24 : decode cX9_back 24 = .ok (.aload_n 0, 1) := by decide +kernel
theorem dX9_back_25 : decode cX9_back 25 = .ok (.aload_n 0, 1) := by decide +kernel
theorem dX9_back_26 : decode cX9_back 26 = .ok (.getfield 57, 3) := by decide +kernel
theorem dX9_back_29 : decode cX9_back 29 = .ok (.getfield 341, 3) := by decide +kernel
theorem dX9_back_32 : decode cX9_back 32 = .ok (.putfield 51, 3) := by decide +kernel
theorem dX9_back_35 : decode cX9_back 35 = .ok (.aload_n 0, 1) := by decide +kernel
theorem dX9_back_36 : decode cX9_back 36 = .ok (.getfield 10, 3) := by decide +kernel
theorem dX9_back_39 : decode cX9_back 39 = .ok (.getfield 151, 3) := by decide +kernel
theorem dX9_back_42 : decode cX9_back 42 = .ok (.ireturn, 1) := by decide +kernel
theorem dX9_sheet_0 : decode cX9_sheet 0 = .ok (.iload_n 1, 1) := by decide +kernel
theorem dX9_sheet_1 : decode cX9_sheet 1 = .ok (.invokestatic 279, 3) := by decide +kernel
theorem dX9_sheet_4 : decode cX9_sheet 4 = .ok (.ifCond .eq 12, 3) := by decide +kernel
theorem dX9_sheet_7 : decode cX9_sheet 7 = .ok (.iload_n 2, 1) := by decide +kernel
theorem dX9_sheet_8 : decode cX9_sheet 8 = .ok (.iconst (-1), 1) := by decide +kernel
theorem dX9_sheet_9 : decode cX9_sheet 9 = .ok (.iconst 2, 1) := by decide +kernel
theorem dX9_sheet_10 : decode cX9_sheet 10 = .ok (.invokestatic 111, 3) := by decide +kernel
theorem dX9_sheet_13 : decode cX9_sheet 13 = .ok (.ifCond .ne 6, 3) := by decide +kernel
theorem dX9_sheet_16 : decode cX9_sheet 16 = .ok (.bipush (-2), 2) := by decide +kernel
theorem dX9_sheet_18 : decode cX9_sheet 18 = .ok (.ireturn, 1) := by decide +kernel
theorem dX9_sheet_19 : decode cX9_sheet 19 = .ok (.iload_n 2, 1) := by decide +kernel
theorem dX9_sheet_20 : decode cX9_sheet 20 = .ok (.iconst (-1), 1) := by decide +kernel
theorem dX9_sheet_21 : decode cX9_sheet 21 = .ok (.if_icmp .eq 12, 3) := by decide +kernel
theorem dX9_sheet_24 : decode cX9_sheet 24 = .ok (.iload_n 3, 1) := by decide +kernel
theorem dX9_sheet_25 : decode cX9_sheet 25 = .ok (.bipush 41, 2) := by decide +kernel
theorem dX9_sheet_27 : decode cX9_sheet 27 = .ok (.if_icmp .le 6, 3) := by decide +kernel
theorem dX9_sheet_30 : decode cX9_sheet 30 = .ok (.bipush (-2), 2) := by decide +kernel
theorem dX9_sheet_32 : decode cX9_sheet 32 = .ok (.ireturn, 1) := by decide +kernel
theorem dX9_sheet_33 : decode cX9_sheet 33 = .ok (.iload_n 2, 1) := by decide +kernel
theorem dX9_sheet_34 : decode cX9_sheet 34 = .ok (.iconst (-1), 1) := by decide +kernel
theorem dX9_sheet_35 : decode cX9_sheet 35 = .ok (.if_icmp .eq 10, 3) := by decide +kernel
theorem dX9_sheet_38 : decode cX9_sheet 38 = .ok (.iload_n 3, 1) := by decide +kernel
theorem dX9_sheet_39 : decode cX9_sheet 39 = .ok (.ifCond .ge 6, 3) := by decide +kernel
theorem dX9_sheet_42 : decode cX9_sheet 42 = .ok (.bipush (-14), 2) := by decide +kernel
theorem dX9_sheet_44 : decode cX9_sheet 44 = .ok (.ireturn, 1) := by decide +kernel
theorem dX9_sheet_45 : decode cX9_sheet 45 = .ok (.aload_n 0, 1) := by decide +kernel
theorem dX9_sheet_46 : decode cX9_sheet 46 = .ok (.getfield 63, 3) := by decide +kernel
theorem dX9_sheet_49 : decode cX9_sheet 49 = .ok (.iload_n 1, 1) := by decide +kernel
theorem dX9_sheet_50 : decode cX9_sheet 50 = .ok (.aaload, 1) := by decide +kernel
theorem dX9_sheet_51 : decode cX9_sheet 51 = .ok (.iload_n 2, 1) := by decide +kernel
theorem dX9_sheet_52 : decode cX9_sheet 52 = .ok (.iload_n 2, 1) := by decide +kernel
theorem dX9_sheet_53 : decode cX9_sheet 53 = .ok (.iconst (-1), 1) := by decide +kernel
theorem dX9_sheet_54 : decode cX9_sheet 54 = .ok (.if_icmp .ne 7, 3) := by decide +kernel
theorem dX9_sheet_57 : decode cX9_sheet 57 = .ok (.iconst 0, 1) := by decide +kernel
theorem dX9_sheet_58 : decode cX9_sheet 58 = .ok (.goto 4, 3) := by decide +kernel
theorem dX9_sheet_61 : decode cX9_sheet 61 = .ok (.iload_n 3, 1) := by decide +kernel
theorem dX9_sheet_62 : decode cX9_sheet 62 = .ok (.invokevirtual 342, 3) := by decide +kernel
theorem dX9_sheet_65 : decode cX9_sheet 65 = .ok (.iconst 1, 1) := by decide +kernel
theorem dX9_sheet_66 : decode cX9_sheet 66 = .ok (.ireturn, 1) := by decide +kernel
theorem dX9_cell_0 : decode cX9_cell 0 = .ok (.iload_n 1, 1) := by decide +kernel
theorem dX9_cell_1 : decode cX9_cell 1 = .ok (.invokestatic 279, 3) := by decide +kernel
theorem dX9_cell_4 : decode cX9_cell 4 = .ok (.ifCond .ne 6, 3) := by decide +kernel
theorem dX9_cell_7 : decode cX9_cell 7 = .ok (.bipush (-2), 2) := by decide +kernel
theorem dX9_cell_9 : decode cX9_cell 9 = .ok (.ireturn, 1) := by decide +kernel
theorem dX9_cell_10 : decode cX9_cell 10 = .ok (.aload_n 0, 1) := by decide +kernel
theorem dX9_cell_11 : decode cX9_cell 11 = .ok (.getfield 63, 3) := by decide +kernel
theorem dX9_cell_14 : decode cX9_cell 14 = .ok (.iload_n 1, 1) := by decide +kernel
theorem dX9_cell_15 : decode cX9_cell 15 = .ok (.aaload, 1) := by decide +kernel
theorem dX9_cell_16 : decode cX9_cell 16 = .ok (.invokevirtual 282, 3) := by decide +kernel
theorem dX9_cell_19 : decode cX9_cell 19 = .ok (.ifCond .eq 6, 3) := by decide +kernel
theorem dX9_cell_22 : decode cX9_cell 22 = .ok (.bipush (-11), 2) := by decide +kernel
theorem dX9_cell_24 : decode cX9_cell 24 = .ok (.ireturn, 1) := by decide +kernel
theorem dX9_cell_25 : decode cX9_cell 25 = .ok (.aload_n 0, 1) := by decide +kernel
theorem dX9_cell_26 : decode cX9_cell 26 = .ok (.getfield 63, 3) := by decide +kernel
theorem dX9_cell_29 : decode cX9_cell 29 = .ok (.iload_n 1, 1) := by decide +kernel
theorem dX9_cell_30 : decode cX9_cell 30 = .ok (.aaload, 1) := by decide +kernel
theorem dX9_cell_31 : decode cX9_cell 31 = .ok (.iload_n 2, 1) := by decide +kernel
theorem dX9_cell_32 : decode cX9_cell 32 = .ok (.invokevirtual 344, 3) := by decide +kernel
theorem dX9_cell_35 : decode cX9_cell 35 = .ok (.ifCond .ne 6, 3) := by decide +kernel
theorem dX9_cell_38 : decode cX9_cell 38 = .ok (.bipush (-12), 2) := by decide +kernel
theorem dX9_cell_40 : decode cX9_cell 40 = .ok (.ireturn, 1) := by decide +kernel
theorem dX9_cell_41 : decode cX9_cell 41 = .ok (.aload_n 0, 1) := by decide +kernel
theorem dX9_cell_42 : decode cX9_cell 42 = .ok (.getfield 63, 3) := by decide +kernel
theorem dX9_cell_45 : decode cX9_cell 45 = .ok (.iload_n 1, 1) := by decide +kernel
theorem dX9_cell_46 : decode cX9_cell 46 = .ok (.aaload, 1) := by decide +kernel
theorem dX9_cell_47 : decode cX9_cell 47 = .ok (.iload_n 2, 1) := by decide +kernel
theorem dX9_cell_48 : decode cX9_cell 48 = .ok (.iload_n 3, 1) := by decide +kernel
theorem dX9_cell_49 : decode cX9_cell 49 = .ok (.invokevirtual 347, 3) := by decide +kernel
theorem dX9_cell_52 : decode cX9_cell 52 = .ok (.iconst 1, 1) := by decide +kernel
theorem dX9_cell_53 : decode cX9_cell 53 = .ok (.ireturn, 1) := by decide +kernel
theorem dX9_copy_0 : decode cX9_copy 0 = .ok (.iload_n 1, 1) := by decide +kernel
theorem dX9_copy_1 : decode cX9_copy 1 = .ok (.invokestatic 279, 3) := by decide +kernel
theorem dX9_copy_4 : decode cX9_copy 4 = .ok (.ifCond .eq 10, 3) := by decide +kernel
theorem dX9_copy_7 : decode cX9_copy 7 = .ok (.iload_n 3, 1) := by decide +kernel
theorem dX9_copy_8 : decode cX9_copy 8 = .ok (.invokestatic 279, 3) := by decide +kernel
theorem dX9_copy_11 : decode cX9_copy 11 = .ok (.ifCond .ne 6, 3) := by decide +kernel
theorem dX9_copy_14 : decode cX9_copy 14 = .ok (.bipush (-2), 2) := by decide +kernel
theorem dX9_copy_16 : decode cX9_copy 16 = .ok (.ireturn, 1) := by decide +kernel
theorem dX9_copy_17 : decode cX9_copy 17 = .ok (.aload_n 0, 1) := by decide +kernel
theorem dX9_copy_18 : decode cX9_copy 18 = .ok (.getfield 63, 3) := by decide +kernel
theorem dX9_copy_21 : decode cX9_copy 21 = .ok (.iload_n 1, 1) := by decide +kernel
theorem dX9_copy_22 : decode cX9_copy 22 = .ok (.aaload, 1) := by decide +kernel
theorem dX9_copy_23 : decode cX9_copy 23 = .ok (.astore 6, 2) := by decide +kernel
theorem dX9_copy_25 : decode cX9_copy 25 = .ok (.aload_n 0, 1) := by decide +kernel
theorem dX9_copy_26 : decode cX9_copy 26 = .ok (.getfield 63, 3) := by decide +kernel
theorem dX9_copy_29 : decode cX9_copy 29 = .ok (.iload_n 3, 1) := by decide +kernel
theorem dX9_copy_30 : decode cX9_copy 30 = .ok (.aaload, 1) := by decide +kernel
theorem dX9_copy_31 : decode cX9_copy 31 = .ok (.astore 7, 2) := by decide +kernel
theorem dX9_copy_33 : decode cX9_copy 33 = .ok (.aload 6, 2) := by decide +kernel
theorem dX9_copy_35 : decode cX9_copy 35 = .ok (.invokevirtual 282, 3) := by decide +kernel
theorem dX9_copy_38 : decode cX9_copy 38 = .ok (.ifCond .ne 11, 3) := by decide +kernel
theorem dX9_copy_41 : decode cX9_copy 41 = .ok (.aload 7, 2) := by decide +kernel
theorem dX9_copy_43 : decode cX9_copy 43 = .ok (.invokevirtual 282, 3) := by decide +kernel
theorem dX9_copy_46 : decode cX9_copy 46 = .ok (.ifCond .eq 6, 3) := by decide +kernel
theorem dX9_copy_49 : decode cX9_copy 49 = .ok (.bipush (-11), 2) := by decide +kernel
theorem dX9_copy_51 : decode cX9_copy 51 = .ok (.ireturn, 1) := by decide +kernel
theorem dX9_copy_52 : decode cX9_copy 52 = .ok (.aload 6, 2) := by decide +kernel
theorem dX9_copy_54 : decode cX9_copy 54 = .ok (.getfield 350, 3) := by decide +kernel
theorem dX9_copy_57 : decode cX9_copy 57 = .ok (.aload 7, 2) := by decide +kernel
theorem dX9_copy_59 : decode cX9_copy 59 = .ok (.getfield 350, 3) := by decide +kernel
theorem dX9_copy_62 : decode cX9_copy 62 = .ok (.if_icmp .eq 6, 3) := by decide +kernel
theorem dX9_copy_65 : decode cX9_copy 65 = .ok (.bipush (-13), 2) := by decide +kernel
theorem dX9_copy_67 : decode cX9_copy 67 = .ok (.ireturn, 1) := by decide +kernel
theorem dX9_copy_68 : decode cX9_copy 68 = .ok (.aload 6, 2) := by decide +kernel
theorem dX9_copy_70 : decode cX9_copy 70 = .ok (.iload_n 2, 1) := by decide +kernel
theorem dX9_copy_71 : decode cX9_copy 71 = .ok (.iload 5, 2) := by decide +kernel
theorem dX9_copy_73 : decode cX9_copy 73 = .ok (.invokevirtual 351, 3) := by decide +kernel
theorem dX9_copy_76 : decode cX9_copy 76 = .ok (.ifCond .eq 15, 3) := by decide +kernel
theorem dX9_copy_79 : decode cX9_copy 79 = .ok (.aload 7, 2) := by decide +kernel
theorem dX9_copy_81 : decode cX9_copy 81 = .ok (.iload 4, 2) := by decide +kernel
theorem dX9_copy_83 : decode cX9_copy 83 = .ok (.iload 5, 2) := by decide +kernel
theorem dX9_copy_85 : decode cX9_copy 85 = .ok (.invokevirtual 351, 3) := by decide +kernel
theorem dX9_copy_88 : decode cX9_copy 88 = .ok (.ifCond .ne 6, 3) := by decide +kernel
theorem dX9_copy_91 : decode cX9_copy 91 = .ok (.bipush (-12), 2) := by decide +kernel
theorem dX9_copy_93 : decode cX9_copy 93 = .ok (.ireturn, 1) := by decide +kernel
theorem dX9_copy_94 : decode cX9_copy 94 = .ok (.aload 6, 2) := by decide +kernel
theorem dX9_copy_96 : decode cX9_copy 96 = .ok (.getfield 287, 3) := by decide +kernel
theorem dX9_copy_99 : decode cX9_copy 99 = .ok (.iload_n 2, 1) := by decide +kernel
theorem dX9_copy_100 : decode cX9_copy 100 = .ok (.aload 7, 2) := by decide +kernel
theorem dX9_copy_102 : decode cX9_copy 102 = .ok (.getfield 287, 3) := by decide +kernel
theorem dX9_copy_105 : decode cX9_copy 105 = .ok (.iload 4, 2) := by decide +kernel
theorem dX9_copy_107 : decode cX9_copy 107 = .ok (.iload 5, 2) := by decide +kernel
theorem dX9_copy_109 : decode cX9_copy 109 = .ok (.invokestatic 355, 3) := by decide +kernel
theorem dX9_copy_112 : decode cX9_copy 112 = .ok (.iload 5, 2) := by decide +kernel
theorem dX9_copy_114 : decode cX9_copy 114 = .ok (.ireturn, 1) := by decide +kernel
theorem dX9_tripsBy_0 : decode cX9_tripsBy 0 = .ok (.iload_n 1, 1) := by decide +kernel
theorem dX9_tripsBy_1 : decode cX9_tripsBy 1 = .ok (.invokestatic 279, 3) := by decide +kernel
theorem dX9_tripsBy_4 : decode cX9_tripsBy 4 = .ok (.ifCond .eq 23, 3) := by decide +kernel
theorem dX9_tripsBy_7 : decode cX9_tripsBy 7 = .ok (.iload_n 2, 1) := by decide +kernel
theorem dX9_tripsBy_8 : decode cX9_tripsBy 8 = .ok (.iconst 0, 1) := by decide +kernel
theorem dX9_tripsBy_9 : decode cX9_tripsBy 9 = .ok (.iconst 2, 1) := by decide +kernel
theorem dX9_tripsBy_10 : decode cX9_tripsBy 10 = .ok (.invokestatic 111, 3) := by decide +kernel
theorem dX9_tripsBy_13 : decode cX9_tripsBy 13 = .ok (.ifCond .eq 14, 3) := by decide +kernel
theorem dX9_tripsBy_16 : decode cX9_tripsBy 16 = .ok (.iload 4, 2) := by decide +kernel
theorem dX9_tripsBy_18 : decode cX9_tripsBy 18 = .ok (.iconst 0, 1) := by decide +kernel
theorem dX9_tripsBy_19 : decode cX9_tripsBy 19 = .ok (.bipush 8, 2) := by decide +kernel
theorem dX9_tripsBy_21 : decode cX9_tripsBy 21 = .ok (.invokestatic 111, 3) := by decide +kernel
theorem dX9_tripsBy_24 : decode cX9_tripsBy 24 = .ok (.ifCond .ne 6, 3) := by decide +kernel
theorem dX9_tripsBy_27 : decode cX9_tripsBy 27 = .ok (.bipush (-2), 2) := by decide +kernel
theorem dX9_tripsBy_29 : decode cX9_tripsBy 29 = .ok (.ireturn, 1) := by decide +kernel
theorem dX9_tripsBy_30 : decode cX9_tripsBy 30 = .ok (.aload_n 0, 1) := by decide +kernel
theorem dX9_tripsBy_31 : decode cX9_tripsBy 31 = .ok (.getfield 63, 3) := by decide +kernel
theorem dX9_tripsBy_34 : decode cX9_tripsBy 34 = .ok (.iload_n 1, 1) := by decide +kernel
theorem dX9_tripsBy_35 : decode cX9_tripsBy 35 = .ok (.aaload, 1) := by decide +kernel
theorem dX9_tripsBy_36 : decode cX9_tripsBy 36 = .ok (.astore 5, 2) := by decide +kernel
theorem dX9_tripsBy_38 : decode cX9_tripsBy 38 = .ok (.aload 5, 2) := by decide +kernel
theorem dX9_tripsBy_40 : decode cX9_tripsBy 40 = .ok (.invokevirtual 282, 3) := by decide +kernel
theorem dX9_tripsBy_43 : decode cX9_tripsBy 43 = .ok (.ifCond .eq 6, 3) := by decide +kernel
theorem dX9_tripsBy_46 : decode cX9_tripsBy 46 = .ok (.bipush (-11), 2) := by decide +kernel
theorem dX9_tripsBy_48 : decode cX9_tripsBy 48 = .ok (.ireturn, 1) := by decide +kernel
theorem dX9_tripsBy_49 : decode cX9_tripsBy 49 = .ok (.aload 5, 2) := by decide +kernel
theorem dX9_tripsBy_51 : decode cX9_tripsBy 51 = .ok (.getfield 350, 3) := by decide +kernel
theorem dX9_tripsBy_54 : decode cX9_tripsBy 54 = .ok (.iload_n 2, 1) := by decide +kernel
theorem dX9_tripsBy_55 : decode cX9_tripsBy 55 = .ok (.if_icmp .eq 6, 3) := by decide +kernel
theorem dX9_tripsBy_58 : decode cX9_tripsBy 58 = .ok (.bipush (-13), 2) := by decide +kernel
theorem dX9_tripsBy_60 : decode cX9_tripsBy 60 = .ok (.ireturn, 1) := by decide +kernel
theorem dX9_tripsBy_61 : decode cX9_tripsBy 61 = .ok (.iconst 0, 1) := by decide +kernel
theorem dX9_tripsBy_62 : decode cX9_tripsBy 62 = .ok (.istore 6, 2) := by decide +kernel
theorem dX9_tripsBy_64 : decode cX9_tripsBy 64 = .ok (.iconst 0, 1) := by decide +kernel
theorem dX9_tripsBy_65 : decode cX9_tripsBy 65 = .ok (.istore 7, 2) := by decide +kernel
theorem dX9_tripsBy_67 : decode cX9_tripsBy 67 = .ok (.iload 7, 2) := by decide +kernel
theorem dX9_tripsBy_69 : decode cX9_tripsBy 69 = .ok (.iload 4, 2) := by decide +kernel
theorem dX9_tripsBy_71 : decode cX9_tripsBy 71 = .ok (.if_icmp .ge 79, 3) := by decide +kernel
theorem dX9_tripsBy_74 : decode cX9_tripsBy 74 = .ok (.iload_n 3, 1) := by decide +kernel
theorem dX9_tripsBy_75 : decode cX9_tripsBy 75 = .ok (.iload 7, 2) := by decide +kernel
theorem dX9_tripsBy_77 : decode cX9_tripsBy 77 = .ok (.iconst 4, 1) := by decide +kernel
theorem dX9_tripsBy_78 : decode cX9_tripsBy 78 = .ok (.imul, 1) := by decide +kernel
theorem dX9_tripsBy_79 : decode cX9_tripsBy 79 = .ok (.iadd, 1) := by decide +kernel
theorem dX9_tripsBy_80 : decode cX9_tripsBy 80 = .ok (.istore 8, 2) := by decide +kernel
theorem dX9_tripsBy_82 : decode cX9_tripsBy 82 = .ok (.aload 5, 2) := by decide +kernel
theorem dX9_tripsBy_84 : decode cX9_tripsBy 84 = .ok (.iload 8, 2) := by decide +kernel
theorem dX9_tripsBy_86 : decode cX9_tripsBy 86 = .ok (.iconst 4, 1) := by decide +kernel
theorem dX9_tripsBy_87 : decode cX9_tripsBy 87 = .ok (.invokevirtual 351, 3) := by decide +kernel
theorem dX9_tripsBy_90 : decode cX9_tripsBy 90 = .ok (.ifCond .ne 6, 3) := by decide +kernel
theorem dX9_tripsBy_93 : decode cX9_tripsBy 93 = .ok (.bipush (-12), 2) := by decide +kernel
theorem dX9_tripsBy_95 : decode cX9_tripsBy 95 = .ok (.ireturn, 1) := by decide +kernel
theorem dX9_tripsBy_96 : decode cX9_tripsBy 96 = .ok (.aload_n 0, 1) := by decide +kernel
theorem dX9_tripsBy_97 : decode cX9_tripsBy 97 = .ok (.aload 5, 2) := by decide +kernel
theorem dX9_tripsBy_99 : decode cX9_tripsBy 99 = .ok (.getfield 287, 3) := by decide +kernel
theorem dX9_tripsBy_102 : decode cX9_tripsBy 102 = .ok (.iload 8, 2) := by decide +kernel
theorem dX9_tripsBy_104 : decode cX9_tripsBy 104 = .ok (.iaload, 1) := by decide +kernel
theorem dX9_tripsBy_105 : decode cX9_tripsBy 105 = .ok (.aload 5, 2) := by decide +kernel
theorem dX9_tripsBy_107 : decode cX9_tripsBy 107 = .ok (.getfield 287, 3) := by decide +kernel
theorem dX9_tripsBy_110 : decode cX9_tripsBy 110 = .ok (.iload 8, 2) := by decide +kernel
theorem dX9_tripsBy_112 : decode cX9_tripsBy 112 = .ok (.iconst 1, 1) := by decide +kernel
theorem dX9_tripsBy_113 : decode cX9_tripsBy 113 = .ok (.iadd, 1) := by decide +kernel
theorem dX9_tripsBy_114 : decode cX9_tripsBy 114 = .ok (.iaload, 1) := by decide +kernel
theorem dX9_tripsBy_115 : decode cX9_tripsBy 115 = .ok (.aload 5, 2) := by decide +kernel
theorem dX9_tripsBy_117 : decode cX9_tripsBy 117 = .ok (.getfield 287, 3) := by decide +kernel
theorem dX9_tripsBy_120 : decode cX9_tripsBy 120 = .ok (.iload 8, 2) := by decide +kernel
theorem dX9_tripsBy_122 : decode cX9_tripsBy 122 = .ok (.iconst 2, 1) := by decide +kernel
theorem dX9_tripsBy_123 : decode cX9_tripsBy 123 = .ok (.iadd, 1) := by decide +kernel
theorem dX9_tripsBy_124 : decode cX9_tripsBy 124 = .ok (.iaload, 1) := by decide +kernel
theorem dX9_tripsBy_125 : decode cX9_tripsBy 125 = .ok (.aload 5, 2) := by decide +kernel
theorem dX9_tripsBy_127 : decode cX9_tripsBy 127 = .ok (.getfield 287, 3) := by decide +kernel
theorem dX9_tripsBy_130 : decode cX9_tripsBy 130 = .ok (.iload 8, 2) := by decide +kernel
theorem dX9_tripsBy_132 : decode cX9_tripsBy 132 = .ok (.iconst 3, 1) := by decide +kernel
theorem dX9_tripsBy_133 : decode cX9_tripsBy 133 = .ok (.iadd, 1) := by decide +kernel
theorem dX9_tripsBy_134 : decode cX9_tripsBy 134 = .ok (.iaload, 1) := by decide +kernel
theorem dX9_tripsBy_135 : decode cX9_tripsBy 135 = .ok (.invokevirtual 361, 3) := by decide +kernel
theorem dX9_tripsBy_138 : decode cX9_tripsBy 138 = .ok (.ifCond .lt 6, 3) := by decide +kernel
theorem dX9_tripsBy_141 : decode cX9_tripsBy 141 = .ok (.iinc 6 1, 3) := by decide +kernel
theorem dX9_tripsBy_144 : decode cX9_tripsBy 144 = .ok (.iinc 7 1, 3) := by decide +kernel
theorem dX9_tripsBy_147 : decode cX9_tripsBy 147 = .ok (.goto (-80), 3) := by decide +kernel
theorem dX9_tripsBy_150 : decode cX9_tripsBy 150 = .ok (.iload 6, 2) := by decide +kernel
theorem dX9_tripsBy_152 : decode cX9_tripsBy 152 = .ok (.ireturn, 1) := by decide +kernel
theorem dX9_taken_0 : decode cX9_taken 0 = .ok (.iload_n 2, 1) := by decide +kernel
theorem dX9_taken_1 : decode cX9_taken 1 = .ok (.invokestatic 148, 3) := by decide +kernel
theorem dX9_taken_4 : decode cX9_taken 4 = .ok (.ifCond .ne 12, 3) := by decide +kernel
theorem dX9_taken_7 : decode cX9_taken 7 = .ok (.iload_n 2, 1) := by decide +kernel
theorem dX9_taken_8 : decode cX9_taken 8 = .ok (.bipush 6, 2) := by decide +kernel
theorem dX9_taken_10 : decode cX9_taken 10 = .ok (.if_icmp .eq 6, 3) := by decide +kernel
theorem dX9_taken_13 : decode cX9_taken 13 = .ok (.bipush (-2), 2) := by decide +kernel
theorem dX9_taken_15 : decode cX9_taken 15 = .ok (.ireturn, 1) := by decide +kernel
theorem dX9_taken_16 : decode cX9_taken 16 = .ok (.iload_n 1, 1) := by decide +kernel
theorem dX9_taken_17 : decode cX9_taken 17 = .ok (.iconst 0, 1) := by decide +kernel
theorem dX9_taken_18 : decode cX9_taken 18 = .ok (.bipush 15, 2) := by decide +kernel
theorem dX9_taken_20 : decode cX9_taken 20 = .ok (.invokestatic 111, 3) := by decide +kernel
theorem dX9_taken_23 : decode cX9_taken 23 = .ok (.ifCond .ne 6, 3) := by decide +kernel
theorem dX9_taken_26 : decode cX9_taken 26 = .ok (.bipush (-12), 2) := by decide +kernel
theorem dX9_taken_28 : decode cX9_taken 28 = .ok (.ireturn, 1) := by decide +kernel
theorem dX9_taken_29 : decode cX9_taken 29 = .ok (.iload_n 1, 1) := by decide +kernel
theorem dX9_taken_30 : decode cX9_taken 30 = .ok (.bipush 8, 2) := by decide +kernel
theorem dX9_taken_32 : decode cX9_taken 32 = .ok (.if_icmp .ge 38, 3) := by decide +kernel
theorem dX9_taken_35 : decode cX9_taken 35 = .ok (.aload_n 0, 1) := by decide +kernel
theorem dX9_taken_36 : decode cX9_taken 36 = .ok (.iload_n 1, 1) := by decide +kernel
theorem dX9_taken_37 : decode cX9_taken 37 = .ok (.invokevirtual 215, 3) := by decide +kernel
theorem dX9_taken_40 : decode cX9_taken 40 = .ok (.ifCond .ne 6, 3) := by decide +kernel
theorem dX9_taken_43 : decode cX9_taken 43 = .ok (.bipush (-11), 2) := by decide +kernel
theorem dX9_taken_45 : decode cX9_taken 45 = .ok (.ireturn, 1) := by decide +kernel
theorem dX9_taken_46 : decode cX9_taken 46 = .ok (.iload_n 2, 1) := by decide +kernel
theorem dX9_taken_47 : decode cX9_taken 47 = .ok (.bipush 6, 2) := by decide +kernel
theorem dX9_taken_49 : decode cX9_taken 49 = .ok (.if_icmp .ne 18, 3) := by decide +kernel
theorem dX9_taken_52 : decode cX9_taken 52 = .ok (.aload_n 0, 1) := by decide +kernel
theorem dX9_taken_53 : decode cX9_taken 53 = .ok (.getfield 10, 3) := by decide +kernel
theorem dX9_taken_56 : decode cX9_taken 56 = .ok (.getfield 200, 3) := by decide +kernel
theorem dX9_taken_59 : decode cX9_taken 59 = .ok (.iload_n 1, 1) := by decide +kernel
theorem dX9_taken_60 : decode cX9_taken 60 = .ok (.aaload, 1) := by decide +kernel
theorem dX9_taken_61 : decode cX9_taken 61 = .ok (.getfield 365, 3) := by decide +kernel
theorem dX9_taken_64 : decode cX9_taken 64 = .ok (.goto 5, 3) := by decide +kernel
theorem dX9_taken_67 : decode cX9_taken 67 = .ok (.bipush (-13), 2) := by decide +kernel
theorem dX9_taken_69 : decode cX9_taken 69 = .ok (.ireturn, 1) := by decide +kernel
theorem dX9_taken_70 : decode cX9_taken 70 = .ok (.iload_n 1, 1) := by decide +kernel
theorem dX9_taken_71 : decode cX9_taken 71 = .ok (.bipush 8, 2) := by decide +kernel
theorem dX9_taken_73 : decode cX9_taken 73 = .ok (.isub, 1) := by decide +kernel
theorem dX9_taken_74 : decode cX9_taken 74 = .ok (.istore_n 3, 1) := by decide +kernel
theorem dX9_taken_75 : decode cX9_taken 75 = .ok (.aload_n 0, 1) := by decide +kernel
theorem dX9_taken_76 : decode cX9_taken 76 = .ok (.iload_n 3, 1) := by decide +kernel
theorem dX9_taken_77 : decode cX9_taken 77 = .ok (.invokevirtual 164, 3) := by decide +kernel
theorem dX9_taken_80 : decode cX9_taken 80 = .ok (.ifCond .ne 6, 3) := by decide +kernel
theorem dX9_taken_83 : decode cX9_taken 83 = .ok (.bipush (-11), 2) := by decide +kernel
theorem dX9_taken_85 : decode cX9_taken 85 = .ok (.ireturn, 1) := by decide +kernel
theorem dX9_taken_86 : decode cX9_taken 86 = .ok (.iload_n 2, 1) := by decide +kernel
theorem dX9_taken_87 : decode cX9_taken 87 = .ok (.bipush 6, 2) := by decide +kernel
theorem dX9_taken_89 : decode cX9_taken 89 = .ok (.if_icmp .eq 23, 3) := by decide +kernel
theorem dX9_taken_92 : decode cX9_taken 92 = .ok (.aload_n 0, 1) := by decide +kernel
theorem dX9_taken_93 : decode cX9_taken 93 = .ok (.getfield 10, 3) := by decide +kernel
theorem dX9_taken_96 : decode cX9_taken 96 = .ok (.getfield 154, 3) := by decide +kernel
theorem dX9_taken_99 : decode cX9_taken 99 = .ok (.iload_n 3, 1) := by decide +kernel
theorem dX9_taken_100 : decode cX9_taken 100 = .ok (.aaload, 1) := by decide +kernel
theorem dX9_taken_101 : decode cX9_taken 101 = .ok (.iload_n 2, 1) := by decide +kernel
theorem dX9_taken_102 : decode cX9_taken 102 = .ok (.invokevirtual 194, 3) := by decide +kernel
theorem dX9_taken_105 : decode cX9_taken 105 = .ok (.ifCond .eq 7, 3) := by decide +kernel
theorem dX9_taken_108 : decode cX9_taken 108 = .ok (.iload_n 3, 1) := by decide +kernel
theorem dX9_taken_109 : decode cX9_taken 109 = .ok (.goto 5, 3) := by decide +kernel
theorem dX9_taken_112 : decode cX9_taken 112 = .ok (.bipush (-13), 2) := by decide +kernel
theorem dX9_taken_114 : decode cX9_taken 114 = .ok (.ireturn, 1) := by decide +kernel
theorem dX9_isWithin_0 : decode cX9_isWithin 0 = .ok (.iload_n 0, 1) := by decide +kernel
theorem dX9_isWithin_1 : decode cX9_isWithin 1 = .ok (.iload_n 1, 1) := by decide +kernel
theorem dX9_isWithin_2 : decode cX9_isWithin 2 = .ok (.if_icmp .lt 12, 3) := by decide +kernel
theorem dX9_isWithin_5 : decode cX9_isWithin 5 = .ok (.iload_n 0, 1) := by decide +kernel
theorem dX9_isWithin_6 : decode cX9_isWithin 6 = .ok (.iload_n 2, 1) := by decide +kernel
theorem dX9_isWithin_7 : decode cX9_isWithin 7 = .ok (.if_icmp .gt 7, 3) := by decide +kernel
theorem dX9_isWithin_10 : decode cX9_isWithin 10 = .ok (.iconst 1, 1) := by decide +kernel
theorem dX9_isWithin_11 : decode cX9_isWithin 11 = .ok (.goto 4, 3) := by decide +kernel
theorem dX9_isWithin_14 : decode cX9_isWithin 14 = .ok (.iconst 0, 1) := by decide +kernel
theorem dX9_isWithin_15 : decode cX9_isWithin 15 = .ok (.ireturn, 1) := by decide +kernel
theorem dX9_atBounds_0 : decode cX9_atBounds 0 = .ok (.iload_n 1, 1) := by decide +kernel
theorem dX9_atBounds_1 : decode cX9_atBounds 1 = .ok (.iload_n 2, 1) := by decide +kernel
theorem dX9_atBounds_2 : decode cX9_atBounds 2 = .ok (.iload_n 0, 1) := by decide +kernel
theorem dX9_atBounds_3 : decode cX9_atBounds 3 = .ok (.invokestatic 293, 3) := by decide +kernel
theorem dX9_atBounds_6 : decode cX9_atBounds 6 = .ok (.invokestatic 368, 3) := by decide +kernel
theorem dX9_atBounds_9 : decode cX9_atBounds 9 = .ok (.ireturn, 1) := by decide +kernel
theorem dX9_isCell_0 : decode cX9_isCell 0 = .ok (.iload_n 0, 1) := by decide +kernel
theorem dX9_isCell_1 : decode cX9_isCell 1 = .ok (.iconst 0, 1) := by decide +kernel
theorem dX9_isCell_2 : decode cX9_isCell 2 = .ok (.bipush 40, 2) := by decide +kernel
theorem dX9_isCell_4 : decode cX9_isCell 4 = .ok (.invokestatic 111, 3) := by decide +kernel
theorem dX9_isCell_7 : decode cX9_isCell 7 = .ok (.ireturn, 1) := by decide +kernel
theorem dX9_isSort_0 : decode cX9_isSort 0 = .ok (.iload_n 0, 1) := by decide +kernel
theorem dX9_isSort_1 : decode cX9_isSort 1 = .ok (.iconst 0, 1) := by decide +kernel
theorem dX9_isSort_2 : decode cX9_isSort 2 = .ok (.iconst 2, 1) := by decide +kernel
theorem dX9_isSort_3 : decode cX9_isSort 3 = .ok (.invokestatic 111, 3) := by decide +kernel
theorem dX9_isSort_6 : decode cX9_isSort 6 = .ok (.ireturn, 1) := by decide +kernel
theorem dX9_isKind_0 : decode cX9_isKind 0 = .ok (.iload_n 0, 1) := by decide +kernel
theorem dX9_isKind_1 : decode cX9_isKind 1 = .ok (.iconst 0, 1) := by decide +kernel
theorem dX9_isKind_2 : decode cX9_isKind 2 = .ok (.iconst 5, 1) := by decide +kernel
theorem dX9_isKind_3 : decode cX9_isKind 3 = .ok (.invokestatic 111, 3) := by decide +kernel
theorem dX9_isKind_6 : decode cX9_isKind 6 = .ok (.ireturn, 1) := by decide +kernel
theorem dX9_isSheet_0 : decode cX9_isSheet 0 = .ok (.iload_n 0, 1) := by decide +kernel
theorem dX9_isSheet_1 : decode cX9_isSheet 1 = .ok (.iconst 0, 1) := by decide +kernel
theorem dX9_isSheet_2 : decode cX9_isSheet 2 = .ok (.iconst 3, 1) := by decide +kernel
theorem dX9_isSheet_3 : decode cX9_isSheet 3 = .ok (.invokestatic 111, 3) := by decide +kernel
theorem dX9_isSheet_6 : decode cX9_isSheet 6 = .ok (.ireturn, 1) := by decide +kernel
theorem dX9_isStop_0 : decode cX9_isStop 0 = .ok (.iload_n 1, 1) := by decide +kernel
theorem dX9_isStop_1 : decode cX9_isStop 1 = .ok (.iconst 0, 1) := by decide +kernel
theorem dX9_isStop_2 : decode cX9_isStop 2 = .ok (.aload_n 0, 1) := by decide +kernel
theorem dX9_isStop_3 : decode cX9_isStop 3 = .ok (.getfield 10, 3) := by decide +kernel
theorem dX9_isStop_6 : decode cX9_isStop 6 = .ok (.getfield 151, 3) := by decide +kernel
theorem dX9_isStop_9 : decode cX9_isStop 9 = .ok (.iconst 1, 1) := by decide +kernel
theorem dX9_isStop_10 : decode cX9_isStop 10 = .ok (.isub, 1) := by decide +kernel
theorem dX9_isStop_11 : decode cX9_isStop 11 = .ok (.invokestatic 111, 3) := by decide +kernel
theorem dX9_isStop_14 : decode cX9_isStop 14 = .ok (.ireturn, 1) := by decide +kernel
theorem dX9_isTrip_0 : decode cX9_isTrip 0 = .ok (.iload_n 1, 1) := by decide +kernel
theorem dX9_isTrip_1 : decode cX9_isTrip 1 = .ok (.iconst 0, 1) := by decide +kernel
theorem dX9_isTrip_2 : decode cX9_isTrip 2 = .ok (.aload_n 0, 1) := by decide +kernel
theorem dX9_isTrip_3 : decode cX9_isTrip 3 = .ok (.getfield 10, 3) := by decide +kernel
theorem dX9_isTrip_6 : decode cX9_isTrip 6 = .ok (.getfield 197, 3) := by decide +kernel
theorem dX9_isTrip_9 : decode cX9_isTrip 9 = .ok (.iconst 1, 1) := by decide +kernel
theorem dX9_isTrip_10 : decode cX9_isTrip 10 = .ok (.isub, 1) := by decide +kernel
theorem dX9_isTrip_11 : decode cX9_isTrip 11 = .ok (.invokestatic 111, 3) := by decide +kernel
theorem dX9_isTrip_14 : decode cX9_isTrip 14 = .ok (.ireturn, 1) := by decide +kernel
theorem dX9_asNumber_0 : decode cX9_asNumber 0 = .ok (.iload_n 0, 1) := by decide +kernel
theorem dX9_asNumber_1 : decode cX9_asNumber 1 = .ok (.ifCond .eq 7, 3) := by decide +kernel
theorem dX9_asNumber_4 : decode cX9_asNumber 4 = .ok (.iconst 1, 1) := by decide +kernel
theorem dX9_asNumber_5 : decode cX9_asNumber 5 = .ok (.goto 4, 3) := by decide +kernel
theorem dX9_asNumber_8 : decode cX9_asNumber 8 = .ok (.iconst 0, 1) := by decide +kernel
theorem dX9_asNumber_9 : decode cX9_asNumber 9 = .ok (.ireturn, 1) := by decide +kernel
theorem dX9_lookAtNow_0 : decode cX9_lookAtNow 0 = .ok (.aload_n 0, 1) := by decide +kernel
theorem dX9_lookAtNow_1 : decode cX9_lookAtNow 1 = .ok (.getfield 21, 3) := by decide +kernel
theorem dX9_lookAtNow_4 : decode cX9_lookAtNow 4 = .ok (.invokevirtual 254, 3) := by decide +kernel
theorem dX9_lookAtNow_7 : decode cX9_lookAtNow 7 = .ok (.aload_n 0, 1) := by decide +kernel
theorem dX9_lookAtNow_8 : decode cX9_lookAtNow 8 = .ok (.getfield 21, 3) := by decide +kernel
theorem dX9_lookAtNow_11 : decode cX9_lookAtNow 11 = .ok (.aload_n 0, 1) := by decide +kernel
theorem dX9_lookAtNow_12 : decode cX9_lookAtNow 12 = .ok (.getfield 10, 3) := by decide +kernel
theorem dX9_lookAtNow_15 : decode cX9_lookAtNow 15 = .ok (.invokevirtual 207, 3) := by decide +kernel
theorem dX9_lookAtNow_18 : decode cX9_lookAtNow 18 = .ok (.aload_n 0, 1) := by decide +kernel
theorem dX9_lookAtNow_19 : decode cX9_lookAtNow 19 = .ok (.getfield 10, 3) := by decide +kernel
theorem dX9_lookAtNow_22 : decode cX9_lookAtNow 22 = .ok (.getfield 135, 3) := by decide +kernel
theorem dX9_lookAtNow_25 : decode cX9_lookAtNow 25 = .ok (.invokevirtual 274, 3) := by decide +kernel
theorem dX9_lookAtNow_28 : decode cX9_lookAtNow 28 = .ok (.return_, 1) := by decide +kernel
theorem dX9_totalOf_0 : decode cX9_totalOf 0 = .ok (.aload_n 0, 1) := by decide +kernel
theorem dX9_totalOf_1 : decode cX9_totalOf 1 = .ok (.getfield 21, 3) := by decide +kernel
theorem dX9_totalOf_4 : decode cX9_totalOf 4 = .ok (.iload_n 1, 1) := by decide +kernel
theorem dX9_totalOf_5 : decode cX9_totalOf 5 = .ok (.aload_n 0, 1) := by decide +kernel
theorem dX9_totalOf_6 : decode cX9_totalOf 6 = .ok (.getfield 10, 3) := by decide +kernel
theorem dX9_totalOf_9 : decode cX9_totalOf 9 = .ok (.getfield 135, 3) := by decide +kernel
theorem dX9_totalOf_12 : decode cX9_totalOf 12 = .ok (.invokevirtual 274, 3) := by decide +kernel
theorem dX9_totalOf_15 : decode cX9_totalOf 15 = .ok (.aload_n 0, 1) := by decide +kernel
theorem dX9_totalOf_16 : decode cX9_totalOf 16 = .ok (.getfield 21, 3) := by decide +kernel
theorem dX9_totalOf_19 : decode cX9_totalOf 19 = .ok (.invokevirtual 241, 3) := by decide +kernel
theorem dX9_totalOf_22 : decode cX9_totalOf 22 = .ok (.lreturn, 1) := by decide +kernel
theorem dX9_keepCosts_0 : decode cX9_keepCosts 0 = .ok (.aload_n 0, 1) := by decide +kernel
theorem dX9_keepCosts_1 : decode cX9_keepCosts 1 = .ok (.getfield 21, 3) := by decide +kernel
theorem dX9_keepCosts_4 : decode cX9_keepCosts 4 = .ok (.getfield 221, 3) := by decide +kernel
theorem dX9_keepCosts_7 : decode cX9_keepCosts 7 = .ok (.iconst 0, 1) := by decide +kernel
theorem dX9_keepCosts_8 : decode cX9_keepCosts 8 = .ok (.aload_n 0, 1) := by decide +kernel
theorem dX9_keepCosts_9 : decode cX9_keepCosts 9 = .ok (.getfield 71, 3) := by decide +kernel
theorem dX9_keepCosts_12 : decode cX9_keepCosts 12 = .ok (.iconst 0, 1) := by decide +kernel
theorem dX9_keepCosts_13 : decode cX9_keepCosts 13 = .ok (.bipush 8, 2) := by decide +kernel
theorem dX9_keepCosts_15 : decode cX9_keepCosts 15 = .ok (.invokestatic 355, 3) := by decide +kernel
theorem dX9_keepCosts_18 : decode cX9_keepCosts 18 = .ok (.return_, 1) := by decide +kernel
theorem dX9_bestSet_0 : decode cX9_bestSet 0 = .ok (.iconst (-1), 1) := by decide +kernel
theorem dX9_bestSet_1 : decode cX9_bestSet 1 = .ok (.istore_n 3, 1) := by decide +kernel
theorem dX9_bestSet_2 : decode cX9_bestSet 2 = .ok (.lconst 0, 1) := by decide +kernel
theorem dX9_bestSet_3 : decode cX9_bestSet 3 = .ok (.lstore 4, 2) := by decide +kernel
theorem dX9_bestSet_5 : decode cX9_bestSet 5 = .ok (.iconst 0, 1) := by decide +kernel
theorem dX9_bestSet_6 : decode cX9_bestSet 6 = .ok (.istore 6, 2) := by decide +kernel
theorem dX9_bestSet_8 : decode cX9_bestSet 8 = .ok (.iload 6, 2) := by decide +kernel
theorem dX9_bestSet_10 : decode cX9_bestSet 10 = .ok (.aload_n 0, 1) := by decide +kernel
theorem dX9_bestSet_11 : decode cX9_bestSet 11 = .ok (.getfield 10, 3) := by decide +kernel
theorem dX9_bestSet_14 : decode cX9_bestSet 14 = .ok (.invokevirtual 271, 3) := by decide +kernel
theorem dX9_bestSet_17 : decode cX9_bestSet 17 = .ok (.if_icmp .ge 87, 3) := by decide +kernel
theorem dX9_bestSet_20 : decode cX9_bestSet 20 = .ok (.aload_n 0, 1) := by decide +kernel
theorem dX9_bestSet_21 : decode cX9_bestSet 21 = .ok (.iload 6, 2) := by decide +kernel
theorem dX9_bestSet_23 : decode cX9_bestSet 23 = .ok (.invokevirtual 262, 3) := by decide +kernel
theorem dX9_bestSet_26 : decode cX9_bestSet 26 = .ok (.lstore 7, 2) := by decide +kernel
theorem dX9_bestSet_28 : decode cX9_bestSet 28 = .ok (.aload_n 0, 1) := by decide +kernel
theorem dX9_bestSet_29 : decode cX9_bestSet 29 = .ok (.iload_n 1, 1) := by decide +kernel
theorem dX9_bestSet_30 : decode cX9_bestSet 30 = .ok (.invokevirtual 371, 3) := by decide +kernel
theorem dX9_bestSet_33 : decode cX9_bestSet 33 = .ok (.ifCond .eq 65, 3) := by decide +kernel
theorem dX9_bestSet_36 : decode cX9_bestSet 36 = .ok (.aload_n 0, 1) := by decide +kernel
theorem dX9_bestSet_37 : decode cX9_bestSet 37 = .ok (.iload_n 2, 1) := by decide +kernel
theorem dX9_bestSet_38 : decode cX9_bestSet 38 = .ok (.invokevirtual 374, 3) := by decide +kernel
theorem dX9_bestSet_41 : decode cX9_bestSet 41 = .ok (.ifCond .ne 6, 3) := by decide +kernel
theorem dX9_bestSet_44 : decode cX9_bestSet 44 = .ok (.goto 54, 3) := by decide +kernel
theorem dX9_bestSet_47 : decode cX9_bestSet 47 = .ok (.lload 7, 2) := by decide +kernel
theorem dX9_bestSet_49 : decode cX9_bestSet 49 = .ok (.lload 4, 2) := by decide +kernel
theorem dX9_bestSet_51 : decode cX9_bestSet 51 = .ok (.lcmp, 1) := by decide +kernel
theorem dX9_bestSet_52 : decode cX9_bestSet 52 = .ok (.ifCond .ne 19, 3) := by decide +kernel
theorem dX9_bestSet_55 : decode cX9_bestSet 55 = .ok (.iload 6, 2) := by decide +kernel
theorem dX9_bestSet_57 : decode cX9_bestSet 57 = .ok (.invokestatic 210, 3) := by decide +kernel
theorem dX9_bestSet_60 : decode cX9_bestSet 60 = .ok (.iload_n 3, 1) := by decide +kernel
theorem dX9_bestSet_61 : decode cX9_bestSet 61 = .ok (.invokestatic 210, 3) := by decide +kernel
theorem dX9_bestSet_64 : decode cX9_bestSet 64 = .ok (.if_icmp .ge 7, 3) := by decide +kernel
theorem dX9_bestSet_67 : decode cX9_bestSet 67 = .ok (.iconst 1, 1) := by decide +kernel
theorem dX9_bestSet_68 : decode cX9_bestSet 68 = .ok (.goto 4, 3) := by decide +kernel
theorem dX9_bestSet_71 : decode cX9_bestSet 71 = .ok (.iconst 0, 1) := by decide +kernel
theorem dX9_bestSet_72 : decode cX9_bestSet 72 = .ok (.istore 9, 2) := by decide +kernel
theorem dX9_bestSet_74 : decode cX9_bestSet 74 = .ok (.iload_n 3, 1) := by decide +kernel
theorem dX9_bestSet_75 : decode cX9_bestSet 75 = .ok (.ifCond .lt 16, 3) := by decide +kernel
theorem dX9_bestSet_78 : decode cX9_bestSet 78 = .ok (.lload 7, 2) := by decide +kernel
theorem dX9_bestSet_80 : decode cX9_bestSet 80 = .ok (.lload 4, 2) := by decide +kernel
theorem dX9_bestSet_82 : decode cX9_bestSet 82 = .ok (.lcmp, 1) := by decide +kernel
theorem dX9_bestSet_83 : decode cX9_bestSet 83 = .ok (.ifCond .lt 8, 3) := by decide +kernel
theorem dX9_bestSet_86 : decode cX9_bestSet 86 = .ok (.iload 9, 2) := by decide +kernel
theorem dX9_bestSet_88 : decode cX9_bestSet 88 = .ok (.ifCond .eq 10, 3) := by decide +kernel
theorem dX9_bestSet_91 : decode cX9_bestSet 91 = .ok (.iload 6, 2) := by decide +kernel
theorem dX9_bestSet_93 : decode cX9_bestSet 93 = .ok (.istore_n 3, 1) := by decide +kernel
theorem dX9_bestSet_94 : decode cX9_bestSet 94 = .ok (.lload 7, 2) := by decide +kernel
theorem dX9_bestSet_96 : decode cX9_bestSet 96 = .ok (.lstore 4, 2) := by decide +kernel
theorem dX9_bestSet_98 : decode cX9_bestSet 98 = .ok (.iinc 6 1, 3) := by decide +kernel
theorem dX9_bestSet_101 : decode cX9_bestSet 101 = .ok (.goto (-93), 3) := by decide +kernel
theorem dX9_bestSet_104 : decode cX9_bestSet 104 = .ok (.iload_n 3, 1) := by decide +kernel
theorem dX9_bestSet_105 : decode cX9_bestSet 105 = .ok (.ireturn, 1) := by decide +kernel
theorem dX9_walksAtMost_0 : decode cX9_walksAtMost 0 = .ok (.iconst 0, 1) := by decide +kernel
theorem dX9_walksAtMost_1 : decode cX9_walksAtMost 1 = .ok (.istore_n 2, 1) := by decide +kernel
theorem dX9_walksAtMost_2 : decode cX9_walksAtMost 2 = .ok (.iload_n 2, 1) := by decide +kernel
theorem dX9_walksAtMost_3 : decode cX9_walksAtMost 3 = .ok (.aload_n 0, 1) := by decide +kernel
theorem dX9_walksAtMost_4 : decode cX9_walksAtMost 4 = .ok (.getfield 10, 3) := by decide +kernel
theorem dX9_walksAtMost_7 : decode cX9_walksAtMost 7 = .ok (.getfield 197, 3) := by decide +kernel
theorem dX9_walksAtMost_10 : decode cX9_walksAtMost 10 = .ok (.if_icmp .ge 24, 3) := by decide +kernel
theorem dX9_walksAtMost_13 : decode cX9_walksAtMost 13 = .ok (.aload_n 0, 1) := by decide +kernel
theorem dX9_walksAtMost_14 : decode cX9_walksAtMost 14 = .ok (.getfield 21, 3) := by decide +kernel
theorem dX9_walksAtMost_17 : decode cX9_walksAtMost 17 = .ok (.getfield 230, 3) := by decide +kernel
theorem dX9_walksAtMost_20 : decode cX9_walksAtMost 20 = .ok (.iload_n 2, 1) := by decide +kernel
theorem dX9_walksAtMost_21 : decode cX9_walksAtMost 21 = .ok (.iaload, 1) := by decide +kernel
theorem dX9_walksAtMost_22 : decode cX9_walksAtMost 22 = .ok (.iload_n 1, 1) := by decide +kernel
theorem dX9_walksAtMost_23 : decode cX9_walksAtMost 23 = .ok (.if_icmp .le 5, 3) := by decide +kernel
theorem dX9_walksAtMost_26 : decode cX9_walksAtMost 26 = .ok (.iconst 0, 1) := by decide +kernel
theorem dX9_walksAtMost_27 : decode cX9_walksAtMost 27 = .ok (.ireturn, 1) := by decide +kernel
theorem dX9_walksAtMost_28 : decode cX9_walksAtMost 28 = .ok (.iinc 2 1, 3) := by decide +kernel
theorem dX9_walksAtMost_31 : decode cX9_walksAtMost 31 = .ok (.goto (-29), 3) := by decide +kernel
theorem dX9_walksAtMost_34 : decode cX9_walksAtMost 34 = .ok (.iconst 1, 1) := by decide +kernel
theorem dX9_walksAtMost_35 : decode cX9_walksAtMost 35 = .ok (.ireturn, 1) := by decide +kernel
theorem dX9_dropsAtMost_0 : decode cX9_dropsAtMost 0 = .ok (.iconst 0, 1) := by decide +kernel
theorem dX9_dropsAtMost_1 : decode cX9_dropsAtMost 1 = .ok (.istore_n 2, 1) := by decide +kernel
theorem dX9_dropsAtMost_2 : decode cX9_dropsAtMost 2 = .ok (.iload_n 1, 1) := by decide +kernel
theorem dX9_dropsAtMost_3 : decode cX9_dropsAtMost 3 = .ok (.ldc_w 257, 3) := by decide +kernel
theorem dX9_dropsAtMost_6 : decode cX9_dropsAtMost 6 = .ok (.if_icmp .eq 42, 3) := by decide +kernel
theorem dX9_dropsAtMost_9 : decode cX9_dropsAtMost 9 = .ok (.iload_n 2, 1) := by decide +kernel
theorem dX9_dropsAtMost_10 : decode cX9_dropsAtMost 10 = .ok (.aload_n 0, 1) := by decide +kernel
theorem dX9_dropsAtMost_11 : decode cX9_dropsAtMost 11 = .ok (.getfield 10, 3) := by decide +kernel
theorem dX9_dropsAtMost_14 : decode cX9_dropsAtMost 14 = .ok (.getfield 197, 3) := by decide +kernel
theorem dX9_dropsAtMost_17 : decode cX9_dropsAtMost 17 = .ok (.if_icmp .ge 31, 3) := by decide +kernel
theorem dX9_dropsAtMost_20 : decode cX9_dropsAtMost 20 = .ok (.aload_n 0, 1) := by decide +kernel
theorem dX9_dropsAtMost_21 : decode cX9_dropsAtMost 21 = .ok (.getfield 21, 3) := by decide +kernel
theorem dX9_dropsAtMost_24 : decode cX9_dropsAtMost 24 = .ok (.getfield 221, 3) := by decide +kernel
theorem dX9_dropsAtMost_27 : decode cX9_dropsAtMost 27 = .ok (.iload_n 2, 1) := by decide +kernel
theorem dX9_dropsAtMost_28 : decode cX9_dropsAtMost 28 = .ok (.iaload, 1) := by decide +kernel
theorem dX9_dropsAtMost_29 : decode cX9_dropsAtMost 29 = .ok (.aload_n 0, 1) := by decide +kernel
theorem dX9_dropsAtMost_30 : decode cX9_dropsAtMost 30 = .ok (.getfield 71, 3) := by decide +kernel
theorem dX9_dropsAtMost_33 : decode cX9_dropsAtMost 33 = .ok (.iload_n 2, 1) := by decide +kernel
theorem dX9_dropsAtMost_34 : decode cX9_dropsAtMost 34 = .ok (.iaload, 1) := by decide +kernel
theorem dX9_dropsAtMost_35 : decode cX9_dropsAtMost 35 = .ok (.isub, 1) := by decide +kernel
theorem dX9_dropsAtMost_36 : decode cX9_dropsAtMost 36 = .ok (.iload_n 1, 1) := by decide +kernel
theorem dX9_dropsAtMost_37 : decode cX9_dropsAtMost 37 = .ok (.if_icmp .le 5, 3) := by decide +kernel
theorem dX9_dropsAtMost_40 : decode cX9_dropsAtMost 40 = .ok (.iconst 0, 1) := by decide +kernel
theorem dX9_dropsAtMost_41 : decode cX9_dropsAtMost 41 = .ok (.ireturn, 1) := by decide +kernel
theorem dX9_dropsAtMost_42 : decode cX9_dropsAtMost 42 = .ok (.iinc 2 1, 3) := by decide +kernel
theorem dX9_dropsAtMost_45 : decode cX9_dropsAtMost 45 = .ok (.goto (-43), 3) := by decide +kernel
theorem dX9_dropsAtMost_48 : decode cX9_dropsAtMost 48 = .ok (.iconst 1, 1) := by decide +kernel
theorem dX9_dropsAtMost_49 : decode cX9_dropsAtMost 49 = .ok (.ireturn, 1) := by decide +kernel
theorem dX9_takePatterns_0 : decode cX9_takePatterns 0 = .ok (.iconst 0, 1) := by decide +kernel
theorem dX9_takePatterns_1 : decode cX9_takePatterns 1 = .ok (.istore_n 3, 1) := by decide +kernel
theorem dX9_takePatterns_2 : decode cX9_takePatterns 2 = .ok (.iconst 1, 1) := by decide +kernel
theorem dX9_takePatterns_3 : decode cX9_takePatterns 3 = .ok (.istore 4, 2) := by decide +kernel
theorem dX9_takePatterns_5 : decode cX9_takePatterns 5 = .ok (.iload_n 2, 1) := by decide +kernel
theorem dX9_takePatterns_6 : decode cX9_takePatterns 6 = .ok (.istore 5, 2) := by decide +kernel
theorem dX9_takePatterns_8 : decode cX9_takePatterns 8 = .ok (.iload_n 1, 1) := by decide +kernel
theorem dX9_takePatterns_9 : decode cX9_takePatterns 9 = .ok (.iconst 1, 1) := by decide +kernel
theorem dX9_takePatterns_10 : decode cX9_takePatterns 10 = .ok (.isub, 1) := by decide +kernel
theorem dX9_takePatterns_11 : decode cX9_takePatterns 11 = .ok (.istore 6, 2) := by decide +kernel
theorem dX9_takePatterns_13 : decode cX9_takePatterns 13 = .ok (.iload 6, 2) := by decide +kernel
theorem dX9_takePatterns_15 : decode cX9_takePatterns 15 = .ok (.ifCond .lt 61, 3) := by decide +kernel
theorem dX9_takePatterns_18 : decode cX9_takePatterns 18 = .ok (.iload 5, 2) := by decide +kernel
theorem dX9_takePatterns_20 : decode cX9_takePatterns 20 = .ok (.iconst 3, 1) := by decide +kernel
theorem dX9_takePatterns_21 : decode cX9_takePatterns 21 = .ok (.irem, 1) := by decide +kernel
theorem dX9_takePatterns_22 : decode cX9_takePatterns 22 = .ok (.istore 7, 2) := by decide +kernel
theorem dX9_takePatterns_24 : decode cX9_takePatterns 24 = .ok (.iload 5, 2) := by decide +kernel
theorem dX9_takePatterns_26 : decode cX9_takePatterns 26 = .ok (.iconst 3, 1) := by decide +kernel
theorem dX9_takePatterns_27 : decode cX9_takePatterns 27 = .ok (.idiv, 1) := by decide +kernel
theorem dX9_takePatterns_28 : decode cX9_takePatterns 28 = .ok (.istore 5, 2) := by decide +kernel
theorem dX9_takePatterns_30 : decode cX9_takePatterns 30 = .ok (.aload_n 0, 1) := by decide +kernel
theorem dX9_takePatterns_31 : decode cX9_takePatterns 31 = .ok (.getfield 21, 3) := by decide +kernel
theorem dX9_takePatterns_34 : decode cX9_takePatterns 34 = .ok (.getfield 377, 3) := by decide +kernel
theorem dX9_takePatterns_37 : decode cX9_takePatterns 37 = .ok (.iload 6, 2) := by decide +kernel
theorem dX9_takePatterns_39 : decode cX9_takePatterns 39 = .ok (.aload_n 0, 1) := by decide +kernel
theorem dX9_takePatterns_40 : decode cX9_takePatterns 40 = .ok (.getfield 10, 3) := by decide +kernel
theorem dX9_takePatterns_43 : decode cX9_takePatterns 43 = .ok (.getfield 154, 3) := by decide +kernel
theorem dX9_takePatterns_46 : decode cX9_takePatterns 46 = .ok (.iload 6, 2) := by decide +kernel
theorem dX9_takePatterns_48 : decode cX9_takePatterns 48 = .ok (.aaload, 1) := by decide +kernel
theorem dX9_takePatterns_49 : decode cX9_takePatterns 49 = .ok (.iload 7, 2) := by decide +kernel
theorem dX9_takePatterns_51 : decode cX9_takePatterns 51 = .ok (.invokevirtual 191, 3) := by decide +kernel
theorem dX9_takePatterns_54 : decode cX9_takePatterns 54 = .ok (.iastore, 1) := by decide +kernel
theorem dX9_takePatterns_55 : decode cX9_takePatterns 55 = .ok (.iload_n 3, 1) := by decide +kernel
theorem dX9_takePatterns_56 : decode cX9_takePatterns 56 = .ok (.iload 7, 2) := by decide +kernel
theorem dX9_takePatterns_58 : decode cX9_takePatterns 58 = .ok (.iload 4, 2) := by decide +kernel
theorem dX9_takePatterns_60 : decode cX9_takePatterns 60 = .ok (.imul, 1) := by decide +kernel
theorem dX9_takePatterns_61 : decode cX9_takePatterns 61 = .ok (.iadd, 1) := by decide +kernel
theorem dX9_takePatterns_62 : decode cX9_takePatterns 62 = .ok (.istore_n 3, 1) := by decide +kernel
theorem dX9_takePatterns_63 : decode cX9_takePatterns 63 = .ok (.iload 4, 2) := by decide +kernel
theorem dX9_takePatterns_65 : decode cX9_takePatterns 65 = .ok (.bipush 10, 2) := by decide +kernel
theorem dX9_takePatterns_67 : decode cX9_takePatterns 67 = .ok (.imul, 1) := by decide +kernel
theorem dX9_takePatterns_68 : decode cX9_takePatterns 68 = .ok (.istore 4, 2) := by decide +kernel
theorem dX9_takePatterns_70 : decode cX9_takePatterns 70 = .ok (.iinc 6 (-1), 3) := by decide +kernel
theorem dX9_takePatterns_73 : decode cX9_takePatterns 73 = .ok (.goto (-60), 3) := by decide +kernel
theorem dX9_takePatterns_76 : decode cX9_takePatterns 76 = .ok (.iload_n 3, 1) := by decide +kernel
theorem dX9_takePatterns_77 : decode cX9_takePatterns 77 = .ok (.ireturn, 1) := by decide +kernel
theorem dX9_peopleWhoPayMore_0 : decode cX9_peopleWhoPayMore 0 = .ok (.iconst 0, 1) := by decide +kernel
theorem dX9_peopleWhoPayMore_1 : decode cX9_peopleWhoPayMore 1 = .ok (.istore_n 2, 1) := by decide +kernel
theorem dX9_peopleWhoPayMore_2 : decode cX9_peopleWhoPayMore 2 = .ok (.iconst 0, 1) := by decide +kernel
theorem dX9_peopleWhoPayMore_3 : decode cX9_peopleWhoPayMore 3 = .ok (.istore_n 3, 1) := by decide +kernel
theorem dX9_peopleWhoPayMore_4 : decode cX9_peopleWhoPayMore 4 = .ok (.iload_n 3, 1) := by decide +kernel
theorem dX9_peopleWhoPayMore_5 : decode cX9_peopleWhoPayMore 5 = .ok (.aload_n 0, 1) := by decide +kernel
theorem dX9_peopleWhoPayMore_6 : decode cX9_peopleWhoPayMore 6 = .ok (.getfield 10, 3) := by decide +kernel
theorem dX9_peopleWhoPayMore_9 : decode cX9_peopleWhoPayMore 9 = .ok (.getfield 197, 3) := by decide +kernel
theorem dX9_peopleWhoPayMore_12 : decode cX9_peopleWhoPayMore 12 = .ok (.if_icmp .ge 45, 3) := by decide +kernel
theorem dX9_peopleWhoPayMore_15 : decode cX9_peopleWhoPayMore 15 = .ok (.aload_n 0, 1) := by decide +kernel
theorem dX9_peopleWhoPayMore_16 : decode cX9_peopleWhoPayMore 16 = .ok (.getfield 21, 3) := by decide +kernel
theorem dX9_peopleWhoPayMore_19 : decode cX9_peopleWhoPayMore 19 = .ok (.getfield 221, 3) := by decide +kernel
theorem dX9_peopleWhoPayMore_22 : decode cX9_peopleWhoPayMore 22 = .ok (.iload_n 3, 1) := by decide +kernel
theorem dX9_peopleWhoPayMore_23 : decode cX9_peopleWhoPayMore 23 = .ok (.iaload, 1) := by decide +kernel
theorem dX9_peopleWhoPayMore_24 : decode cX9_peopleWhoPayMore 24 = .ok (.aload_n 0, 1) := by decide +kernel
theorem dX9_peopleWhoPayMore_25 : decode cX9_peopleWhoPayMore 25 = .ok (.getfield 71, 3) := by decide +kernel
theorem dX9_peopleWhoPayMore_28 : decode cX9_peopleWhoPayMore 28 = .ok (.iload_n 3, 1) := by decide +kernel
theorem dX9_peopleWhoPayMore_29 : decode cX9_peopleWhoPayMore 29 = .ok (.iaload, 1) := by decide +kernel
theorem dX9_peopleWhoPayMore_30 : decode cX9_peopleWhoPayMore 30 = .ok (.isub, 1) := by decide +kernel
theorem dX9_peopleWhoPayMore_31 : decode cX9_peopleWhoPayMore 31 = .ok (.iload_n 1, 1) := by decide +kernel
theorem dX9_peopleWhoPayMore_32 : decode cX9_peopleWhoPayMore 32 = .ok (.imul, 1) := by decide +kernel
theorem dX9_peopleWhoPayMore_33 : decode cX9_peopleWhoPayMore 33 = .ok (.ifCond .le 18, 3) := by decide +kernel
theorem dX9_peopleWhoPayMore_36 : decode cX9_peopleWhoPayMore 36 = .ok (.iload_n 2, 1) := by decide +kernel
theorem dX9_peopleWhoPayMore_37 : decode cX9_peopleWhoPayMore 37 = .ok (.aload_n 0, 1) := by decide +kernel
theorem dX9_peopleWhoPayMore_38 : decode cX9_peopleWhoPayMore 38 = .ok (.getfield 10, 3) := by decide +kernel
theorem dX9_peopleWhoPayMore_41 : decode cX9_peopleWhoPayMore 41 = .ok (.getfield 200, 3) := by decide +kernel
theorem dX9_peopleWhoPayMore_44 : decode cX9_peopleWhoPayMore 44 = .ok (.iload_n 3, 1) := by decide +kernel
theorem dX9_peopleWhoPayMore_45 : decode cX9_peopleWhoPayMore 45 = .ok (.aaload, 1) := by decide +kernel
theorem dX9_peopleWhoPayMore_46 : decode cX9_peopleWhoPayMore 46 = .ok (.getfield 365, 3) := by decide +kernel
theorem dX9_peopleWhoPayMore_49 : decode cX9_peopleWhoPayMore 49 = .ok (.iadd, 1) := by decide +kernel
theorem dX9_peopleWhoPayMore_50 : decode cX9_peopleWhoPayMore 50 = .ok (.istore_n 2, 1) := by decide +kernel
theorem dX9_peopleWhoPayMore_51 : decode cX9_peopleWhoPayMore 51 = .ok (.iinc 3 1, 3) := by decide +kernel
theorem dX9_peopleWhoPayMore_54 : decode cX9_peopleWhoPayMore 54 = .ok (.goto (-50), 3) := by decide +kernel
theorem dX9_peopleWhoPayMore_57 : decode cX9_peopleWhoPayMore 57 = .ok (.iload_n 2, 1) := by decide +kernel
theorem dX9_peopleWhoPayMore_58 : decode cX9_peopleWhoPayMore 58 = .ok (.ireturn, 1) := by decide +kernel
theorem dX9_mostPaidMore_0 : decode cX9_mostPaidMore 0 = .ok (.iconst 0, 1) := by decide +kernel
theorem dX9_mostPaidMore_1 : decode cX9_mostPaidMore 1 = .ok (.istore_n 1, 1) := by decide +kernel
theorem dX9_mostPaidMore_2 : decode cX9_mostPaidMore 2 = .ok (.iconst 0, 1) := by decide +kernel
theorem dX9_mostPaidMore_3 : decode cX9_mostPaidMore 3 = .ok (.istore_n 2, 1) := by decide +kernel
theorem dX9_mostPaidMore_4 : decode cX9_mostPaidMore 4 = .ok (.iload_n 2, 1) := by decide +kernel
theorem dX9_mostPaidMore_5 : decode cX9_mostPaidMore 5 = .ok (.aload_n 0, 1) := by decide +kernel
theorem dX9_mostPaidMore_6 : decode cX9_mostPaidMore 6 = .ok (.getfield 10, 3) := by decide +kernel
theorem dX9_mostPaidMore_9 : decode cX9_mostPaidMore 9 = .ok (.getfield 197, 3) := by decide +kernel
theorem dX9_mostPaidMore_12 : decode cX9_mostPaidMore 12 = .ok (.if_icmp .ge 30, 3) := by decide +kernel
theorem dX9_mostPaidMore_15 : decode cX9_mostPaidMore 15 = .ok (.iload_n 1, 1) := by decide +kernel
theorem dX9_mostPaidMore_16 : decode cX9_mostPaidMore 16 = .ok (.aload_n 0, 1) := by decide +kernel
theorem dX9_mostPaidMore_17 : decode cX9_mostPaidMore 17 = .ok (.getfield 21, 3) := by decide +kernel
theorem dX9_mostPaidMore_20 : decode cX9_mostPaidMore 20 = .ok (.getfield 221, 3) := by decide +kernel
theorem dX9_mostPaidMore_23 : decode cX9_mostPaidMore 23 = .ok (.iload_n 2, 1) := by decide +kernel
theorem dX9_mostPaidMore_24 : decode cX9_mostPaidMore 24 = .ok (.iaload, 1) := by decide +kernel
theorem dX9_mostPaidMore_25 : decode cX9_mostPaidMore 25 = .ok (.aload_n 0, 1) := by decide +kernel
theorem dX9_mostPaidMore_26 : decode cX9_mostPaidMore 26 = .ok (.getfield 71, 3) := by decide +kernel
theorem dX9_mostPaidMore_29 : decode cX9_mostPaidMore 29 = .ok (.iload_n 2, 1) := by decide +kernel
theorem dX9_mostPaidMore_30 : decode cX9_mostPaidMore 30 = .ok (.iaload, 1) := by decide +kernel
theorem dX9_mostPaidMore_31 : decode cX9_mostPaidMore 31 = .ok (.isub, 1) := by decide +kernel
theorem dX9_mostPaidMore_32 : decode cX9_mostPaidMore 32 = .ok (.invokestatic 368, 3) := by decide +kernel
theorem dX9_mostPaidMore_35 : decode cX9_mostPaidMore 35 = .ok (.istore_n 1, 1) := by decide +kernel
theorem dX9_mostPaidMore_36 : decode cX9_mostPaidMore 36 = .ok (.iinc 2 1, 3) := by decide +kernel
theorem dX9_mostPaidMore_39 : decode cX9_mostPaidMore 39 = .ok (.goto (-35), 3) := by decide +kernel
theorem dX9_mostPaidMore_42 : decode cX9_mostPaidMore 42 = .ok (.iload_n 1, 1) := by decide +kernel
theorem dX9_mostPaidMore_43 : decode cX9_mostPaidMore 43 = .ok (.ireturn, 1) := by decide +kernel
theorem dX9_givenUpOf_0 : decode cX9_givenUpOf 0 = .ok (.iconst (-1), 1) := by decide +kernel
theorem dX9_givenUpOf_1 : decode cX9_givenUpOf 1 = .ok (.istore_n 2, 1) := by decide +kernel
theorem dX9_givenUpOf_2 : decode cX9_givenUpOf 2 = .ok (.lconst 0, 1) := by decide +kernel
theorem dX9_givenUpOf_3 : decode cX9_givenUpOf 3 = .ok (.lstore_n 3, 1) := by decide +kernel
theorem dX9_givenUpOf_4 : decode cX9_givenUpOf 4 = .ok (.iconst 0, 1) := by decide +kernel
theorem dX9_givenUpOf_5 : decode cX9_givenUpOf 5 = .ok (.istore 5, 2) := by decide +kernel
theorem dX9_givenUpOf_7 : decode cX9_givenUpOf 7 = .ok (.iload 5, 2) := by decide +kernel
theorem dX9_givenUpOf_9 : decode cX9_givenUpOf 9 = .ok (.aload_n 0, 1) := by decide +kernel
theorem dX9_givenUpOf_10 : decode cX9_givenUpOf 10 = .ok (.getfield 10, 3) := by decide +kernel
theorem dX9_givenUpOf_13 : decode cX9_givenUpOf 13 = .ok (.getfield 151, 3) := by decide +kernel
theorem dX9_givenUpOf_16 : decode cX9_givenUpOf 16 = .ok (.if_icmp .ge 53, 3) := by decide +kernel
theorem dX9_givenUpOf_19 : decode cX9_givenUpOf 19 = .ok (.iload_n 1, 1) := by decide +kernel
theorem dX9_givenUpOf_20 : decode cX9_givenUpOf 20 = .ok (.iconst 1, 1) := by decide +kernel
theorem dX9_givenUpOf_21 : decode cX9_givenUpOf 21 = .ok (.iload 5, 2) := by decide +kernel
theorem dX9_givenUpOf_23 : decode cX9_givenUpOf 23 = .ok (.ishl, 1) := by decide +kernel
theorem dX9_givenUpOf_24 : decode cX9_givenUpOf 24 = .ok (.iand, 1) := by decide +kernel
theorem dX9_givenUpOf_25 : decode cX9_givenUpOf 25 = .ok (.ifCond .ne 6, 3) := by decide +kernel
theorem dX9_givenUpOf_28 : decode cX9_givenUpOf 28 = .ok (.goto 35, 3) := by decide +kernel
theorem dX9_givenUpOf_31 : decode cX9_givenUpOf 31 = .ok (.aload_n 0, 1) := by decide +kernel
theorem dX9_givenUpOf_32 : decode cX9_givenUpOf 32 = .ok (.iload_n 1, 1) := by decide +kernel
theorem dX9_givenUpOf_33 : decode cX9_givenUpOf 33 = .ok (.iconst 1, 1) := by decide +kernel
theorem dX9_givenUpOf_34 : decode cX9_givenUpOf 34 = .ok (.iload 5, 2) := by decide +kernel
theorem dX9_givenUpOf_36 : decode cX9_givenUpOf 36 = .ok (.ishl, 1) := by decide +kernel
theorem dX9_givenUpOf_37 : decode cX9_givenUpOf 37 = .ok (.iconst (-1), 1) := by decide +kernel
theorem dX9_givenUpOf_38 : decode cX9_givenUpOf 38 = .ok (.ixor, 1) := by decide +kernel
theorem dX9_givenUpOf_39 : decode cX9_givenUpOf 39 = .ok (.iand, 1) := by decide +kernel
theorem dX9_givenUpOf_40 : decode cX9_givenUpOf 40 = .ok (.invokevirtual 262, 3) := by decide +kernel
theorem dX9_givenUpOf_43 : decode cX9_givenUpOf 43 = .ok (.lstore 6, 2) := by decide +kernel
theorem dX9_givenUpOf_45 : decode cX9_givenUpOf 45 = .ok (.iload_n 2, 1) := by decide +kernel
theorem dX9_givenUpOf_46 : decode cX9_givenUpOf 46 = .ok (.iconst (-1), 1) := by decide +kernel
theorem dX9_givenUpOf_47 : decode cX9_givenUpOf 47 = .ok (.if_icmp .eq 10, 3) := by decide +kernel
theorem dX9_givenUpOf_50 : decode cX9_givenUpOf 50 = .ok (.lload 6, 2) := by decide +kernel
theorem dX9_givenUpOf_52 : decode cX9_givenUpOf 52 = .ok (.lload_n 3, 1) := by decide +kernel
theorem dX9_givenUpOf_53 : decode cX9_givenUpOf 53 = .ok (.lcmp, 1) := by decide +kernel
theorem dX9_givenUpOf_54 : decode cX9_givenUpOf 54 = .ok (.ifCond .ge 9, 3) := by decide +kernel
theorem dX9_givenUpOf_57 : decode cX9_givenUpOf 57 = .ok (.iload 5, 2) := by decide +kernel
theorem dX9_givenUpOf_59 : decode cX9_givenUpOf 59 = .ok (.istore_n 2, 1) := by decide +kernel
theorem dX9_givenUpOf_60 : decode cX9_givenUpOf 60 = .ok (.lload 6, 2) := by decide +kernel
theorem dX9_givenUpOf_62 : decode cX9_givenUpOf 62 = .ok (.lstore_n 3, 1) := by decide +kernel
theorem dX9_givenUpOf_63 : decode cX9_givenUpOf 63 = .ok (.iinc 5 1, 3) := by decide +kernel
theorem dX9_givenUpOf_66 : decode cX9_givenUpOf 66 = .ok (.goto (-59), 3) := by decide +kernel
theorem dX9_givenUpOf_69 : decode cX9_givenUpOf 69 = .ok (.iload_n 2, 1) := by decide +kernel
theorem dX9_givenUpOf_70 : decode cX9_givenUpOf 70 = .ok (.ireturn, 1) := by decide +kernel
theorem dX9_homesIf_0 : decode cX9_homesIf 0 = .ok (.aload_n 0, 1) := by decide +kernel
theorem dX9_homesIf_1 : decode cX9_homesIf 1 = .ok (.getfield 21, 3) := by decide +kernel
theorem dX9_homesIf_4 : decode cX9_homesIf 4 = .ok (.aload_n 0, 1) := by decide +kernel
theorem dX9_homesIf_5 : decode cX9_homesIf 5 = .ok (.getfield 10, 3) := by decide +kernel
theorem dX9_homesIf_8 : decode cX9_homesIf 8 = .ok (.invokevirtual 207, 3) := by decide +kernel
theorem dX9_homesIf_11 : decode cX9_homesIf 11 = .ok (.iload_n 1, 1) := by decide +kernel
theorem dX9_homesIf_12 : decode cX9_homesIf 12 = .ok (.invokevirtual 274, 3) := by decide +kernel
theorem dX9_homesIf_15 : decode cX9_homesIf 15 = .ok (.iconst 0, 1) := by decide +kernel
theorem dX9_homesIf_16 : decode cX9_homesIf 16 = .ok (.istore_n 2, 1) := by decide +kernel
theorem dX9_homesIf_17 : decode cX9_homesIf 17 = .ok (.iconst 0, 1) := by decide +kernel
theorem dX9_homesIf_18 : decode cX9_homesIf 18 = .ok (.istore_n 3, 1) := by decide +kernel
theorem dX9_homesIf_19 : decode cX9_homesIf 19 = .ok (.iload_n 3, 1) := by decide +kernel
theorem dX9_homesIf_20 : decode cX9_homesIf 20 = .ok (.aload_n 0, 1) := by decide +kernel
theorem dX9_homesIf_21 : decode cX9_homesIf 21 = .ok (.getfield 10, 3) := by decide +kernel
theorem dX9_homesIf_24 : decode cX9_homesIf 24 = .ok (.getfield 197, 3) := by decide +kernel
theorem dX9_homesIf_27 : decode cX9_homesIf 27 = .ok (.if_icmp .ge 131, 3) := by decide +kernel
theorem dX9_homesIf_30 : decode cX9_homesIf 30 = .ok (.aload_n 0, 1) := by decide +kernel
theorem dX9_homesIf_31 : decode cX9_homesIf 31 = .ok (.getfield 67, 3) := by decide +kernel
theorem dX9_homesIf_34 : decode cX9_homesIf 34 = .ok (.iconst 0, 1) := by decide +kernel
theorem dX9_homesIf_35 : decode cX9_homesIf 35 = .ok (.aload_n 0, 1) := by decide +kernel
theorem dX9_homesIf_36 : decode cX9_homesIf 36 = .ok (.getfield 21, 3) := by decide +kernel
theorem dX9_homesIf_39 : decode cX9_homesIf 39 = .ok (.getfield 221, 3) := by decide +kernel
theorem dX9_homesIf_42 : decode cX9_homesIf 42 = .ok (.iload_n 3, 1) := by decide +kernel
theorem dX9_homesIf_43 : decode cX9_homesIf 43 = .ok (.iaload, 1) := by decide +kernel
theorem dX9_homesIf_44 : decode cX9_homesIf 44 = .ok (.iastore, 1) := by decide +kernel
theorem dX9_homesIf_45 : decode cX9_homesIf 45 = .ok (.aload_n 0, 1) := by decide +kernel
theorem dX9_homesIf_46 : decode cX9_homesIf 46 = .ok (.getfield 67, 3) := by decide +kernel
theorem dX9_homesIf_49 : decode cX9_homesIf 49 = .ok (.iconst 1, 1) := by decide +kernel
theorem dX9_homesIf_50 : decode cX9_homesIf 50 = .ok (.aload_n 0, 1) := by decide +kernel
theorem dX9_homesIf_51 : decode cX9_homesIf 51 = .ok (.getfield 21, 3) := by decide +kernel
theorem dX9_homesIf_54 : decode cX9_homesIf 54 = .ok (.getfield 230, 3) := by decide +kernel
theorem dX9_homesIf_57 : decode cX9_homesIf 57 = .ok (.iload_n 3, 1) := by decide +kernel
theorem dX9_homesIf_58 : decode cX9_homesIf 58 = .ok (.iaload, 1) := by decide +kernel
theorem dX9_homesIf_59 : decode cX9_homesIf 59 = .ok (.iastore, 1) := by decide +kernel
theorem dX9_homesIf_60 : decode cX9_homesIf 60 = .ok (.aload_n 0, 1) := by decide +kernel
theorem dX9_homesIf_61 : decode cX9_homesIf 61 = .ok (.getfield 67, 3) := by decide +kernel
theorem dX9_homesIf_64 : decode cX9_homesIf 64 = .ok (.iconst 2, 1) := by decide +kernel
theorem dX9_homesIf_65 : decode cX9_homesIf 65 = .ok (.aload_n 0, 1) := by decide +kernel
theorem dX9_homesIf_66 : decode cX9_homesIf 66 = .ok (.getfield 21, 3) := by decide +kernel
theorem dX9_homesIf_69 : decode cX9_homesIf 69 = .ok (.getfield 233, 3) := by decide +kernel
theorem dX9_homesIf_72 : decode cX9_homesIf 72 = .ok (.iload_n 3, 1) := by decide +kernel
theorem dX9_homesIf_73 : decode cX9_homesIf 73 = .ok (.iaload, 1) := by decide +kernel
theorem dX9_homesIf_74 : decode cX9_homesIf 74 = .ok (.iastore, 1) := by decide +kernel
theorem dX9_homesIf_75 : decode cX9_homesIf 75 = .ok (.aload_n 0, 1) := by decide +kernel
theorem dX9_homesIf_76 : decode cX9_homesIf 76 = .ok (.getfield 67, 3) := by decide +kernel
theorem dX9_homesIf_79 : decode cX9_homesIf 79 = .ok (.iconst 3, 1) := by decide +kernel
theorem dX9_homesIf_80 : decode cX9_homesIf 80 = .ok (.aload_n 0, 1) := by decide +kernel
theorem dX9_homesIf_81 : decode cX9_homesIf 81 = .ok (.getfield 21, 3) := by decide +kernel
theorem dX9_homesIf_84 : decode cX9_homesIf 84 = .ok (.getfield 236, 3) := by decide +kernel
theorem dX9_homesIf_87 : decode cX9_homesIf 87 = .ok (.iload_n 3, 1) := by decide +kernel
theorem dX9_homesIf_88 : decode cX9_homesIf 88 = .ok (.iaload, 1) := by decide +kernel
theorem dX9_homesIf_89 : decode cX9_homesIf 89 = .ok (.iastore, 1) := by decide +kernel
theorem dX9_homesIf_90 : decode cX9_homesIf 90 = .ok (.aload_n 0, 1) := by decide +kernel
theorem dX9_homesIf_91 : decode cX9_homesIf 91 = .ok (.getfield 67, 3) := by decide +kernel
theorem dX9_homesIf_94 : decode cX9_homesIf 94 = .ok (.iconst 4, 1) := by decide +kernel
theorem dX9_homesIf_95 : decode cX9_homesIf 95 = .ok (.aload_n 0, 1) := by decide +kernel
theorem dX9_homesIf_96 : decode cX9_homesIf 96 = .ok (.getfield 10, 3) := by decide +kernel
theorem dX9_homesIf_99 : decode cX9_homesIf 99 = .ok (.getfield 200, 3) := by decide +kernel
theorem dX9_homesIf_102 : decode cX9_homesIf 102 = .ok (.iload_n 3, 1) := by decide +kernel
theorem dX9_homesIf_103 : decode cX9_homesIf 103 = .ok (.aaload, 1) := by decide +kernel
theorem dX9_homesIf_104 : decode cX9_homesIf 104 = .ok (.getfield 365, 3) := by decide +kernel
theorem dX9_homesIf_107 : decode cX9_homesIf 107 = .ok (.iastore, 1) := by decide +kernel
theorem dX9_homesIf_108 : decode cX9_homesIf 108 = .ok (.aload_n 0, 1) := by decide +kernel
theorem dX9_homesIf_109 : decode cX9_homesIf 109 = .ok (.getfield 67, 3) := by decide +kernel
theorem dX9_homesIf_112 : decode cX9_homesIf 112 = .ok (.iconst 5, 1) := by decide +kernel
theorem dX9_homesIf_113 : decode cX9_homesIf 113 = .ok (.aload_n 0, 1) := by decide +kernel
theorem dX9_homesIf_114 : decode cX9_homesIf 114 = .ok (.getfield 10, 3) := by decide +kernel
theorem dX9_homesIf_117 : decode cX9_homesIf 117 = .ok (.getfield 200, 3) := by decide +kernel
theorem dX9_homesIf_120 : decode cX9_homesIf 120 = .ok (.iload_n 3, 1) := by decide +kernel
theorem dX9_homesIf_121 : decode cX9_homesIf 121 = .ok (.aaload, 1) := by decide +kernel
theorem dX9_homesIf_122 : decode cX9_homesIf 122 = .ok (.getfield 290, 3) := by decide +kernel
theorem dX9_homesIf_125 : decode cX9_homesIf 125 = .ok (.iastore, 1) := by decide +kernel
theorem dX9_homesIf_126 : decode cX9_homesIf 126 = .ok (.aload_n 0, 1) := by decide +kernel
theorem dX9_homesIf_127 : decode cX9_homesIf 127 = .ok (.getfield 43, 3) := by decide +kernel
theorem dX9_homesIf_130 : decode cX9_homesIf 130 = .ok (.aload_n 0, 1) := by decide +kernel
theorem dX9_homesIf_131 : decode cX9_homesIf 131 = .ok (.getfield 51, 3) := by decide +kernel
theorem dX9_homesIf_134 : decode cX9_homesIf 134 = .ok (.aaload, 1) := by decide +kernel
theorem dX9_homesIf_135 : decode cX9_homesIf 135 = .ok (.iconst 0, 1) := by decide +kernel
theorem dX9_homesIf_136 : decode cX9_homesIf 136 = .ok (.aload_n 0, 1) := by decide +kernel
theorem dX9_homesIf_137 : decode cX9_homesIf 137 = .ok (.getfield 67, 3) := by decide +kernel
theorem dX9_homesIf_140 : decode cX9_homesIf 140 = .ok (.invokevirtual 380, 3) := by decide +kernel
theorem dX9_homesIf_143 : decode cX9_homesIf 143 = .ok (.ifCond .eq 9, 3) := by decide +kernel
theorem dX9_homesIf_146 : decode cX9_homesIf 146 = .ok (.iload_n 2, 1) := by decide +kernel
theorem dX9_homesIf_147 : decode cX9_homesIf 147 = .ok (.iconst 1, 1) := by decide +kernel
theorem dX9_homesIf_148 : decode cX9_homesIf 148 = .ok (.iload_n 3, 1) := by decide +kernel
theorem dX9_homesIf_149 : decode cX9_homesIf 149 = .ok (.ishl, 1) := by decide +kernel
theorem dX9_homesIf_150 : decode cX9_homesIf 150 = .ok (.ior, 1) := by decide +kernel
theorem dX9_homesIf_151 : decode cX9_homesIf 151 = .ok (.istore_n 2, 1) := by decide +kernel
theorem dX9_homesIf_152 : decode cX9_homesIf 152 = .ok (.iinc 3 1, 3) := by decide +kernel
theorem dX9_homesIf_155 : decode cX9_homesIf 155 = .ok (.goto (-136), 3) := by decide +kernel
theorem dX9_homesIf_158 : decode cX9_homesIf 158 = .ok (.iload_n 2, 1) := by decide +kernel
theorem dX9_homesIf_159 : decode cX9_homesIf 159 = .ok (.ireturn, 1) := by decide +kernel
theorem dX9_goRounds_0 : decode cX9_goRounds 0 = .ok (.aload_n 0, 1) := by decide +kernel
theorem dX9_goRounds_1 : decode cX9_goRounds 1 = .ok (.getfield 21, 3) := by decide +kernel
theorem dX9_goRounds_4 : decode cX9_goRounds 4 = .ok (.invokevirtual 254, 3) := by decide +kernel
theorem dX9_goRounds_7 : decode cX9_goRounds 7 = .ok (.aload_n 0, 1) := by decide +kernel
theorem dX9_goRounds_8 : decode cX9_goRounds 8 = .ok (.getfield 74, 3) := by decide +kernel
theorem dX9_goRounds_11 : decode cX9_goRounds 11 = .ok (.iconst 0, 1) := by decide +kernel
theorem dX9_goRounds_12 : decode cX9_goRounds 12 = .ok (.iconst 0, 1) := by decide +kernel
theorem dX9_goRounds_13 : decode cX9_goRounds 13 = .ok (.iastore, 1) := by decide +kernel
theorem dX9_goRounds_14 : decode cX9_goRounds 14 = .ok (.aload_n 0, 1) := by decide +kernel
theorem dX9_goRounds_15 : decode cX9_goRounds 15 = .ok (.getfield 10, 3) := by decide +kernel
theorem dX9_goRounds_18 : decode cX9_goRounds 18 = .ok (.iconst 0, 1) := by decide +kernel
theorem dX9_goRounds_19 : decode cX9_goRounds 19 = .ok (.invokevirtual 384, 3) := by decide +kernel
theorem dX9_goRounds_22 : decode cX9_goRounds 22 = .ok (.istore_n 2, 1) := by decide +kernel
theorem dX9_goRounds_23 : decode cX9_goRounds 23 = .ok (.iconst 1, 1) := by decide +kernel
theorem dX9_goRounds_24 : decode cX9_goRounds 24 = .ok (.istore_n 3, 1) := by decide +kernel
theorem dX9_goRounds_25 : decode cX9_goRounds 25 = .ok (.iload_n 3, 1) := by decide +kernel
theorem dX9_goRounds_26 : decode cX9_goRounds 26 = .ok (.iload_n 1, 1) := by decide +kernel
theorem dX9_goRounds_27 : decode cX9_goRounds 27 = .ok (.if_icmp .gt 65, 3) := by decide +kernel
theorem dX9_goRounds_30 : decode cX9_goRounds 30 = .ok (.iload_n 3, 1) := by decide +kernel
theorem dX9_goRounds_31 : decode cX9_goRounds 31 = .ok (.bipush 20, 2) := by decide +kernel
theorem dX9_goRounds_33 : decode cX9_goRounds 33 = .ok (.if_icmp .gt 59, 3) := by decide +kernel
theorem dX9_goRounds_36 : decode cX9_goRounds 36 = .ok (.iconst 1, 1) := by decide +kernel
theorem dX9_goRounds_37 : decode cX9_goRounds 37 = .ok (.aload_n 0, 1) := by decide +kernel
theorem dX9_goRounds_38 : decode cX9_goRounds 38 = .ok (.getfield 10, 3) := by decide +kernel
theorem dX9_goRounds_41 : decode cX9_goRounds 41 = .ok (.aload_n 0, 1) := by decide +kernel
theorem dX9_goRounds_42 : decode cX9_goRounds 42 = .ok (.getfield 74, 3) := by decide +kernel
theorem dX9_goRounds_45 : decode cX9_goRounds 45 = .ok (.iload_n 3, 1) := by decide +kernel
theorem dX9_goRounds_46 : decode cX9_goRounds 46 = .ok (.iconst 1, 1) := by decide +kernel
theorem dX9_goRounds_47 : decode cX9_goRounds 47 = .ok (.isub, 1) := by decide +kernel
theorem dX9_goRounds_48 : decode cX9_goRounds 48 = .ok (.iaload, 1) := by decide +kernel
theorem dX9_goRounds_49 : decode cX9_goRounds 49 = .ok (.invokevirtual 384, 3) := by decide +kernel
theorem dX9_goRounds_52 : decode cX9_goRounds 52 = .ok (.invokestatic 368, 3) := by decide +kernel
theorem dX9_goRounds_55 : decode cX9_goRounds 55 = .ok (.istore 4, 2) := by decide +kernel
theorem dX9_goRounds_57 : decode cX9_goRounds 57 = .ok (.aload_n 0, 1) := by decide +kernel
theorem dX9_goRounds_58 : decode cX9_goRounds 58 = .ok (.getfield 74, 3) := by decide +kernel
theorem dX9_goRounds_61 : decode cX9_goRounds 61 = .ok (.iload_n 3, 1) := by decide +kernel
theorem dX9_goRounds_62 : decode cX9_goRounds 62 = .ok (.aload_n 0, 1) := by decide +kernel
theorem dX9_goRounds_63 : decode cX9_goRounds 63 = .ok (.aload_n 0, 1) := by decide +kernel
theorem dX9_goRounds_64 : decode cX9_goRounds 64 = .ok (.getfield 10, 3) := by decide +kernel
theorem dX9_goRounds_67 : decode cX9_goRounds 67 = .ok (.getfield 135, 3) := by decide +kernel
theorem dX9_goRounds_70 : decode cX9_goRounds 70 = .ok (.iload_n 2, 1) := by decide +kernel
theorem dX9_goRounds_71 : decode cX9_goRounds 71 = .ok (.imul, 1) := by decide +kernel
theorem dX9_goRounds_72 : decode cX9_goRounds 72 = .ok (.iload 4, 2) := by decide +kernel
theorem dX9_goRounds_74 : decode cX9_goRounds 74 = .ok (.idiv, 1) := by decide +kernel
theorem dX9_goRounds_75 : decode cX9_goRounds 75 = .ok (.iconst 1, 1) := by decide +kernel
theorem dX9_goRounds_76 : decode cX9_goRounds 76 = .ok (.sipush 3600, 3) := by decide +kernel
theorem dX9_goRounds_79 : decode cX9_goRounds 79 = .ok (.invokestatic 387, 3) := by decide +kernel
theorem dX9_goRounds_82 : decode cX9_goRounds 82 = .ok (.invokevirtual 316, 3) := by decide +kernel
theorem dX9_goRounds_85 : decode cX9_goRounds 85 = .ok (.iastore, 1) := by decide +kernel
theorem dX9_goRounds_86 : decode cX9_goRounds 86 = .ok (.iinc 3 1, 3) := by decide +kernel
theorem dX9_goRounds_89 : decode cX9_goRounds 89 = .ok (.goto (-64), 3) := by decide +kernel
theorem dX9_goRounds_92 : decode cX9_goRounds 92 = .ok (.return_, 1) := by decide +kernel
theorem dX9_wantedNow_0 : decode cX9_wantedNow 0 = .ok (.aload_n 0, 1) := by decide +kernel
theorem dX9_wantedNow_1 : decode cX9_wantedNow 1 = .ok (.getfield 10, 3) := by decide +kernel
theorem dX9_wantedNow_4 : decode cX9_wantedNow 4 = .ok (.getfield 154, 3) := by decide +kernel
theorem dX9_wantedNow_7 : decode cX9_wantedNow 7 = .ok (.iload_n 1, 1) := by decide +kernel
theorem dX9_wantedNow_8 : decode cX9_wantedNow 8 = .ok (.aaload, 1) := by decide +kernel
theorem dX9_wantedNow_9 : decode cX9_wantedNow 9 = .ok (.iconst 1, 1) := by decide +kernel
theorem dX9_wantedNow_10 : decode cX9_wantedNow 10 = .ok (.invokevirtual 194, 3) := by decide +kernel
theorem dX9_wantedNow_13 : decode cX9_wantedNow 13 = .ok (.ifCond .ne 16, 3) := by decide +kernel
theorem dX9_wantedNow_16 : decode cX9_wantedNow 16 = .ok (.aload_n 0, 1) := by decide +kernel
theorem dX9_wantedNow_17 : decode cX9_wantedNow 17 = .ok (.getfield 10, 3) := by decide +kernel
theorem dX9_wantedNow_20 : decode cX9_wantedNow 20 = .ok (.getfield 154, 3) := by decide +kernel
theorem dX9_wantedNow_23 : decode cX9_wantedNow 23 = .ok (.iload_n 1, 1) := by decide +kernel
theorem dX9_wantedNow_24 : decode cX9_wantedNow 24 = .ok (.aaload, 1) := by decide +kernel
theorem dX9_wantedNow_25 : decode cX9_wantedNow 25 = .ok (.getfield 175, 3) := by decide +kernel
theorem dX9_wantedNow_28 : decode cX9_wantedNow 28 = .ok (.ireturn, 1) := by decide +kernel
theorem dX9_wantedNow_29 : decode cX9_wantedNow 29 = .ok (.aload_n 0, 1) := by decide +kernel
theorem dX9_wantedNow_30 : decode cX9_wantedNow 30 = .ok (.iload_n 1, 1) := by decide +kernel
theorem dX9_wantedNow_31 : decode cX9_wantedNow 31 = .ok (.iconst 0, 1) := by decide +kernel
theorem dX9_wantedNow_32 : decode cX9_wantedNow 32 = .ok (.aload_n 0, 1) := by decide +kernel
theorem dX9_wantedNow_33 : decode cX9_wantedNow 33 = .ok (.getfield 21, 3) := by decide +kernel
theorem dX9_wantedNow_36 : decode cX9_wantedNow 36 = .ok (.iload_n 1, 1) := by decide +kernel
theorem dX9_wantedNow_37 : decode cX9_wantedNow 37 = .ok (.invokevirtual 251, 3) := by decide +kernel
theorem dX9_wantedNow_40 : decode cX9_wantedNow 40 = .ok (.invokevirtual 390, 3) := by decide +kernel
theorem dX9_wantedNow_43 : decode cX9_wantedNow 43 = .ok (.aload_n 0, 1) := by decide +kernel
theorem dX9_wantedNow_44 : decode cX9_wantedNow 44 = .ok (.getfield 43, 3) := by decide +kernel
theorem dX9_wantedNow_47 : decode cX9_wantedNow 47 = .ok (.aload_n 0, 1) := by decide +kernel
theorem dX9_wantedNow_48 : decode cX9_wantedNow 48 = .ok (.getfield 51, 3) := by decide +kernel
theorem dX9_wantedNow_51 : decode cX9_wantedNow 51 = .ok (.aaload, 1) := by decide +kernel
theorem dX9_wantedNow_52 : decode cX9_wantedNow 52 = .ok (.iconst 2, 1) := by decide +kernel
theorem dX9_wantedNow_53 : decode cX9_wantedNow 53 = .ok (.aload_n 0, 1) := by decide +kernel
theorem dX9_wantedNow_54 : decode cX9_wantedNow 54 = .ok (.getfield 67, 3) := by decide +kernel
theorem dX9_wantedNow_57 : decode cX9_wantedNow 57 = .ok (.invokevirtual 380, 3) := by decide +kernel
theorem dX9_wantedNow_60 : decode cX9_wantedNow 60 = .ok (.iconst 0, 1) := by decide +kernel
theorem dX9_wantedNow_61 : decode cX9_wantedNow 61 = .ok (.bipush 10, 2) := by decide +kernel
theorem dX9_wantedNow_63 : decode cX9_wantedNow 63 = .ok (.invokestatic 387, 3) := by decide +kernel
theorem dX9_wantedNow_66 : decode cX9_wantedNow 66 = .ok (.ireturn, 1) := by decide +kernel
theorem dX9_nameStop_0 : decode cX9_nameStop 0 = .ok (.aload_n 0, 1) := by decide +kernel
theorem dX9_nameStop_1 : decode cX9_nameStop 1 = .ok (.getfield 67, 3) := by decide +kernel
theorem dX9_nameStop_4 : decode cX9_nameStop 4 = .ok (.iconst 0, 1) := by decide +kernel
theorem dX9_nameStop_5 : decode cX9_nameStop 5 = .ok (.invokestatic 394, 3) := by decide +kernel
theorem dX9_nameStop_8 : decode cX9_nameStop 8 = .ok (.aload_n 0, 1) := by decide +kernel
theorem dX9_nameStop_9 : decode cX9_nameStop 9 = .ok (.getfield 67, 3) := by decide +kernel
theorem dX9_nameStop_12 : decode cX9_nameStop 12 = .ok (.iconst 2, 1) := by decide +kernel
theorem dX9_nameStop_13 : decode cX9_nameStop 13 = .ok (.iload_n 2, 1) := by decide +kernel
theorem dX9_nameStop_14 : decode cX9_nameStop 14 = .ok (.iastore, 1) := by decide +kernel
theorem dX9_nameStop_15 : decode cX9_nameStop 15 = .ok (.aload_n 0, 1) := by decide +kernel
theorem dX9_nameStop_16 : decode cX9_nameStop 16 = .ok (.getfield 67, 3) := by decide +kernel
theorem dX9_nameStop_19 : decode cX9_nameStop 19 = .ok (.iconst 4, 1) := by decide +kernel
theorem dX9_nameStop_20 : decode cX9_nameStop 20 = .ok (.iload_n 3, 1) := by decide +kernel
theorem dX9_nameStop_21 : decode cX9_nameStop 21 = .ok (.iastore, 1) := by decide +kernel
theorem dX9_nameStop_22 : decode cX9_nameStop 22 = .ok (.aload_n 0, 1) := by decide +kernel
theorem dX9_nameStop_23 : decode cX9_nameStop 23 = .ok (.getfield 67, 3) := by decide +kernel
theorem dX9_nameStop_26 : decode cX9_nameStop 26 = .ok (.iconst 5, 1) := by decide +kernel
theorem dX9_nameStop_27 : decode cX9_nameStop 27 = .ok (.iload_n 1, 1) := by decide +kernel
theorem dX9_nameStop_28 : decode cX9_nameStop 28 = .ok (.iastore, 1) := by decide +kernel
theorem dX9_nameStop_29 : decode cX9_nameStop 29 = .ok (.return_, 1) := by decide +kernel
theorem dX9_runCars_0 : decode cX9_runCars 0 = .ok (.aload_n 0, 1) := by decide +kernel
theorem dX9_runCars_1 : decode cX9_runCars 1 = .ok (.invokevirtual 218, 3) := by decide +kernel
theorem dX9_runCars_4 : decode cX9_runCars 4 = .ok (.aload_n 0, 1) := by decide +kernel
theorem dX9_runCars_5 : decode cX9_runCars 5 = .ok (.getfield 77, 3) := by decide +kernel
theorem dX9_runCars_8 : decode cX9_runCars 8 = .ok (.aload_n 0, 1) := by decide +kernel
theorem dX9_runCars_9 : decode cX9_runCars 9 = .ok (.getfield 10, 3) := by decide +kernel
theorem dX9_runCars_12 : decode cX9_runCars 12 = .ok (.getfield 135, 3) := by decide +kernel
theorem dX9_runCars_15 : decode cX9_runCars 15 = .ok (.ineg, 1) := by decide +kernel
theorem dX9_runCars_16 : decode cX9_runCars 16 = .ok (.invokestatic 394, 3) := by decide +kernel
theorem dX9_runCars_19 : decode cX9_runCars 19 = .ok (.iconst 0, 1) := by decide +kernel
theorem dX9_runCars_20 : decode cX9_runCars 20 = .ok (.istore_n 3, 1) := by decide +kernel
theorem dX9_runCars_21 : decode cX9_runCars 21 = .ok (.iload_n 3, 1) := by decide +kernel
theorem dX9_runCars_22 : decode cX9_runCars 22 = .ok (.iload_n 1, 1) := by decide +kernel
theorem dX9_runCars_23 : decode cX9_runCars 23 = .ok (.if_icmp .ge 43, 3) := by decide +kernel
theorem dX9_runCars_26 : decode cX9_runCars 26 = .ok (.iload_n 3, 1) := by decide +kernel
theorem dX9_runCars_27 : decode cX9_runCars 27 = .ok (.bipush 12, 2) := by decide +kernel
theorem dX9_runCars_29 : decode cX9_runCars 29 = .ok (.if_icmp .ge 37, 3) := by decide +kernel
theorem dX9_runCars_32 : decode cX9_runCars 32 = .ok (.aload_n 0, 1) := by decide +kernel
theorem dX9_runCars_33 : decode cX9_runCars 33 = .ok (.getfield 80, 3) := by decide +kernel
theorem dX9_runCars_36 : decode cX9_runCars 36 = .ok (.iload_n 3, 1) := by decide +kernel
theorem dX9_runCars_37 : decode cX9_runCars 37 = .ok (.aload_n 0, 1) := by decide +kernel
theorem dX9_runCars_38 : decode cX9_runCars 38 = .ok (.iload_n 3, 1) := by decide +kernel
theorem dX9_runCars_39 : decode cX9_runCars 39 = .ok (.iload_n 3, 1) := by decide +kernel
theorem dX9_runCars_40 : decode cX9_runCars 40 = .ok (.ifCond .ne 7, 3) := by decide +kernel
theorem dX9_runCars_43 : decode cX9_runCars 43 = .ok (.iload_n 2, 1) := by decide +kernel
theorem dX9_runCars_44 : decode cX9_runCars 44 = .ok (.goto 12, 3) := by decide +kernel
theorem dX9_runCars_47 : decode cX9_runCars 47 = .ok (.iload_n 3, 1) := by decide +kernel
theorem dX9_runCars_48 : decode cX9_runCars 48 = .ok (.aload_n 0, 1) := by decide +kernel
theorem dX9_runCars_49 : decode cX9_runCars 49 = .ok (.getfield 10, 3) := by decide +kernel
theorem dX9_runCars_52 : decode cX9_runCars 52 = .ok (.getfield 135, 3) := by decide +kernel
theorem dX9_runCars_55 : decode cX9_runCars 55 = .ok (.imul, 1) := by decide +kernel
theorem dX9_runCars_56 : decode cX9_runCars 56 = .ok (.invokevirtual 400, 3) := by decide +kernel
theorem dX9_runCars_59 : decode cX9_runCars 59 = .ok (.iastore, 1) := by decide +kernel
theorem dX9_runCars_60 : decode cX9_runCars 60 = .ok (.iinc 3 1, 3) := by decide +kernel
theorem dX9_runCars_63 : decode cX9_runCars 63 = .ok (.goto (-42), 3) := by decide +kernel
theorem dX9_runCars_66 : decode cX9_runCars 66 = .ok (.return_, 1) := by decide +kernel
theorem dX9_endOf_0 : decode cX9_endOf 0 = .ok (.iload_n 2, 1) := by decide +kernel
theorem dX9_endOf_1 : decode cX9_endOf 1 = .ok (.istore_n 3, 1) := by decide +kernel
theorem dX9_endOf_2 : decode cX9_endOf 2 = .ok (.iconst 0, 1) := by decide +kernel
theorem dX9_endOf_3 : decode cX9_endOf 3 = .ok (.istore 4, 2) := by decide +kernel
theorem dX9_endOf_5 : decode cX9_endOf 5 = .ok (.iload 4, 2) := by decide +kernel
theorem dX9_endOf_7 : decode cX9_endOf 7 = .ok (.bipush 41, 2) := by decide +kernel
theorem dX9_endOf_9 : decode cX9_endOf 9 = .ok (.if_icmp .ge 87, 3) := by decide +kernel
theorem dX9_endOf_12 : decode cX9_endOf 12 = .ok (.iload_n 3, 1) := by decide +kernel
theorem dX9_endOf_13 : decode cX9_endOf 13 = .ok (.iload 4, 2) := by decide +kernel
theorem dX9_endOf_15 : decode cX9_endOf 15 = .ok (.ifCond .ne 7, 3) := by decide +kernel
theorem dX9_endOf_18 : decode cX9_endOf 18 = .ok (.iconst 0, 1) := by decide +kernel
theorem dX9_endOf_19 : decode cX9_endOf 19 = .ok (.goto 10, 3) := by decide +kernel
theorem dX9_endOf_22 : decode cX9_endOf 22 = .ok (.aload_n 0, 1) := by decide +kernel
theorem dX9_endOf_23 : decode cX9_endOf 23 = .ok (.getfield 10, 3) := by decide +kernel
theorem dX9_endOf_26 : decode cX9_endOf 26 = .ok (.getfield 138, 3) := by decide +kernel
theorem dX9_endOf_29 : decode cX9_endOf 29 = .ok (.iadd, 1) := by decide +kernel
theorem dX9_endOf_30 : decode cX9_endOf 30 = .ok (.istore_n 3, 1) := by decide +kernel
theorem dX9_endOf_31 : decode cX9_endOf 31 = .ok (.iconst 0, 1) := by decide +kernel
theorem dX9_endOf_32 : decode cX9_endOf 32 = .ok (.istore 5, 2) := by decide +kernel
theorem dX9_endOf_34 : decode cX9_endOf 34 = .ok (.iload 5, 2) := by decide +kernel
theorem dX9_endOf_36 : decode cX9_endOf 36 = .ok (.aload_n 0, 1) := by decide +kernel
theorem dX9_endOf_37 : decode cX9_endOf 37 = .ok (.getfield 10, 3) := by decide +kernel
theorem dX9_endOf_40 : decode cX9_endOf 40 = .ok (.getfield 151, 3) := by decide +kernel
theorem dX9_endOf_43 : decode cX9_endOf 43 = .ok (.if_icmp .ge 47, 3) := by decide +kernel
theorem dX9_endOf_46 : decode cX9_endOf 46 = .ok (.aload_n 0, 1) := by decide +kernel
theorem dX9_endOf_47 : decode cX9_endOf 47 = .ok (.getfield 10, 3) := by decide +kernel
theorem dX9_endOf_50 : decode cX9_endOf 50 = .ok (.getfield 154, 3) := by decide +kernel
theorem dX9_endOf_53 : decode cX9_endOf 53 = .ok (.iload 5, 2) := by decide +kernel
theorem dX9_endOf_55 : decode cX9_endOf 55 = .ok (.aaload, 1) := by decide +kernel
theorem dX9_endOf_56 : decode cX9_endOf 56 = .ok (.getfield 184, 3) := by decide +kernel
theorem dX9_endOf_59 : decode cX9_endOf 59 = .ok (.iload 4, 2) := by decide +kernel
theorem dX9_endOf_61 : decode cX9_endOf 61 = .ok (.if_icmp .ne 23, 3) := by decide +kernel
theorem dX9_endOf_64 : decode cX9_endOf 64 = .ok (.aload_n 0, 1) := by decide +kernel
theorem dX9_endOf_65 : decode cX9_endOf 65 = .ok (.iload_n 1, 1) := by decide +kernel
theorem dX9_endOf_66 : decode cX9_endOf 66 = .ok (.iconst 2, 1) := by decide +kernel
theorem dX9_endOf_67 : decode cX9_endOf 67 = .ok (.irem, 1) := by decide +kernel
theorem dX9_endOf_68 : decode cX9_endOf 68 = .ok (.iload 5, 2) := by decide +kernel
theorem dX9_endOf_70 : decode cX9_endOf 70 = .ok (.invokevirtual 403, 3) := by decide +kernel
theorem dX9_endOf_73 : decode cX9_endOf 73 = .ok (.ifCond .eq 11, 3) := by decide +kernel
theorem dX9_endOf_76 : decode cX9_endOf 76 = .ok (.aload_n 0, 1) := by decide +kernel
theorem dX9_endOf_77 : decode cX9_endOf 77 = .ok (.iload 5, 2) := by decide +kernel
theorem dX9_endOf_79 : decode cX9_endOf 79 = .ok (.iload_n 3, 1) := by decide +kernel
theorem dX9_endOf_80 : decode cX9_endOf 80 = .ok (.invokevirtual 406, 3) := by decide +kernel
theorem dX9_endOf_83 : decode cX9_endOf 83 = .ok (.istore_n 3, 1) := by decide +kernel
theorem dX9_endOf_84 : decode cX9_endOf 84 = .ok (.iinc 5 1, 3) := by decide +kernel
theorem dX9_endOf_87 : decode cX9_endOf 87 = .ok (.goto (-53), 3) := by decide +kernel
theorem dX9_endOf_90 : decode cX9_endOf 90 = .ok (.iinc 4 1, 3) := by decide +kernel
theorem dX9_endOf_93 : decode cX9_endOf 93 = .ok (.goto (-88), 3) := by decide +kernel
theorem dX9_endOf_96 : decode cX9_endOf 96 = .ok (.iload_n 3, 1) := by decide +kernel
theorem dX9_endOf_97 : decode cX9_endOf 97 = .ok (.ireturn, 1) := by decide +kernel
theorem dX9_stopsNow_0 : decode cX9_stopsNow 0 = .ok (.aload_n 0, 1) := by decide +kernel
theorem dX9_stopsNow_1 : decode cX9_stopsNow 1 = .ok (.getfield 10, 3) := by decide +kernel
theorem dX9_stopsNow_4 : decode cX9_stopsNow 4 = .ok (.getfield 154, 3) := by decide +kernel
theorem dX9_stopsNow_7 : decode cX9_stopsNow 7 = .ok (.iload_n 2, 1) := by decide +kernel
theorem dX9_stopsNow_8 : decode cX9_stopsNow 8 = .ok (.aaload, 1) := by decide +kernel
theorem dX9_stopsNow_9 : decode cX9_stopsNow 9 = .ok (.getfield 167, 3) := by decide +kernel
theorem dX9_stopsNow_12 : decode cX9_stopsNow 12 = .ok (.ifCond .eq 23, 3) := by decide +kernel
theorem dX9_stopsNow_15 : decode cX9_stopsNow 15 = .ok (.aload_n 0, 1) := by decide +kernel
theorem dX9_stopsNow_16 : decode cX9_stopsNow 16 = .ok (.getfield 21, 3) := by decide +kernel
theorem dX9_stopsNow_19 : decode cX9_stopsNow 19 = .ok (.getfield 377, 3) := by decide +kernel
theorem dX9_stopsNow_22 : decode cX9_stopsNow 22 = .ok (.iload_n 2, 1) := by decide +kernel
theorem dX9_stopsNow_23 : decode cX9_stopsNow 23 = .ok (.iaload, 1) := by decide +kernel
theorem dX9_stopsNow_24 : decode cX9_stopsNow 24 = .ok (.iconst 1, 1) := by decide +kernel
theorem dX9_stopsNow_25 : decode cX9_stopsNow 25 = .ok (.iload_n 1, 1) := by decide +kernel
theorem dX9_stopsNow_26 : decode cX9_stopsNow 26 = .ok (.ishl, 1) := by decide +kernel
theorem dX9_stopsNow_27 : decode cX9_stopsNow 27 = .ok (.iand, 1) := by decide +kernel
theorem dX9_stopsNow_28 : decode cX9_stopsNow 28 = .ok (.ifCond .eq 7, 3) := by decide +kernel
theorem dX9_stopsNow_31 : decode cX9_stopsNow 31 = .ok (.iconst 1, 1) := by decide +kernel
theorem dX9_stopsNow_32 : decode cX9_stopsNow 32 = .ok (.goto 4, 3) := by decide +kernel
theorem dX9_stopsNow_35 : decode cX9_stopsNow 35 = .ok (.iconst 0, 1) := by decide +kernel
theorem dX9_stopsNow_36 : decode cX9_stopsNow 36 = .ok (.ireturn, 1) := by decide +kernel
theorem dX9_leave_0 : decode cX9_leave 0 = .ok (.iload_n 2, 1) := by decide +kernel
theorem dX9_leave_1 : decode cX9_leave 1 = .ok (.aload_n 0, 1) := by decide +kernel
theorem dX9_leave_2 : decode cX9_leave 2 = .ok (.getfield 77, 3) := by decide +kernel
theorem dX9_leave_5 : decode cX9_leave 5 = .ok (.iload_n 1, 1) := by decide +kernel
theorem dX9_leave_6 : decode cX9_leave 6 = .ok (.iaload, 1) := by decide +kernel
theorem dX9_leave_7 : decode cX9_leave 7 = .ok (.invokestatic 368, 3) := by decide +kernel
theorem dX9_leave_10 : decode cX9_leave 10 = .ok (.istore_n 3, 1) := by decide +kernel
theorem dX9_leave_11 : decode cX9_leave 11 = .ok (.iload_n 3, 1) := by decide +kernel
theorem dX9_leave_12 : decode cX9_leave 12 = .ok (.aload_n 0, 1) := by decide +kernel
theorem dX9_leave_13 : decode cX9_leave 13 = .ok (.getfield 77, 3) := by decide +kernel
theorem dX9_leave_16 : decode cX9_leave 16 = .ok (.iload_n 1, 1) := by decide +kernel
theorem dX9_leave_17 : decode cX9_leave 17 = .ok (.iaload, 1) := by decide +kernel
theorem dX9_leave_18 : decode cX9_leave 18 = .ok (.isub, 1) := by decide +kernel
theorem dX9_leave_19 : decode cX9_leave 19 = .ok (.istore 4, 2) := by decide +kernel
theorem dX9_leave_21 : decode cX9_leave 21 = .ok (.aload_n 0, 1) := by decide +kernel
theorem dX9_leave_22 : decode cX9_leave 22 = .ok (.iload_n 1, 1) := by decide +kernel
theorem dX9_leave_23 : decode cX9_leave 23 = .ok (.iload 4, 2) := by decide +kernel
theorem dX9_leave_25 : decode cX9_leave 25 = .ok (.aload_n 0, 1) := by decide +kernel
theorem dX9_leave_26 : decode cX9_leave 26 = .ok (.getfield 21, 3) := by decide +kernel
theorem dX9_leave_29 : decode cX9_leave 29 = .ok (.iload_n 1, 1) := by decide +kernel
theorem dX9_leave_30 : decode cX9_leave 30 = .ok (.invokevirtual 251, 3) := by decide +kernel
theorem dX9_leave_33 : decode cX9_leave 33 = .ok (.iload 4, 2) := by decide +kernel
theorem dX9_leave_35 : decode cX9_leave 35 = .ok (.imul, 1) := by decide +kernel
theorem dX9_leave_36 : decode cX9_leave 36 = .ok (.iconst 1, 1) := by decide +kernel
theorem dX9_leave_37 : decode cX9_leave 37 = .ok (.aload_n 0, 1) := by decide +kernel
theorem dX9_leave_38 : decode cX9_leave 38 = .ok (.getfield 10, 3) := by decide +kernel
theorem dX9_leave_41 : decode cX9_leave 41 = .ok (.getfield 135, 3) := by decide +kernel
theorem dX9_leave_44 : decode cX9_leave 44 = .ok (.invokestatic 368, 3) := by decide +kernel
theorem dX9_leave_47 : decode cX9_leave 47 = .ok (.idiv, 1) := by decide +kernel
theorem dX9_leave_48 : decode cX9_leave 48 = .ok (.invokevirtual 390, 3) := by decide +kernel
theorem dX9_leave_51 : decode cX9_leave 51 = .ok (.aload_n 0, 1) := by decide +kernel
theorem dX9_leave_52 : decode cX9_leave 52 = .ok (.getfield 77, 3) := by decide +kernel
theorem dX9_leave_55 : decode cX9_leave 55 = .ok (.iload_n 1, 1) := by decide +kernel
theorem dX9_leave_56 : decode cX9_leave 56 = .ok (.iload_n 3, 1) := by decide +kernel
theorem dX9_leave_57 : decode cX9_leave 57 = .ok (.aload_n 0, 1) := by decide +kernel
theorem dX9_leave_58 : decode cX9_leave 58 = .ok (.getfield 21, 3) := by decide +kernel
theorem dX9_leave_61 : decode cX9_leave 61 = .ok (.getfield 310, 3) := by decide +kernel
theorem dX9_leave_64 : decode cX9_leave 64 = .ok (.iload_n 1, 1) := by decide +kernel
theorem dX9_leave_65 : decode cX9_leave 65 = .ok (.iaload, 1) := by decide +kernel
theorem dX9_leave_66 : decode cX9_leave 66 = .ok (.iadd, 1) := by decide +kernel
theorem dX9_leave_67 : decode cX9_leave 67 = .ok (.aload_n 0, 1) := by decide +kernel
theorem dX9_leave_68 : decode cX9_leave 68 = .ok (.getfield 43, 3) := by decide +kernel
theorem dX9_leave_71 : decode cX9_leave 71 = .ok (.aload_n 0, 1) := by decide +kernel
theorem dX9_leave_72 : decode cX9_leave 72 = .ok (.getfield 51, 3) := by decide +kernel
theorem dX9_leave_75 : decode cX9_leave 75 = .ok (.aaload, 1) := by decide +kernel
theorem dX9_leave_76 : decode cX9_leave 76 = .ok (.iconst 1, 1) := by decide +kernel
theorem dX9_leave_77 : decode cX9_leave 77 = .ok (.aload_n 0, 1) := by decide +kernel
theorem dX9_leave_78 : decode cX9_leave 78 = .ok (.getfield 67, 3) := by decide +kernel
theorem dX9_leave_81 : decode cX9_leave 81 = .ok (.invokevirtual 380, 3) := by decide +kernel
theorem dX9_leave_84 : decode cX9_leave 84 = .ok (.iconst 0, 1) := by decide +kernel
theorem dX9_leave_85 : decode cX9_leave 85 = .ok (.sipush 999, 3) := by decide +kernel
theorem dX9_leave_88 : decode cX9_leave 88 = .ok (.invokestatic 387, 3) := by decide +kernel
theorem dX9_leave_91 : decode cX9_leave 91 = .ok (.iadd, 1) := by decide +kernel
theorem dX9_leave_92 : decode cX9_leave 92 = .ok (.iastore, 1) := by decide +kernel
theorem dX9_leave_93 : decode cX9_leave 93 = .ok (.aload_n 0, 1) := by decide +kernel
theorem dX9_leave_94 : decode cX9_leave 94 = .ok (.getfield 77, 3) := by decide +kernel
theorem dX9_leave_97 : decode cX9_leave 97 = .ok (.iload_n 1, 1) := by decide +kernel
theorem dX9_leave_98 : decode cX9_leave 98 = .ok (.iaload, 1) := by decide +kernel
theorem dX9_leave_99 : decode cX9_leave 99 = .ok (.ireturn, 1) := by decide +kernel
theorem dX9_drawnRide_0 : decode cX9_drawnRide 0 = .ok (.iload_n 3, 1) := by decide +kernel
theorem dX9_drawnRide_1 : decode cX9_drawnRide 1 = .ok (.iconst 1, 1) := by decide +kernel
theorem dX9_drawnRide_2 : decode cX9_drawnRide 2 = .ok (.iadd, 1) := by decide +kernel
theorem dX9_drawnRide_3 : decode cX9_drawnRide 3 = .ok (.i2l, 1) := by decide +kernel
theorem dX9_drawnRide_4 : decode cX9_drawnRide 4 = .ok (.invokestatic 409, 3) := by decide +kernel
theorem dX9_drawnRide_7 : decode cX9_drawnRide 7 = .ok (.lstore 4, 2) := by decide +kernel
theorem dX9_drawnRide_9 : decode cX9_drawnRide 9 = .ok (.aload_n 0, 1) := by decide +kernel
theorem dX9_drawnRide_10 : decode cX9_drawnRide 10 = .ok (.getfield 21, 3) := by decide +kernel
theorem dX9_drawnRide_13 : decode cX9_drawnRide 13 = .ok (.getfield 377, 3) := by decide +kernel
theorem dX9_drawnRide_16 : decode cX9_drawnRide 16 = .ok (.iload_n 1, 1) := by decide +kernel
theorem dX9_drawnRide_17 : decode cX9_drawnRide 17 = .ok (.iaload, 1) := by decide +kernel
theorem dX9_drawnRide_18 : decode cX9_drawnRide 18 = .ok (.aload_n 0, 1) := by decide +kernel
theorem dX9_drawnRide_19 : decode cX9_drawnRide 19 = .ok (.getfield 21, 3) := by decide +kernel
theorem dX9_drawnRide_22 : decode cX9_drawnRide 22 = .ok (.getfield 377, 3) := by decide +kernel
theorem dX9_drawnRide_25 : decode cX9_drawnRide 25 = .ok (.iload_n 2, 1) := by decide +kernel
theorem dX9_drawnRide_26 : decode cX9_drawnRide 26 = .ok (.iaload, 1) := by decide +kernel
theorem dX9_drawnRide_27 : decode cX9_drawnRide 27 = .ok (.iand, 1) := by decide +kernel
theorem dX9_drawnRide_28 : decode cX9_drawnRide 28 = .ok (.istore 6, 2) := by decide +kernel
theorem dX9_drawnRide_30 : decode cX9_drawnRide 30 = .ok (.iload 6, 2) := by decide +kernel
theorem dX9_drawnRide_32 : decode cX9_drawnRide 32 = .ok (.iconst 3, 1) := by decide +kernel
theorem dX9_drawnRide_33 : decode cX9_drawnRide 33 = .ok (.if_icmp .ne 13, 3) := by decide +kernel
theorem dX9_drawnRide_36 : decode cX9_drawnRide 36 = .ok (.lload 4, 2) := by decide +kernel
theorem dX9_drawnRide_38 : decode cX9_drawnRide 38 = .ok (.ldc2_w 413, 3) := by decide +kernel
theorem dX9_drawnRide_41 : decode cX9_drawnRide 41 = .ok (.lrem, 1) := by decide +kernel
theorem dX9_drawnRide_42 : decode cX9_drawnRide 42 = .ok (.l2i, 1) := by decide +kernel
theorem dX9_drawnRide_43 : decode cX9_drawnRide 43 = .ok (.goto 14, 3) := by decide +kernel
theorem dX9_drawnRide_46 : decode cX9_drawnRide 46 = .ok (.iload 6, 2) := by decide +kernel
theorem dX9_drawnRide_48 : decode cX9_drawnRide 48 = .ok (.iconst 2, 1) := by decide +kernel
theorem dX9_drawnRide_49 : decode cX9_drawnRide 49 = .ok (.if_icmp .ne 7, 3) := by decide +kernel
theorem dX9_drawnRide_52 : decode cX9_drawnRide 52 = .ok (.iconst 1, 1) := by decide +kernel
theorem dX9_drawnRide_53 : decode cX9_drawnRide 53 = .ok (.goto 4, 3) := by decide +kernel
theorem dX9_drawnRide_56 : decode cX9_drawnRide 56 = .ok (.iconst 0, 1) := by decide +kernel
theorem dX9_drawnRide_57 : decode cX9_drawnRide 57 = .ok (.istore 7, 2) := by decide +kernel
theorem dX9_drawnRide_59 : decode cX9_drawnRide 59 = .ok (.aload_n 0, 1) := by decide +kernel
theorem dX9_drawnRide_60 : decode cX9_drawnRide 60 = .ok (.getfield 10, 3) := by decide +kernel
theorem dX9_drawnRide_63 : decode cX9_drawnRide 63 = .ok (.getfield 154, 3) := by decide +kernel
theorem dX9_drawnRide_66 : decode cX9_drawnRide 66 = .ok (.iload_n 1, 1) := by decide +kernel
theorem dX9_drawnRide_67 : decode cX9_drawnRide 67 = .ok (.aaload, 1) := by decide +kernel
theorem dX9_drawnRide_68 : decode cX9_drawnRide 68 = .ok (.getfield 184, 3) := by decide +kernel
theorem dX9_drawnRide_71 : decode cX9_drawnRide 71 = .ok (.aload_n 0, 1) := by decide +kernel
theorem dX9_drawnRide_72 : decode cX9_drawnRide 72 = .ok (.getfield 10, 3) := by decide +kernel
theorem dX9_drawnRide_75 : decode cX9_drawnRide 75 = .ok (.getfield 154, 3) := by decide +kernel
theorem dX9_drawnRide_78 : decode cX9_drawnRide 78 = .ok (.iload_n 2, 1) := by decide +kernel
theorem dX9_drawnRide_79 : decode cX9_drawnRide 79 = .ok (.aaload, 1) := by decide +kernel
theorem dX9_drawnRide_80 : decode cX9_drawnRide 80 = .ok (.getfield 184, 3) := by decide +kernel
theorem dX9_drawnRide_83 : decode cX9_drawnRide 83 = .ok (.invokestatic 293, 3) := by decide +kernel
theorem dX9_drawnRide_86 : decode cX9_drawnRide 86 = .ok (.istore 8, 2) := by decide +kernel
theorem dX9_drawnRide_88 : decode cX9_drawnRide 88 = .ok (.aload_n 0, 1) := by decide +kernel
theorem dX9_drawnRide_89 : decode cX9_drawnRide 89 = .ok (.getfield 10, 3) := by decide +kernel
theorem dX9_drawnRide_92 : decode cX9_drawnRide 92 = .ok (.getfield 154, 3) := by decide +kernel
theorem dX9_drawnRide_95 : decode cX9_drawnRide 95 = .ok (.iload_n 1, 1) := by decide +kernel
theorem dX9_drawnRide_96 : decode cX9_drawnRide 96 = .ok (.aaload, 1) := by decide +kernel
theorem dX9_drawnRide_97 : decode cX9_drawnRide 97 = .ok (.getfield 184, 3) := by decide +kernel
theorem dX9_drawnRide_100 : decode cX9_drawnRide 100 = .ok (.aload_n 0, 1) := by decide +kernel
theorem dX9_drawnRide_101 : decode cX9_drawnRide 101 = .ok (.getfield 10, 3) := by decide +kernel
theorem dX9_drawnRide_104 : decode cX9_drawnRide 104 = .ok (.getfield 154, 3) := by decide +kernel
theorem dX9_drawnRide_107 : decode cX9_drawnRide 107 = .ok (.iload_n 2, 1) := by decide +kernel
theorem dX9_drawnRide_108 : decode cX9_drawnRide 108 = .ok (.aaload, 1) := by decide +kernel
theorem dX9_drawnRide_109 : decode cX9_drawnRide 109 = .ok (.getfield 184, 3) := by decide +kernel
theorem dX9_drawnRide_112 : decode cX9_drawnRide 112 = .ok (.invokestatic 368, 3) := by decide +kernel
theorem dX9_drawnRide_115 : decode cX9_drawnRide 115 = .ok (.istore 9, 2) := by decide +kernel
theorem dX9_drawnRide_117 : decode cX9_drawnRide 117 = .ok (.iload 9, 2) := by decide +kernel
theorem dX9_drawnRide_119 : decode cX9_drawnRide 119 = .ok (.iload 8, 2) := by decide +kernel
theorem dX9_drawnRide_121 : decode cX9_drawnRide 121 = .ok (.isub, 1) := by decide +kernel
theorem dX9_drawnRide_122 : decode cX9_drawnRide 122 = .ok (.aload_n 0, 1) := by decide +kernel
theorem dX9_drawnRide_123 : decode cX9_drawnRide 123 = .ok (.getfield 10, 3) := by decide +kernel
theorem dX9_drawnRide_126 : decode cX9_drawnRide 126 = .ok (.getfield 138, 3) := by decide +kernel
theorem dX9_drawnRide_129 : decode cX9_drawnRide 129 = .ok (.imul, 1) := by decide +kernel
theorem dX9_drawnRide_130 : decode cX9_drawnRide 130 = .ok (.istore 10, 2) := by decide +kernel
theorem dX9_drawnRide_132 : decode cX9_drawnRide 132 = .ok (.iconst 0, 1) := by decide +kernel
theorem dX9_drawnRide_133 : decode cX9_drawnRide 133 = .ok (.istore 11, 2) := by decide +kernel
theorem dX9_drawnRide_135 : decode cX9_drawnRide 135 = .ok (.iload 11, 2) := by decide +kernel
theorem dX9_drawnRide_137 : decode cX9_drawnRide 137 = .ok (.aload_n 0, 1) := by decide +kernel
theorem dX9_drawnRide_138 : decode cX9_drawnRide 138 = .ok (.getfield 10, 3) := by decide +kernel
theorem dX9_drawnRide_141 : decode cX9_drawnRide 141 = .ok (.getfield 151, 3) := by decide +kernel
theorem dX9_drawnRide_144 : decode cX9_drawnRide 144 = .ok (.if_icmp .ge 76, 3) := by decide +kernel
theorem dX9_drawnRide_147 : decode cX9_drawnRide 147 = .ok (.lload 4, 2) := by decide +kernel
theorem dX9_drawnRide_149 : decode cX9_drawnRide 149 = .ok (.invokestatic 409, 3) := by decide +kernel
theorem dX9_drawnRide_152 : decode cX9_drawnRide 152 = .ok (.lstore 4, 2) := by decide +kernel
theorem dX9_drawnRide_154 : decode cX9_drawnRide 154 = .ok (.aload_n 0, 1) := by decide +kernel
theorem dX9_drawnRide_155 : decode cX9_drawnRide 155 = .ok (.getfield 10, 3) := by decide +kernel
theorem dX9_drawnRide_158 : decode cX9_drawnRide 158 = .ok (.getfield 154, 3) := by decide +kernel
theorem dX9_drawnRide_161 : decode cX9_drawnRide 161 = .ok (.iload 11, 2) := by decide +kernel
theorem dX9_drawnRide_163 : decode cX9_drawnRide 163 = .ok (.aaload, 1) := by decide +kernel
theorem dX9_drawnRide_164 : decode cX9_drawnRide 164 = .ok (.astore 12, 2) := by decide +kernel
theorem dX9_drawnRide_166 : decode cX9_drawnRide 166 = .ok (.aload 12, 2) := by decide +kernel
theorem dX9_drawnRide_168 : decode cX9_drawnRide 168 = .ok (.getfield 184, 3) := by decide +kernel
theorem dX9_drawnRide_171 : decode cX9_drawnRide 171 = .ok (.iload 8, 2) := by decide +kernel
theorem dX9_drawnRide_173 : decode cX9_drawnRide 173 = .ok (.if_icmp .le 41, 3) := by decide +kernel
theorem dX9_drawnRide_176 : decode cX9_drawnRide 176 = .ok (.aload 12, 2) := by decide +kernel
theorem dX9_drawnRide_178 : decode cX9_drawnRide 178 = .ok (.getfield 184, 3) := by decide +kernel
theorem dX9_drawnRide_181 : decode cX9_drawnRide 181 = .ok (.iload 9, 2) := by decide +kernel
theorem dX9_drawnRide_183 : decode cX9_drawnRide 183 = .ok (.if_icmp .ge 31, 3) := by decide +kernel
theorem dX9_drawnRide_186 : decode cX9_drawnRide 186 = .ok (.aload_n 0, 1) := by decide +kernel
theorem dX9_drawnRide_187 : decode cX9_drawnRide 187 = .ok (.iload 7, 2) := by decide +kernel
theorem dX9_drawnRide_189 : decode cX9_drawnRide 189 = .ok (.iload 11, 2) := by decide +kernel
theorem dX9_drawnRide_191 : decode cX9_drawnRide 191 = .ok (.invokevirtual 403, 3) := by decide +kernel
theorem dX9_drawnRide_194 : decode cX9_drawnRide 194 = .ok (.ifCond .eq 20, 3) := by decide +kernel
theorem dX9_drawnRide_197 : decode cX9_drawnRide 197 = .ok (.iload 10, 2) := by decide +kernel
theorem dX9_drawnRide_199 : decode cX9_drawnRide 199 = .ok (.aload 12, 2) := by decide +kernel
theorem dX9_drawnRide_201 : decode cX9_drawnRide 201 = .ok (.lload 4, 2) := by decide +kernel
theorem dX9_drawnRide_203 : decode cX9_drawnRide 203 = .ok (.ldc2_w 415, 3) := by decide +kernel
theorem dX9_drawnRide_206 : decode cX9_drawnRide 206 = .ok (.lrem, 1) := by decide +kernel
theorem dX9_drawnRide_207 : decode cX9_drawnRide 207 = .ok (.l2i, 1) := by decide +kernel
theorem dX9_drawnRide_208 : decode cX9_drawnRide 208 = .ok (.invokevirtual 417, 3) := by decide +kernel
theorem dX9_drawnRide_211 : decode cX9_drawnRide 211 = .ok (.iadd, 1) := by decide +kernel
theorem dX9_drawnRide_212 : decode cX9_drawnRide 212 = .ok (.istore 10, 2) := by decide +kernel
theorem dX9_drawnRide_214 : decode cX9_drawnRide 214 = .ok (.iinc 11 1, 3) := by decide +kernel
theorem dX9_drawnRide_217 : decode cX9_drawnRide 217 = .ok (.goto (-82), 3) := by decide +kernel
theorem dX9_drawnRide_220 : decode cX9_drawnRide 220 = .ok (.iload 10, 2) := by decide +kernel
theorem dX9_drawnRide_222 : decode cX9_drawnRide 222 = .ok (.ireturn, 1) := by decide +kernel
theorem dX9_nextLot_0 : decode cX9_nextLot 0 = .ok (.lload_n 0, 1) := by decide +kernel
theorem dX9_nextLot_1 : decode cX9_nextLot 1 = .ok (.ldc2_w 420, 3) := by decide +kernel
theorem dX9_nextLot_4 : decode cX9_nextLot 4 = .ok (.lmul, 1) := by decide +kernel
theorem dX9_nextLot_5 : decode cX9_nextLot 5 = .ok (.ldc2_w 422, 3) := by decide +kernel
theorem dX9_nextLot_8 : decode cX9_nextLot 8 = .ok (.lrem, 1) := by decide +kernel
theorem dX9_nextLot_9 : decode cX9_nextLot 9 = .ok (.lreturn, 1) := by decide +kernel
theorem dX10_init_0 : decode cX10_init 0 = .ok (.aload_n 0, 1) := by decide +kernel
theorem dX10_init_1 : decode cX10_init 1 = .ok (.invokespecial 1, 3) := by decide +kernel
theorem dX10_init_4 : decode cX10_init 4 = .ok (.aload_n 0, 1) := by decide +kernel
theorem dX10_init_5 : decode cX10_init 5 = .ok (.bipush 41, 2) := by decide +kernel
theorem dX10_init_7 : decode cX10_init 7 = .ok (.newarray .int, 2) := by decide +kernel
theorem dX10_init_9 : decode cX10_init 9 = .ok (.putfield 7, 3) := by decide +kernel
theorem dX10_init_12 : decode cX10_init 12 = .ok (.aload_n 0, 1) := by decide +kernel
theorem dX10_init_13 : decode cX10_init 13 = .ok (.bipush 18, 2) := by decide +kernel
theorem dX10_init_15 : decode cX10_init 15 = .ok (.newarray .int, 2) := by decide +kernel
theorem dX10_init_17 : decode cX10_init 17 = .ok (.dup, 1) := by decide +kernel
theorem dX10_init_18 : decode cX10_init 18 = .ok (.iconst 0, 1) := by decide +kernel
theorem dX10_init_19 : decode cX10_init 19 = .ok (.bipush 10, 2) := by decide +kernel
theorem dX10_init_21 : decode cX10_init 21 = .ok (.iastore, 1) := by decide +kernel
theorem dX10_init_22 : decode cX10_init 22 = .ok (.dup, 1) := by decide +kernel
theorem dX10_init_23 : decode cX10_init 23 = .ok (.iconst 1, 1) := by decide +kernel
theorem dX10_init_24 : decode cX10_init 24 = .ok (.iconst 5, 1) := by decide +kernel
theorem dX10_init_25 : decode cX10_init 25 = .ok (.iastore, 1) := by decide +kernel
theorem dX10_init_26 : decode cX10_init 26 = .ok (.dup, 1) := by decide +kernel
theorem dX10_init_27 : decode cX10_init 27 = .ok (.iconst 2, 1) := by decide +kernel
theorem dX10_init_28 : decode cX10_init 28 = .ok (.iconst 2, 1) := by decide +kernel
theorem dX10_init_29 : decode cX10_init 29 = .ok (.iastore, 1) := by decide +kernel
theorem dX10_init_30 : decode cX10_init 30 = .ok (.dup, 1) := by decide +kernel
theorem dX10_init_31 : decode cX10_init 31 = .ok (.iconst 3, 1) := by decide +kernel
theorem dX10_init_32 : decode cX10_init 32 = .ok (.iconst 2, 1) := by decide +kernel
theorem dX10_init_33 : decode cX10_init 33 = .ok (.iastore, 1) := by decide +kernel
theorem dX10_init_34 : decode cX10_init 34 = .ok (.dup, 1) := by decide +kernel
theorem dX10_init_35 : decode cX10_init 35 = .ok (.iconst 4, 1) := by decide +kernel
theorem dX10_init_36 : decode cX10_init 36 = .ok (.iconst 1, 1) := by decide +kernel
theorem dX10_init_37 : decode cX10_init 37 = .ok (.iastore, 1) := by decide +kernel
theorem dX10_init_38 : decode cX10_init 38 = .ok (.dup, 1) := by decide +kernel
theorem dX10_init_39 : decode cX10_init 39 = .ok (.iconst 5, 1) := by decide +kernel
theorem dX10_init_40 : decode cX10_init 40 = .ok (.sipush 300, 3) := by decide +kernel
theorem dX10_init_43 : decode cX10_init 43 = .ok (.iastore, 1) := by decide +kernel
theorem dX10_init_44 : decode cX10_init 44 = .ok (.dup, 1) := by decide +kernel
theorem dX10_init_45 : decode cX10_init 45 = .ok (.bipush 6, 2) := by decide +kernel
theorem dX10_init_47 : decode cX10_init 47 = .ok (.bipush 15, 2) := by decide +kernel
theorem dX10_init_49 : decode cX10_init 49 = .ok (.iastore, 1) := by decide +kernel
theorem dX10_init_50 : decode cX10_init 50 = .ok (.dup, 1) := by decide +kernel
theorem dX10_init_51 : decode cX10_init 51 = .ok (.bipush 7, 2) := by decide +kernel
theorem dX10_init_53 : decode cX10_init 53 = .ok (.bipush 20, 2) := by decide +kernel
theorem dX10_init_55 : decode cX10_init 55 = .ok (.iastore, 1) := by decide +kernel
theorem dX10_init_56 : decode cX10_init 56 = .ok (.dup, 1) := by decide +kernel
theorem dX10_init_57 : decode cX10_init 57 = .ok (.bipush 8, 2) := by decide +kernel
theorem dX10_init_59 : decode cX10_init 59 = .ok (.iconst 3, 1) := by decide +kernel
theorem dX10_init_60 : decode cX10_init 60 = .ok (.iastore, 1) := by decide +kernel
theorem dX10_init_61 : decode cX10_init 61 = .ok (.dup, 1) := by decide +kernel
theorem dX10_init_62 : decode cX10_init 62 = .ok (.bipush 9, 2) := by decide +kernel
theorem dX10_init_64 : decode cX10_init 64 = .ok (.iconst 2, 1) := by decide +kernel
theorem dX10_init_65 : decode cX10_init 65 = .ok (.iastore, 1) := by decide +kernel
theorem dX10_init_66 : decode cX10_init 66 = .ok (.dup, 1) := by decide +kernel
theorem dX10_init_67 : decode cX10_init 67 = .ok (.bipush 10, 2) := by decide +kernel
theorem dX10_init_69 : decode cX10_init 69 = .ok (.iconst 1, 1) := by decide +kernel
theorem dX10_init_70 : decode cX10_init 70 = .ok (.iastore, 1) := by decide +kernel
theorem dX10_init_71 : decode cX10_init 71 = .ok (.dup, 1) := by decide +kernel
theorem dX10_init_72 : decode cX10_init 72 = .ok (.bipush 11, 2) := by decide +kernel
theorem dX10_init_74 : decode cX10_init 74 = .ok (.sipush 200, 3) := by decide +kernel
theorem dX10_init_77 : decode cX10_init 77 = .ok (.iastore, 1) := by decide +kernel
theorem dX10_init_78 : decode cX10_init 78 = .ok (.dup, 1) := by decide +kernel
theorem dX10_init_79 : decode cX10_init 79 = .ok (.bipush 12, 2) := by decide +kernel
theorem dX10_init_81 : decode cX10_init 81 = .ok (.bipush 6, 2) := by decide +kernel
theorem dX10_init_83 : decode cX10_init 83 = .ok (.iastore, 1) := by decide +kernel
theorem dX10_init_84 : decode cX10_init 84 = .ok (.dup, 1) := by decide +kernel
theorem dX10_init_85 : decode cX10_init 85 = .ok (.bipush 13, 2) := by decide +kernel
theorem dX10_init_87 : decode cX10_init 87 = .ok (.iconst 2, 1) := by decide +kernel
theorem dX10_init_88 : decode cX10_init 88 = .ok (.iastore, 1) := by decide +kernel
theorem dX10_init_89 : decode cX10_init 89 = .ok (.dup, 1) := by decide +kernel
theorem dX10_init_90 : decode cX10_init 90 = .ok (.bipush 14, 2) := by decide +kernel
theorem dX10_init_92 : decode cX10_init 92 = .ok (.iconst 1, 1) := by decide +kernel
theorem dX10_init_93 : decode cX10_init 93 = .ok (.iastore, 1) := by decide +kernel
theorem dX10_init_94 : decode cX10_init 94 = .ok (.dup, 1) := by decide +kernel
theorem dX10_init_95 : decode cX10_init 95 = .ok (.bipush 15, 2) := by decide +kernel
theorem dX10_init_97 : decode cX10_init 97 = .ok (.iconst 3, 1) := by decide +kernel
theorem dX10_init_98 : decode cX10_init 98 = .ok (.iastore, 1) := by decide +kernel
theorem dX10_init_99 : decode cX10_init 99 = .ok (.dup, 1) := by decide +kernel
theorem dX10_init_100 : decode cX10_init 100 = .ok (.bipush 16, 2) := by decide +kernel
theorem dX10_init_102 : decode cX10_init 102 = .ok (.iconst 1, 1) := by decide +kernel
theorem dX10_init_103 : decode cX10_init 103 = .ok (.iastore, 1) := by decide +kernel
theorem dX10_init_104 : decode cX10_init 104 = .ok (.dup, 1) := by decide +kernel
theorem dX10_init_105 : decode cX10_init 105 = .ok (.bipush 17, 2) := by decide +kernel
theorem dX10_init_107 : decode cX10_init 107 = .ok (.sipush 600, 3) := by decide +kernel
theorem dX10_init_110 : decode cX10_init 110 = .ok (.iastore, 1) := by decide +kernel
theorem dX10_init_111 : decode cX10_init 111 = .ok (.putfield 13, 3) := by decide +kernel
theorem dX10_init_114 : decode cX10_init 114 = .ok (.aload_n 0, 1) := by decide +kernel
theorem dX10_init_115 : decode cX10_init 115 = .ok (.sipush 300, 3) := by decide +kernel
theorem dX10_init_118 : decode cX10_init 118 = .ok (.putfield 16, 3) := by decide +kernel
theorem dX10_init_121 : decode cX10_init 121 = .ok (.aload_n 0, 1) := by decide +kernel
theorem dX10_init_122 : decode cX10_init 122 = .ok (.iconst 3, 1) := by decide +kernel
theorem dX10_init_123 : decode cX10_init 123 = .ok (.putfield 20, 3) := by decide +kernel
theorem dX10_init_126 : decode cX10_init 126 = .ok (.aload_n 0, 1) := by decide +kernel
theorem dX10_init_127 : decode cX10_init 127 = .ok (.bipush 8, 2) := by decide +kernel
theorem dX10_init_129 : decode cX10_init 129 = .ok (.newarray .int, 2) := by decide +kernel
theorem dX10_init_131 : decode cX10_init 131 = .ok (.putfield 23, 3) := by decide +kernel
theorem dX10_init_134 : decode cX10_init 134 = .ok (.aload_n 0, 1) := by decide +kernel
theorem dX10_init_135 : decode cX10_init 135 = .ok (.bipush 8, 2) := by decide +kernel
theorem dX10_init_137 : decode cX10_init 137 = .ok (.newarray .int, 2) := by decide +kernel
theorem dX10_init_139 : decode cX10_init 139 = .ok (.putfield 26, 3) := by decide +kernel
theorem dX10_init_142 : decode cX10_init 142 = .ok (.aload_n 0, 1) := by decide +kernel
theorem dX10_init_143 : decode cX10_init 143 = .ok (.bipush 8, 2) := by decide +kernel
theorem dX10_init_145 : decode cX10_init 145 = .ok (.newarray .int, 2) := by decide +kernel
theorem dX10_init_147 : decode cX10_init 147 = .ok (.putfield 29, 3) := by decide +kernel
theorem dX10_init_150 : decode cX10_init 150 = .ok (.aload_n 0, 1) := by decide +kernel
theorem dX10_init_151 : decode cX10_init 151 = .ok (.bipush 8, 2) := by decide +kernel
theorem dX10_init_153 : decode cX10_init 153 = .ok (.newarray .int, 2) := by decide +kernel
theorem dX10_init_155 : decode cX10_init 155 = .ok (.putfield 32, 3) := by decide +kernel
theorem dX10_init_158 : decode cX10_init 158 = .ok (.aload_n 0, 1) := by decide +kernel
theorem dX10_init_159 : decode cX10_init 159 = .ok (.bipush 8, 2) := by decide +kernel
theorem dX10_init_161 : decode cX10_init 161 = .ok (.newarray .int, 2) := by decide +kernel
theorem dX10_init_163 : decode cX10_init 163 = .ok (.putfield 35, 3) := by decide +kernel
theorem dX10_init_166 : decode cX10_init 166 = .ok (.aload_n 0, 1) := by decide +kernel
theorem dX10_init_167 : decode cX10_init 167 = .ok (.bipush 8, 2) := by decide +kernel
theorem dX10_init_169 : decode cX10_init 169 = .ok (.newarray .int, 2) := by decide +kernel
theorem dX10_init_171 : decode cX10_init 171 = .ok (.putfield 38, 3) := by decide +kernel
theorem dX10_init_174 : decode cX10_init 174 = .ok (.aload_n 0, 1) := by decide +kernel
theorem dX10_init_175 : decode cX10_init 175 = .ok (.bipush 8, 2) := by decide +kernel
theorem dX10_init_177 : decode cX10_init 177 = .ok (.newarray .int, 2) := by decide +kernel
theorem dX10_init_179 : decode cX10_init 179 = .ok (.putfield 41, 3) := by decide +kernel
theorem dX10_init_182 : decode cX10_init 182 = .ok (.aload_n 0, 1) := by decide +kernel
theorem dX10_init_183 : decode cX10_init 183 = .ok (.bipush 8, 2) := by decide +kernel
theorem dX10_init_185 : decode cX10_init 185 = .ok (.newarray .int, 2) := by decide +kernel
theorem dX10_init_187 : decode cX10_init 187 = .ok (.putfield 44, 3) := by decide +kernel
theorem dX10_init_190 : decode cX10_init 190 = .ok (.aload_n 0, 1) := by decide +kernel
theorem dX10_init_191 : decode cX10_init 191 = .ok (.bipush 8, 2) := by decide +kernel
theorem dX10_init_193 : decode cX10_init 193 = .ok (.newarray .int, 2) := by decide +kernel
theorem dX10_init_195 : decode cX10_init 195 = .ok (.putfield 47, 3) := by decide +kernel
theorem dX10_init_198 : decode cX10_init 198 = .ok (.aload_n 0, 1) := by decide +kernel
theorem dX10_init_199 : decode cX10_init 199 = .ok (.bipush 8, 2) := by decide +kernel
theorem dX10_init_201 : decode cX10_init 201 = .ok (.newarray .int, 2) := by decide +kernel
theorem dX10_init_203 : decode cX10_init 203 = .ok (.putfield 50, 3) := by decide +kernel
theorem dX10_init_206 : decode cX10_init 206 = .ok (.aload_n 0, 1) := by decide +kernel
theorem dX10_init_207 : decode cX10_init 207 = .ok (.bipush 8, 2) := by decide +kernel
theorem dX10_init_209 : decode cX10_init 209 = .ok (.newarray .int, 2) := by decide +kernel
theorem dX10_init_211 : decode cX10_init 211 = .ok (.putfield 53, 3) := by decide +kernel
theorem dX10_init_214 : decode cX10_init 214 = .ok (.aload_n 0, 1) := by decide +kernel
theorem dX10_init_215 : decode cX10_init 215 = .ok (.sipush 160, 3) := by decide +kernel
theorem dX10_init_218 : decode cX10_init 218 = .ok (.newarray .int, 2) := by decide +kernel
theorem dX10_init_220 : decode cX10_init 220 = .ok (.putfield 56, 3) := by decide +kernel
theorem dX10_init_223 : decode cX10_init 223 = .ok (.aload_n 0, 1) := by decide +kernel
theorem dX10_init_224 : decode cX10_init 224 = .ok (.sipush 1200, 3) := by decide +kernel
theorem dX10_init_227 : decode cX10_init 227 = .ok (.newarray .int, 2) := by decide +kernel
theorem dX10_init_229 : decode cX10_init 229 = .ok (.putfield 59, 3) := by decide +kernel
theorem dX10_init_232 : decode cX10_init 232 = .ok (.aload_n 0, 1) := by decide +kernel
theorem dX10_init_233 : decode cX10_init 233 = .ok (.bipush 24, 2) := by decide +kernel
theorem dX10_init_235 : decode cX10_init 235 = .ok (.newarray .int, 2) := by decide +kernel
theorem dX10_init_237 : decode cX10_init 237 = .ok (.putfield 62, 3) := by decide +kernel
theorem dX10_init_240 : decode cX10_init 240 = .ok (.aload_n 0, 1) := by decide +kernel
theorem dX10_init_241 : decode cX10_init 241 = .ok (.iconst 1, 1) := by decide +kernel
theorem dX10_init_242 : decode cX10_init 242 = .ok (.putfield 65, 3) := by decide +kernel
theorem dX10_init_245 : decode cX10_init 245 = .ok (.aload_n 0, 1) := by decide +kernel
theorem dX10_init_246 : decode cX10_init 246 = .ok (.bipush 41, 2) := by decide +kernel
theorem dX10_init_248 : decode cX10_init 248 = .ok (.newarray .int, 2) := by decide +kernel
theorem dX10_init_250 : decode cX10_init 250 = .ok (.putfield 68, 3) := by decide +kernel
theorem dX10_init_253 : decode cX10_init 253 = .ok (.aload_n 0, 1) := by decide +kernel
theorem dX10_init_254 : decode cX10_init 254 = .ok (.bipush 18, 2) := by decide +kernel
theorem dX10_init_256 : decode cX10_init 256 = .ok (.newarray .int, 2) := by decide +kernel
theorem dX10_init_258 : decode cX10_init 258 = .ok (.putfield 71, 3) := by decide +kernel
theorem dX10_init_261 : decode cX10_init 261 = .ok (.aload_n 0, 1) := by decide +kernel
theorem dX10_init_262 : decode cX10_init 262 = .ok (.bipush 8, 2) := by decide +kernel
theorem dX10_init_264 : decode cX10_init 264 = .ok (.newarray .int, 2) := by decide +kernel
theorem dX10_init_266 : decode cX10_init 266 = .ok (.putfield 74, 3) := by decide +kernel
theorem dX10_init_269 : decode cX10_init 269 = .ok (.aload_n 0, 1) := by decide +kernel
theorem dX10_init_270 : decode cX10_init 270 = .ok (.bipush 8, 2) := by decide +kernel
theorem dX10_init_272 : decode cX10_init 272 = .ok (.newarray .int, 2) := by decide +kernel
theorem dX10_init_274 : decode cX10_init 274 = .ok (.putfield 77, 3) := by decide +kernel
theorem dX10_init_277 : decode cX10_init 277 = .ok (.aload_n 0, 1) := by decide +kernel
theorem dX10_init_278 : decode cX10_init 278 = .ok (.bipush 8, 2) := by decide +kernel
theorem dX10_init_280 : decode cX10_init 280 = .ok (.newarray .int, 2) := by decide +kernel
theorem dX10_init_282 : decode cX10_init 282 = .ok (.putfield 80, 3) := by decide +kernel
theorem dX10_init_285 : decode cX10_init 285 = .ok (.aload_n 0, 1) := by decide +kernel
theorem dX10_init_286 : decode cX10_init 286 = .ok (.iconst 4, 1) := by decide +kernel
theorem dX10_init_287 : decode cX10_init 287 = .ok (.newarray .int, 2) := by decide +kernel
theorem dX10_init_289 : decode cX10_init 289 = .ok (.dup, 1) := by decide +kernel
theorem dX10_init_290 : decode cX10_init 290 = .ok (.iconst 0, 1) := by decide +kernel
theorem dX10_init_291 : decode cX10_init 291 = .ok (.iconst (-1), 1) := by decide +kernel
theorem dX10_init_292 : decode cX10_init 292 = .ok (.iastore, 1) := by decide +kernel
theorem dX10_init_293 : decode cX10_init 293 = .ok (.dup, 1) := by decide +kernel
theorem dX10_init_294 : decode cX10_init 294 = .ok (.iconst 1, 1) := by decide +kernel
theorem dX10_init_295 : decode cX10_init 295 = .ok (.iconst (-1), 1) := by decide +kernel
theorem dX10_init_296 : decode cX10_init 296 = .ok (.iastore, 1) := by decide +kernel
theorem dX10_init_297 : decode cX10_init 297 = .ok (.dup, 1) := by decide +kernel
theorem dX10_init_298 : decode cX10_init 298 = .ok (.iconst 2, 1) := by decide +kernel
theorem dX10_init_299 : decode cX10_init 299 = .ok (.iconst (-1), 1) := by decide +kernel
theorem dX10_init_300 : decode cX10_init 300 = .ok (.iastore, 1) := by decide +kernel
theorem dX10_init_301 : decode cX10_init 301 = .ok (.dup, 1) := by decide +kernel
theorem dX10_init_302 : decode cX10_init 302 = .ok (.iconst 3, 1) := by decide +kernel
theorem dX10_init_303 : decode cX10_init 303 = .ok (.iconst (-1), 1) := by decide +kernel
theorem dX10_init_304 : decode cX10_init 304 = .ok (.iastore, 1) := by decide +kernel
theorem dX10_init_305 : decode cX10_init 305 = .ok (.putfield 83, 3) := by decide +kernel
theorem dX10_init_308 : decode cX10_init 308 = .ok (.aload_n 0, 1) := by decide +kernel
theorem dX10_init_309 : decode cX10_init 309 = .ok (.iconst 4, 1) := by decide +kernel
theorem dX10_init_310 : decode cX10_init 310 = .ok (.newarray .int, 2) := by decide +kernel
theorem dX10_init_312 : decode cX10_init 312 = .ok (.putfield 86, 3) := by decide +kernel
theorem dX10_init_315 : decode cX10_init 315 = .ok (.aload_n 0, 1) := by decide +kernel
theorem dX10_init_316 : decode cX10_init 316 = .ok (.sipush 164, 3) := by decide +kernel
theorem dX10_init_319 : decode cX10_init 319 = .ok (.newarray .int, 2) := by decide +kernel
theorem dX10_init_321 : decode cX10_init 321 = .ok (.putfield 89, 3) := by decide +kernel
theorem dX10_init_324 : decode cX10_init 324 = .ok (.aload_n 0, 1) := by decide +kernel
theorem dX10_init_325 : decode cX10_init 325 = .ok (.bipush 8, 2) := by decide +kernel
theorem dX10_init_327 : decode cX10_init 327 = .ok (.newarray .int, 2) := by decide +kernel
theorem dX10_init_329 : decode cX10_init 329 = .ok (.putfield 92, 3) := by decide +kernel
theorem dX10_init_332 : decode cX10_init 332 = .ok (.aload_n 0, 1) := by decide +kernel
theorem dX10_init_333 : decode cX10_init 333 = .ok (.bipush 12, 2) := by decide +kernel
theorem dX10_init_335 : decode cX10_init 335 = .ok (.newarray .long, 2) := by decide +kernel
theorem dX10_init_337 : decode cX10_init 337 = .ok (.dup, 1) := by decide +kernel
theorem dX10_init_338 : decode cX10_init 338 = .ok (.iconst 0, 1) := by decide +kernel
theorem dX10_init_339 : decode cX10_init 339 = .ok (.ldc2_w 95, 3) := by decide +kernel
theorem dX10_init_342 : decode cX10_init 342 = .ok (.lastore, 1) := by decide +kernel
theorem dX10_init_343 : decode cX10_init 343 = .ok (.dup, 1) := by decide +kernel
theorem dX10_init_344 : decode cX10_init 344 = .ok (.iconst 1, 1) := by decide +kernel
theorem dX10_init_345 : decode cX10_init 345 = .ok (.ldc2_w 97, 3) := by decide +kernel
theorem dX10_init_348 : decode cX10_init 348 = .ok (.lastore, 1) := by decide +kernel
theorem dX10_init_349 : decode cX10_init 349 = .ok (.dup, 1) := by decide +kernel
theorem dX10_init_350 : decode cX10_init 350 = .ok (.iconst 2, 1) := by decide +kernel
theorem dX10_init_351 : decode cX10_init 351 = .ok (.ldc2_w 99, 3) := by decide +kernel
theorem dX10_init_354 : decode cX10_init 354 = .ok (.lastore, 1) := by decide +kernel
theorem dX10_init_355 : decode cX10_init 355 = .ok (.dup, 1) := by decide +kernel
theorem dX10_init_356 : decode cX10_init 356 = .ok (.iconst 3, 1) := by decide +kernel
theorem dX10_init_357 : decode cX10_init 357 = .ok (.ldc2_w 101, 3) := by decide +kernel
theorem dX10_init_360 : decode cX10_init 360 = .ok (.lastore, 1) := by decide +kernel
theorem dX10_init_361 : decode cX10_init 361 = .ok (.dup, 1) := by decide +kernel
theorem dX10_init_362 : decode cX10_init 362 = .ok (.iconst 4, 1) := by decide +kernel
theorem dX10_init_363 : decode cX10_init 363 = .ok (.ldc2_w 103, 3) := by decide +kernel
theorem dX10_init_366 : decode cX10_init 366 = .ok (.lastore, 1) := by decide +kernel
theorem dX10_init_367 : decode cX10_init 367 = .ok (.dup, 1) := by decide +kernel
theorem dX10_init_368 : decode cX10_init 368 = .ok (.iconst 5, 1) := by decide +kernel
theorem dX10_init_369 : decode cX10_init 369 = .ok (.ldc2_w 105, 3) := by decide +kernel
theorem dX10_init_372 : decode cX10_init 372 = .ok (.lastore, 1) := by decide +kernel
theorem dX10_init_373 : decode cX10_init 373 = .ok (.dup, 1) := by decide +kernel
theorem dX10_init_374 : decode cX10_init 374 = .ok (.bipush 6, 2) := by decide +kernel
theorem dX10_init_376 : decode cX10_init 376 = .ok (.ldc2_w 107, 3) := by decide +kernel
theorem dX10_init_379 : decode cX10_init 379 = .ok (.lastore, 1) := by decide +kernel
theorem dX10_init_380 : decode cX10_init 380 = .ok (.dup, 1) := by decide +kernel
theorem dX10_init_381 : decode cX10_init 381 = .ok (.bipush 7, 2) := by decide +kernel
theorem dX10_init_383 : decode cX10_init 383 = .ok (.ldc2_w 109, 3) := by decide +kernel
theorem dX10_init_386 : decode cX10_init 386 = .ok (.lastore, 1) := by decide +kernel
theorem dX10_init_387 : decode cX10_init 387 = .ok (.dup, 1) := by decide +kernel
theorem dX10_init_388 : decode cX10_init 388 = .ok (.bipush 8, 2) := by decide +kernel
theorem dX10_init_390 : decode cX10_init 390 = .ok (.ldc2_w 111, 3) := by decide +kernel
theorem dX10_init_393 : decode cX10_init 393 = .ok (.lastore, 1) := by decide +kernel
theorem dX10_init_394 : decode cX10_init 394 = .ok (.dup, 1) := by decide +kernel
theorem dX10_init_395 : decode cX10_init 395 = .ok (.bipush 9, 2) := by decide +kernel
theorem dX10_init_397 : decode cX10_init 397 = .ok (.ldc2_w 113, 3) := by decide +kernel
theorem dX10_init_400 : decode cX10_init 400 = .ok (.lastore, 1) := by decide +kernel
theorem dX10_init_401 : decode cX10_init 401 = .ok (.dup, 1) := by decide +kernel
theorem dX10_init_402 : decode cX10_init 402 = .ok (.bipush 10, 2) := by decide +kernel
theorem dX10_init_404 : decode cX10_init 404 = .ok (.ldc2_w 115, 3) := by decide +kernel
theorem dX10_init_407 : decode cX10_init 407 = .ok (.lastore, 1) := by decide +kernel
theorem dX10_init_408 : decode cX10_init 408 = .ok (.dup, 1) := by decide +kernel
theorem dX10_init_409 : decode cX10_init 409 = .ok (.bipush 11, 2) := by decide +kernel
theorem dX10_init_411 : decode cX10_init 411 = .ok (.ldc2_w 117, 3) := by decide +kernel
theorem dX10_init_414 : decode cX10_init 414 = .ok (.lastore, 1) := by decide +kernel
theorem dX10_init_415 : decode cX10_init 415 = .ok (.putfield 119, 3) := by decide +kernel
theorem dX10_init_418 : decode cX10_init 418 = .ok (.aload_n 0, 1) := by decide +kernel
theorem dX10_init_419 : decode cX10_init 419 = .ok (.sipush 200, 3) := by decide +kernel
theorem dX10_init_422 : decode cX10_init 422 = .ok (.newarray .int, 2) := by decide +kernel
theorem dX10_init_424 : decode cX10_init 424 = .ok (.putfield 123, 3) := by decide +kernel
theorem dX10_init_427 : decode cX10_init 427 = .ok (.aload_n 0, 1) := by decide +kernel
theorem dX10_init_428 : decode cX10_init 428 = .ok (.sipush 200, 3) := by decide +kernel
theorem dX10_init_431 : decode cX10_init 431 = .ok (.newarray .int, 2) := by decide +kernel
theorem dX10_init_433 : decode cX10_init 433 = .ok (.putfield 126, 3) := by decide +kernel
theorem dX10_init_436 : decode cX10_init 436 = .ok (.aload_n 0, 1) := by decide +kernel
theorem dX10_init_437 : decode cX10_init 437 = .ok (.bipush 6, 2) := by decide +kernel
theorem dX10_init_439 : decode cX10_init 439 = .ok (.newarray .int, 2) := by decide +kernel
theorem dX10_init_441 : decode cX10_init 441 = .ok (.putfield 129, 3) := by decide +kernel
theorem dX10_init_444 : decode cX10_init 444 = .ok (.aload_n 0, 1) := by decide +kernel
theorem dX10_init_445 : decode cX10_init 445 = .ok (.bipush 8, 2) := by decide +kernel
theorem dX10_init_447 : decode cX10_init 447 = .ok (.newarray .int, 2) := by decide +kernel
theorem dX10_init_449 : decode cX10_init 449 = .ok (.putfield 132, 3) := by decide +kernel
theorem dX10_init_452 : decode cX10_init 452 = .ok (.aload_n 0, 1) := by decide +kernel
theorem dX10_init_453 : decode cX10_init 453 = .ok (.bipush 8, 2) := by decide +kernel
theorem dX10_init_455 : decode cX10_init 455 = .ok (.newarray .int, 2) := by decide +kernel
theorem dX10_init_457 : decode cX10_init 457 = .ok (.putfield 135, 3) := by decide +kernel
theorem dX10_init_460 : decode cX10_init 460 = .ok (.aload_n 0, 1) := by decide +kernel
theorem dX10_init_461 : decode cX10_init 461 = .ok (.bipush 8, 2) := by decide +kernel
theorem dX10_init_463 : decode cX10_init 463 = .ok (.newarray .int, 2) := by decide +kernel
theorem dX10_init_465 : decode cX10_init 465 = .ok (.putfield 138, 3) := by decide +kernel
theorem dX10_init_468 : decode cX10_init 468 = .ok (.aload_n 0, 1) := by decide +kernel
theorem dX10_init_469 : decode cX10_init 469 = .ok (.bipush 21, 2) := by decide +kernel
theorem dX10_init_471 : decode cX10_init 471 = .ok (.newarray .int, 2) := by decide +kernel
theorem dX10_init_473 : decode cX10_init 473 = .ok (.putfield 141, 3) := by decide +kernel
theorem dX10_init_476 : decode cX10_init 476 = .ok (.aload_n 0, 1) := by decide +kernel
theorem dX10_init_477 : decode cX10_init 477 = .ok (.bipush 8, 2) := by decide +kernel
theorem dX10_init_479 : decode cX10_init 479 = .ok (.newarray .int, 2) := by decide +kernel
theorem dX10_init_481 : decode cX10_init 481 = .ok (.putfield 144, 3) := by decide +kernel
theorem dX10_init_484 : decode cX10_init 484 = .ok (.aload_n 0, 1) := by decide +kernel
theorem dX10_init_485 : decode cX10_init 485 = .ok (.bipush 8, 2) := by decide +kernel
theorem dX10_init_487 : decode cX10_init 487 = .ok (.newarray .long, 2) := by decide +kernel
theorem dX10_init_489 : decode cX10_init 489 = .ok (.putfield 147, 3) := by decide +kernel
theorem dX10_init_492 : decode cX10_init 492 = .ok (.aload_n 0, 1) := by decide +kernel
theorem dX10_init_493 : decode cX10_init 493 = .ok (.bipush 8, 2) := by decide +kernel
theorem dX10_init_495 : decode cX10_init 495 = .ok (.newarray .int, 2) := by decide +kernel
theorem dX10_init_497 : decode cX10_init 497 = .ok (.putfield 150, 3) := by decide +kernel
theorem dX10_init_500 : decode cX10_init 500 = .ok (.aload_n 0, 1) := by decide +kernel
theorem dX10_init_501 : decode cX10_init 501 = .ok (.bipush 12, 2) := by decide +kernel
theorem dX10_init_503 : decode cX10_init 503 = .ok (.newarray .long, 2) := by decide +kernel
theorem dX10_init_505 : decode cX10_init 505 = .ok (.putfield 153, 3) := by decide +kernel
theorem dX10_init_508 : decode cX10_init 508 = .ok (.aload_n 0, 1) := by decide +kernel
theorem dX10_init_509 : decode cX10_init 509 = .ok (.iconst 0, 1) := by decide +kernel
theorem dX10_init_510 : decode cX10_init 510 = .ok (.ldc 156, 2) := by decide +kernel
theorem dX10_init_512 : decode cX10_init 512 = .ok (.iconst 0, 1) := by decide +kernel
theorem dX10_init_513 : decode cX10_init 513 = .ok (.bipush 14, 2) := by decide +kernel
theorem dX10_init_515 : decode cX10_init 515 = .ok (.iconst 4, 1) := by decide +kernel
theorem dX10_init_516 : decode cX10_init 516 = .ok (.invokevirtual 157, 3) := by decide +kernel
theorem dX10_init_519 : decode cX10_init 519 = .ok (.aload_n 0, 1) := by decide +kernel
theorem dX10_init_520 : decode cX10_init 520 = .ok (.iconst 4, 1) := by decide +kernel
theorem dX10_init_521 : decode cX10_init 521 = .ok (.ldc 161, 2) := by decide +kernel
theorem dX10_init_523 : decode cX10_init 523 = .ok (.bipush 18, 2) := by decide +kernel
theorem dX10_init_525 : decode cX10_init 525 = .ok (.iconst 4, 1) := by decide +kernel
theorem dX10_init_526 : decode cX10_init 526 = .ok (.iconst 0, 1) := by decide +kernel
theorem dX10_init_527 : decode cX10_init 527 = .ok (.invokevirtual 157, 3) := by decide +kernel
theorem dX10_init_530 : decode cX10_init 530 = .ok (.aload_n 0, 1) := by decide +kernel
theorem dX10_init_531 : decode cX10_init 531 = .ok (.getfield 62, 3) := by decide +kernel
theorem dX10_init_534 : decode cX10_init 534 = .ok (.iconst 1, 1) := by decide +kernel
theorem dX10_init_535 : decode cX10_init 535 = .ok (.iconst 3, 1) := by decide +kernel
theorem dX10_init_536 : decode cX10_init 536 = .ok (.iastore, 1) := by decide +kernel
theorem dX10_init_537 : decode cX10_init 537 = .ok (.aload_n 0, 1) := by decide +kernel
theorem dX10_init_538 : decode cX10_init 538 = .ok (.getfield 62, 3) := by decide +kernel
theorem dX10_init_541 : decode cX10_init 541 = .ok (.iconst 2, 1) := by decide +kernel
theorem dX10_init_542 : decode cX10_init 542 = .ok (.bipush 6, 2) := by decide +kernel
theorem dX10_init_544 : decode cX10_init 544 = .ok (.iastore, 1) := by decide +kernel
theorem dX10_init_545 : decode cX10_init 545 = .ok (.aload_n 0, 1) := by decide +kernel
theorem dX10_init_546 : decode cX10_init 546 = .ok (.getfield 62, 3) := by decide +kernel
theorem dX10_init_549 : decode cX10_init 549 = .ok (.iconst 3, 1) := by decide +kernel
theorem dX10_init_550 : decode cX10_init 550 = .ok (.bipush 7, 2) := by decide +kernel
theorem dX10_init_552 : decode cX10_init 552 = .ok (.iastore, 1) := by decide +kernel
theorem dX10_init_553 : decode cX10_init 553 = .ok (.return_, 1) := by decide +kernel
theorem dX10_first_0 : decode cX10_first 0 = .ok (.aload_n 0, 1) := by decide +kernel
theorem dX10_first_1 : decode cX10_first 1 = .ok (.getfield 59, 3) := by decide +kernel
theorem dX10_first_4 : decode cX10_first 4 = .ok (.iload_n 1, 1) := by decide +kernel
theorem dX10_first_5 : decode cX10_first 5 = .ok (.iload_n 2, 1) := by decide +kernel
theorem dX10_first_6 : decode cX10_first 6 = .ok (.iastore, 1) := by decide +kernel
theorem dX10_first_7 : decode cX10_first 7 = .ok (.aload_n 0, 1) := by decide +kernel
theorem dX10_first_8 : decode cX10_first 8 = .ok (.getfield 59, 3) := by decide +kernel
theorem dX10_first_11 : decode cX10_first 11 = .ok (.iload_n 1, 1) := by decide +kernel
theorem dX10_first_12 : decode cX10_first 12 = .ok (.iconst 1, 1) := by decide +kernel
theorem dX10_first_13 : decode cX10_first 13 = .ok (.iadd, 1) := by decide +kernel
theorem dX10_first_14 : decode cX10_first 14 = .ok (.iload_n 3, 1) := by decide +kernel
theorem dX10_first_15 : decode cX10_first 15 = .ok (.iastore, 1) := by decide +kernel
theorem dX10_first_16 : decode cX10_first 16 = .ok (.aload_n 0, 1) := by decide +kernel
theorem dX10_first_17 : decode cX10_first 17 = .ok (.getfield 59, 3) := by decide +kernel
theorem dX10_first_20 : decode cX10_first 20 = .ok (.iload_n 1, 1) := by decide +kernel
theorem dX10_first_21 : decode cX10_first 21 = .ok (.iconst 2, 1) := by decide +kernel
theorem dX10_first_22 : decode cX10_first 22 = .ok (.iadd, 1) := by decide +kernel
theorem dX10_first_23 : decode cX10_first 23 = .ok (.iload 4, 2) := by decide +kernel
theorem dX10_first_25 : decode cX10_first 25 = .ok (.iastore, 1) := by decide +kernel
theorem dX10_first_26 : decode cX10_first 26 = .ok (.aload_n 0, 1) := by decide +kernel
theorem dX10_first_27 : decode cX10_first 27 = .ok (.getfield 59, 3) := by decide +kernel
theorem dX10_first_30 : decode cX10_first 30 = .ok (.iload_n 1, 1) := by decide +kernel
theorem dX10_first_31 : decode cX10_first 31 = .ok (.iconst 3, 1) := by decide +kernel
theorem dX10_first_32 : decode cX10_first 32 = .ok (.iadd, 1) := by decide +kernel
theorem dX10_first_33 : decode cX10_first 33 = .ok (.iload 5, 2) := by decide +kernel
theorem dX10_first_35 : decode cX10_first 35 = .ok (.iastore, 1) := by decide +kernel
theorem dX10_first_36 : decode cX10_first 36 = .ok (.return_, 1) := by decide +kernel
theorem dX10_in_0 : decode cX10_in 0 = .ok (.iload_n 0, 1) := by decide +kernel
theorem dX10_in_1 : decode cX10_in 1 = .ok (.iload_n 1, 1) := by decide +kernel
theorem dX10_in_2 : decode cX10_in 2 = .ok (.if_icmp .lt 12, 3) := by decide +kernel
theorem dX10_in_5 : decode cX10_in 5 = .ok (.iload_n 0, 1) := by decide +kernel
theorem dX10_in_6 : decode cX10_in 6 = .ok (.iload_n 2, 1) := by decide +kernel
theorem dX10_in_7 : decode cX10_in 7 = .ok (.if_icmp .gt 7, 3) := by decide +kernel
theorem dX10_in_10 : decode cX10_in 10 = .ok (.iconst 1, 1) := by decide +kernel
theorem dX10_in_11 : decode cX10_in 11 = .ok (.goto 4, 3) := by decide +kernel
theorem dX10_in_14 : decode cX10_in 14 = .ok (.iconst 0, 1) := by decide +kernel
theorem dX10_in_15 : decode cX10_in 15 = .ok (.ireturn, 1) := by decide +kernel
theorem dX10_isCell_0 : decode cX10_isCell 0 = .ok (.iload_n 0, 1) := by decide +kernel
theorem dX10_isCell_1 : decode cX10_isCell 1 = .ok (.iconst 0, 1) := by decide +kernel
theorem dX10_isCell_2 : decode cX10_isCell 2 = .ok (.bipush 40, 2) := by decide +kernel
theorem dX10_isCell_4 : decode cX10_isCell 4 = .ok (.invokestatic 162, 3) := by decide +kernel
theorem dX10_isCell_7 : decode cX10_isCell 7 = .ok (.ireturn, 1) := by decide +kernel
theorem dX10_isStop_0 : decode cX10_isStop 0 = .ok (.iload_n 1, 1) := by decide +kernel
theorem dX10_isStop_1 : decode cX10_isStop 1 = .ok (.iconst 0, 1) := by decide +kernel
theorem dX10_isStop_2 : decode cX10_isStop 2 = .ok (.aload_n 0, 1) := by decide +kernel
theorem dX10_isStop_3 : decode cX10_isStop 3 = .ok (.getfield 166, 3) := by decide +kernel
theorem dX10_isStop_6 : decode cX10_isStop 6 = .ok (.iconst 1, 1) := by decide +kernel
theorem dX10_isStop_7 : decode cX10_isStop 7 = .ok (.isub, 1) := by decide +kernel
theorem dX10_isStop_8 : decode cX10_isStop 8 = .ok (.invokestatic 162, 3) := by decide +kernel
theorem dX10_isStop_11 : decode cX10_isStop 11 = .ok (.ireturn, 1) := by decide +kernel
theorem dX10_isTrip_0 : decode cX10_isTrip 0 = .ok (.iload_n 1, 1) := by decide +kernel
theorem dX10_isTrip_1 : decode cX10_isTrip 1 = .ok (.iconst 0, 1) := by decide +kernel
theorem dX10_isTrip_2 : decode cX10_isTrip 2 = .ok (.aload_n 0, 1) := by decide +kernel
theorem dX10_isTrip_3 : decode cX10_isTrip 3 = .ok (.getfield 169, 3) := by decide +kernel
theorem dX10_isTrip_6 : decode cX10_isTrip 6 = .ok (.iconst 1, 1) := by decide +kernel
theorem dX10_isTrip_7 : decode cX10_isTrip 7 = .ok (.isub, 1) := by decide +kernel
theorem dX10_isTrip_8 : decode cX10_isTrip 8 = .ok (.invokestatic 162, 3) := by decide +kernel
theorem dX10_isTrip_11 : decode cX10_isTrip 11 = .ok (.ireturn, 1) := by decide +kernel
theorem dX10_road_0 : decode cX10_road 0 = .ok (.iload_n 1, 1) := by decide +kernel
theorem dX10_road_1 : decode cX10_road 1 = .ok (.invokestatic 172, 3) := by decide +kernel
theorem dX10_road_4 : decode cX10_road 4 = .ok (.ifCond .ne 5, 3) := by decide +kernel
theorem dX10_road_7 : decode cX10_road 7 = .ok (.iconst (-1), 1) := by decide +kernel
theorem dX10_road_8 : decode cX10_road 8 = .ok (.ireturn, 1) := by decide +kernel
theorem dX10_road_9 : decode cX10_road 9 = .ok (.iload_n 2, 1) := by decide +kernel
theorem dX10_road_10 : decode cX10_road 10 = .ok (.iconst 0, 1) := by decide +kernel
theorem dX10_road_11 : decode cX10_road 11 = .ok (.bipush 9, 2) := by decide +kernel
theorem dX10_road_13 : decode cX10_road 13 = .ok (.invokestatic 162, 3) := by decide +kernel
theorem dX10_road_16 : decode cX10_road 16 = .ok (.ifCond .ne 6, 3) := by decide +kernel
theorem dX10_road_19 : decode cX10_road 19 = .ok (.bipush (-2), 2) := by decide +kernel
theorem dX10_road_21 : decode cX10_road 21 = .ok (.ireturn, 1) := by decide +kernel
theorem dX10_road_22 : decode cX10_road 22 = .ok (.aload_n 0, 1) := by decide +kernel
theorem dX10_road_23 : decode cX10_road 23 = .ok (.getfield 7, 3) := by decide +kernel
theorem dX10_road_26 : decode cX10_road 26 = .ok (.iload_n 1, 1) := by decide +kernel
theorem dX10_road_27 : decode cX10_road 27 = .ok (.iaload, 1) := by decide +kernel
theorem dX10_road_28 : decode cX10_road 28 = .ok (.istore_n 3, 1) := by decide +kernel
theorem dX10_road_29 : decode cX10_road 29 = .ok (.aload_n 0, 1) := by decide +kernel
theorem dX10_road_30 : decode cX10_road 30 = .ok (.getfield 7, 3) := by decide +kernel
theorem dX10_road_33 : decode cX10_road 33 = .ok (.iload_n 1, 1) := by decide +kernel
theorem dX10_road_34 : decode cX10_road 34 = .ok (.iload_n 2, 1) := by decide +kernel
theorem dX10_road_35 : decode cX10_road 35 = .ok (.iastore, 1) := by decide +kernel
theorem dX10_road_36 : decode cX10_road 36 = .ok (.iload_n 3, 1) := by decide +kernel
theorem dX10_road_37 : decode cX10_road 37 = .ok (.ireturn, 1) := by decide +kernel
theorem dX10_sort_0 : decode cX10_sort 0 = .ok (.iload_n 1, 1) := by decide +kernel
theorem dX10_sort_1 : decode cX10_sort 1 = .ok (.iconst 0, 1) := by decide +kernel
theorem dX10_sort_2 : decode cX10_sort 2 = .ok (.iconst 2, 1) := by decide +kernel
theorem dX10_sort_3 : decode cX10_sort 3 = .ok (.invokestatic 162, 3) := by decide +kernel
theorem dX10_sort_6 : decode cX10_sort 6 = .ok (.ifCond .ne 5, 3) := by decide +kernel
theorem dX10_sort_9 : decode cX10_sort 9 = .ok (.iconst (-1), 1) := by decide +kernel
theorem dX10_sort_10 : decode cX10_sort 10 = .ok (.ireturn, 1) := by decide +kernel
theorem dX10_sort_11 : decode cX10_sort 11 = .ok (.iload_n 2, 1) := by decide +kernel
theorem dX10_sort_12 : decode cX10_sort 12 = .ok (.ifCond .ne 13, 3) := by decide +kernel
theorem dX10_sort_15 : decode cX10_sort 15 = .ok (.iload_n 3, 1) := by decide +kernel
theorem dX10_sort_16 : decode cX10_sort 16 = .ok (.iconst 1, 1) := by decide +kernel
theorem dX10_sort_17 : decode cX10_sort 17 = .ok (.bipush 60, 2) := by decide +kernel
theorem dX10_sort_19 : decode cX10_sort 19 = .ok (.invokestatic 162, 3) := by decide +kernel
theorem dX10_sort_22 : decode cX10_sort 22 = .ok (.goto 58, 3) := by decide +kernel
theorem dX10_sort_25 : decode cX10_sort 25 = .ok (.iload_n 2, 1) := by decide +kernel
theorem dX10_sort_26 : decode cX10_sort 26 = .ok (.iconst 1, 1) := by decide +kernel
theorem dX10_sort_27 : decode cX10_sort 27 = .ok (.if_icmp .ne 13, 3) := by decide +kernel
theorem dX10_sort_30 : decode cX10_sort 30 = .ok (.iload_n 3, 1) := by decide +kernel
theorem dX10_sort_31 : decode cX10_sort 31 = .ok (.iconst 0, 1) := by decide +kernel
theorem dX10_sort_32 : decode cX10_sort 32 = .ok (.bipush 60, 2) := by decide +kernel
theorem dX10_sort_34 : decode cX10_sort 34 = .ok (.invokestatic 162, 3) := by decide +kernel
theorem dX10_sort_37 : decode cX10_sort 37 = .ok (.goto 43, 3) := by decide +kernel
theorem dX10_sort_40 : decode cX10_sort 40 = .ok (.iload_n 2, 1) := by decide +kernel
theorem dX10_sort_41 : decode cX10_sort 41 = .ok (.iconst 2, 1) := by decide +kernel
theorem dX10_sort_42 : decode cX10_sort 42 = .ok (.iconst 4, 1) := by decide +kernel
theorem dX10_sort_43 : decode cX10_sort 43 = .ok (.invokestatic 162, 3) := by decide +kernel
theorem dX10_sort_46 : decode cX10_sort 46 = .ok (.ifCond .eq 13, 3) := by decide +kernel
theorem dX10_sort_49 : decode cX10_sort 49 = .ok (.iload_n 3, 1) := by decide +kernel
theorem dX10_sort_50 : decode cX10_sort 50 = .ok (.iconst 0, 1) := by decide +kernel
theorem dX10_sort_51 : decode cX10_sort 51 = .ok (.bipush 9, 2) := by decide +kernel
theorem dX10_sort_53 : decode cX10_sort 53 = .ok (.invokestatic 162, 3) := by decide +kernel
theorem dX10_sort_56 : decode cX10_sort 56 = .ok (.goto 24, 3) := by decide +kernel
theorem dX10_sort_59 : decode cX10_sort 59 = .ok (.iload_n 2, 1) := by decide +kernel
theorem dX10_sort_60 : decode cX10_sort 60 = .ok (.iconst 5, 1) := by decide +kernel
theorem dX10_sort_61 : decode cX10_sort 61 = .ok (.if_icmp .ne 18, 3) := by decide +kernel
theorem dX10_sort_64 : decode cX10_sort 64 = .ok (.iload_n 3, 1) := by decide +kernel
theorem dX10_sort_65 : decode cX10_sort 65 = .ok (.iconst 0, 1) := by decide +kernel
theorem dX10_sort_66 : decode cX10_sort 66 = .ok (.sipush 9999, 3) := by decide +kernel
theorem dX10_sort_69 : decode cX10_sort 69 = .ok (.invokestatic 162, 3) := by decide +kernel
theorem dX10_sort_72 : decode cX10_sort 72 = .ok (.ifCond .eq 7, 3) := by decide +kernel
theorem dX10_sort_75 : decode cX10_sort 75 = .ok (.iconst 1, 1) := by decide +kernel
theorem dX10_sort_76 : decode cX10_sort 76 = .ok (.goto 4, 3) := by decide +kernel
theorem dX10_sort_79 : decode cX10_sort 79 = .ok (.iconst 0, 1) := by decide +kernel
theorem dX10_sort_80 : decode cX10_sort 80 = .ok (.istore 4, 2) := by decide +kernel
theorem dX10_sort_82 : decode cX10_sort 82 = .ok (.iload 4, 2) := by decide +kernel
theorem dX10_sort_84 : decode cX10_sort 84 = .ok (.ifCond .ne 6, 3) := by decide +kernel
theorem dX10_sort_87 : decode cX10_sort 87 = .ok (.bipush (-2), 2) := by decide +kernel
theorem dX10_sort_89 : decode cX10_sort 89 = .ok (.ireturn, 1) := by decide +kernel
theorem dX10_sort_90 : decode cX10_sort 90 = .ok (.aload_n 0, 1) := by decide +kernel
theorem dX10_sort_91 : decode cX10_sort 91 = .ok (.getfield 13, 3) := by decide +kernel
theorem dX10_sort_94 : decode cX10_sort 94 = .ok (.bipush 6, 2) := by decide +kernel
theorem dX10_sort_96 : decode cX10_sort 96 = .ok (.iload_n 1, 1) := by decide +kernel
theorem dX10_sort_97 : decode cX10_sort 97 = .ok (.imul, 1) := by decide +kernel
theorem dX10_sort_98 : decode cX10_sort 98 = .ok (.iload_n 2, 1) := by decide +kernel
theorem dX10_sort_99 : decode cX10_sort 99 = .ok (.iadd, 1) := by decide +kernel
theorem dX10_sort_100 : decode cX10_sort 100 = .ok (.iaload, 1) := by decide +kernel
theorem dX10_sort_101 : decode cX10_sort 101 = .ok (.istore 5, 2) := by decide +kernel
theorem dX10_sort_103 : decode cX10_sort 103 = .ok (.aload_n 0, 1) := by decide +kernel
theorem dX10_sort_104 : decode cX10_sort 104 = .ok (.getfield 13, 3) := by decide +kernel
theorem dX10_sort_107 : decode cX10_sort 107 = .ok (.bipush 6, 2) := by decide +kernel
theorem dX10_sort_109 : decode cX10_sort 109 = .ok (.iload_n 1, 1) := by decide +kernel
theorem dX10_sort_110 : decode cX10_sort 110 = .ok (.imul, 1) := by decide +kernel
theorem dX10_sort_111 : decode cX10_sort 111 = .ok (.iload_n 2, 1) := by decide +kernel
theorem dX10_sort_112 : decode cX10_sort 112 = .ok (.iadd, 1) := by decide +kernel
theorem dX10_sort_113 : decode cX10_sort 113 = .ok (.iload_n 3, 1) := by decide +kernel
theorem dX10_sort_114 : decode cX10_sort 114 = .ok (.iastore, 1) := by decide +kernel
theorem dX10_sort_115 : decode cX10_sort 115 = .ok (.iload 5, 2) := by decide +kernel
theorem dX10_sort_117 : decode cX10_sort 117 = .ok (.ireturn, 1) := by decide +kernel
theorem dX10_car_0 : decode cX10_car 0 = .ok (.iload_n 1, 1) := by decide +kernel
theorem dX10_car_1 : decode cX10_car 1 = .ok (.iconst 0, 1) := by decide +kernel
theorem dX10_car_2 : decode cX10_car 2 = .ok (.iconst 1, 1) := by decide +kernel
theorem dX10_car_3 : decode cX10_car 3 = .ok (.invokestatic 162, 3) := by decide +kernel
theorem dX10_car_6 : decode cX10_car 6 = .ok (.ifCond .eq 23, 3) := by decide +kernel
theorem dX10_car_9 : decode cX10_car 9 = .ok (.iload_n 2, 1) := by decide +kernel
theorem dX10_car_10 : decode cX10_car 10 = .ok (.iconst 1, 1) := by decide +kernel
theorem dX10_car_11 : decode cX10_car 11 = .ok (.iload_n 1, 1) := by decide +kernel
theorem dX10_car_12 : decode cX10_car 12 = .ok (.ifCond .ne 9, 3) := by decide +kernel
theorem dX10_car_15 : decode cX10_car 15 = .ok (.sipush 3600, 3) := by decide +kernel
theorem dX10_car_18 : decode cX10_car 18 = .ok (.goto 5, 3) := by decide +kernel
theorem dX10_car_21 : decode cX10_car 21 = .ok (.bipush 60, 2) := by decide +kernel
theorem dX10_car_23 : decode cX10_car 23 = .ok (.invokestatic 162, 3) := by decide +kernel
theorem dX10_car_26 : decode cX10_car 26 = .ok (.ifCond .ne 6, 3) := by decide +kernel
theorem dX10_car_29 : decode cX10_car 29 = .ok (.bipush (-2), 2) := by decide +kernel
theorem dX10_car_31 : decode cX10_car 31 = .ok (.ireturn, 1) := by decide +kernel
theorem dX10_car_32 : decode cX10_car 32 = .ok (.iload_n 1, 1) := by decide +kernel
theorem dX10_car_33 : decode cX10_car 33 = .ok (.ifCond .ne 10, 3) := by decide +kernel
theorem dX10_car_36 : decode cX10_car 36 = .ok (.aload_n 0, 1) := by decide +kernel
theorem dX10_car_37 : decode cX10_car 37 = .ok (.getfield 16, 3) := by decide +kernel
theorem dX10_car_40 : decode cX10_car 40 = .ok (.goto 7, 3) := by decide +kernel
theorem dX10_car_43 : decode cX10_car 43 = .ok (.aload_n 0, 1) := by decide +kernel
theorem dX10_car_44 : decode cX10_car 44 = .ok (.getfield 20, 3) := by decide +kernel
theorem dX10_car_47 : decode cX10_car 47 = .ok (.istore_n 3, 1) := by decide +kernel
theorem dX10_car_48 : decode cX10_car 48 = .ok (.aload_n 0, 1) := by decide +kernel
theorem dX10_car_49 : decode cX10_car 49 = .ok (.iload_n 1, 1) := by decide +kernel
theorem dX10_car_50 : decode cX10_car 50 = .ok (.ifCond .ne 7, 3) := by decide +kernel
theorem dX10_car_53 : decode cX10_car 53 = .ok (.iload_n 2, 1) := by decide +kernel
theorem dX10_car_54 : decode cX10_car 54 = .ok (.goto 7, 3) := by decide +kernel
theorem dX10_car_57 : decode cX10_car 57 = .ok (.aload_n 0, 1) := by decide +kernel
theorem dX10_car_58 : decode cX10_car 58 = .ok (.getfield 16, 3) := by decide +kernel
theorem dX10_car_61 : decode cX10_car 61 = .ok (.putfield 16, 3) := by decide +kernel
theorem dX10_car_64 : decode cX10_car 64 = .ok (.aload_n 0, 1) := by decide +kernel
theorem dX10_car_65 : decode cX10_car 65 = .ok (.iload_n 1, 1) := by decide +kernel
theorem dX10_car_66 : decode cX10_car 66 = .ok (.iconst 1, 1) := by decide +kernel
theorem dX10_car_67 : decode cX10_car 67 = .ok (.if_icmp .ne 7, 3) := by decide +kernel
theorem dX10_car_70 : decode cX10_car 70 = .ok (.iload_n 2, 1) := by decide +kernel
theorem dX10_car_71 : decode cX10_car 71 = .ok (.goto 7, 3) := by decide +kernel
theorem dX10_car_74 : decode cX10_car 74 = .ok (.aload_n 0, 1) := by decide +kernel
theorem dX10_car_75 : decode cX10_car 75 = .ok (.getfield 20, 3) := by decide +kernel
theorem dX10_car_78 : decode cX10_car 78 = .ok (.putfield 20, 3) := by decide +kernel
theorem dX10_car_81 : decode cX10_car 81 = .ok (.iload_n 3, 1) := by decide +kernel
theorem dX10_car_82 : decode cX10_car 82 = .ok (.ireturn, 1) := by decide +kernel
theorem dX10_walk_0 : decode cX10_walk 0 = .ok (.iload_n 1, 1) := by decide +kernel
theorem dX10_walk_1 : decode cX10_walk 1 = .ok (.iload_n 2, 1) := by decide +kernel
theorem dX10_walk_2 : decode cX10_walk 2 = .ok (.if_icmp .ge 7, 3) := by decide +kernel
theorem dX10_walk_5 : decode cX10_walk 5 = .ok (.iconst 1, 1) := by decide +kernel
theorem dX10_walk_6 : decode cX10_walk 6 = .ok (.goto 4, 3) := by decide +kernel
theorem dX10_walk_9 : decode cX10_walk 9 = .ok (.iconst (-1), 1) := by decide +kernel
theorem dX10_walk_10 : decode cX10_walk 10 = .ok (.istore 4, 2) := by decide +kernel
theorem dX10_walk_12 : decode cX10_walk 12 = .ok (.iconst 0, 1) := by decide +kernel
theorem dX10_walk_13 : decode cX10_walk 13 = .ok (.istore 5, 2) := by decide +kernel
theorem dX10_walk_15 : decode cX10_walk 15 = .ok (.iload_n 1, 1) := by decide +kernel
theorem dX10_walk_16 : decode cX10_walk 16 = .ok (.istore 6, 2) := by decide +kernel
theorem dX10_walk_18 : decode cX10_walk 18 = .ok (.iload 6, 2) := by decide +kernel
theorem dX10_walk_20 : decode cX10_walk 20 = .ok (.iload_n 2, 1) := by decide +kernel
theorem dX10_walk_21 : decode cX10_walk 21 = .ok (.if_icmp .eq 71, 3) := by decide +kernel
theorem dX10_walk_24 : decode cX10_walk 24 = .ok (.aload_n 0, 1) := by decide +kernel
theorem dX10_walk_25 : decode cX10_walk 25 = .ok (.getfield 7, 3) := by decide +kernel
theorem dX10_walk_28 : decode cX10_walk 28 = .ok (.iload 6, 2) := by decide +kernel
theorem dX10_walk_30 : decode cX10_walk 30 = .ok (.iload 4, 2) := by decide +kernel
theorem dX10_walk_32 : decode cX10_walk 32 = .ok (.iadd, 1) := by decide +kernel
theorem dX10_walk_33 : decode cX10_walk 33 = .ok (.iaload, 1) := by decide +kernel
theorem dX10_walk_34 : decode cX10_walk 34 = .ok (.aload_n 0, 1) := by decide +kernel
theorem dX10_walk_35 : decode cX10_walk 35 = .ok (.getfield 7, 3) := by decide +kernel
theorem dX10_walk_38 : decode cX10_walk 38 = .ok (.iload 6, 2) := by decide +kernel
theorem dX10_walk_40 : decode cX10_walk 40 = .ok (.iaload, 1) := by decide +kernel
theorem dX10_walk_41 : decode cX10_walk 41 = .ok (.isub, 1) := by decide +kernel
theorem dX10_walk_42 : decode cX10_walk 42 = .ok (.istore 7, 2) := by decide +kernel
theorem dX10_walk_44 : decode cX10_walk 44 = .ok (.iload 5, 2) := by decide +kernel
theorem dX10_walk_46 : decode cX10_walk 46 = .ok (.aload_n 0, 1) := by decide +kernel
theorem dX10_walk_47 : decode cX10_walk 47 = .ok (.getfield 13, 3) := by decide +kernel
theorem dX10_walk_50 : decode cX10_walk 50 = .ok (.bipush 6, 2) := by decide +kernel
theorem dX10_walk_52 : decode cX10_walk 52 = .ok (.iload_n 3, 1) := by decide +kernel
theorem dX10_walk_53 : decode cX10_walk 53 = .ok (.imul, 1) := by decide +kernel
theorem dX10_walk_54 : decode cX10_walk 54 = .ok (.iaload, 1) := by decide +kernel
theorem dX10_walk_55 : decode cX10_walk 55 = .ok (.iload 7, 2) := by decide +kernel
theorem dX10_walk_57 : decode cX10_walk 57 = .ok (.ifCond .le 20, 3) := by decide +kernel
theorem dX10_walk_60 : decode cX10_walk 60 = .ok (.iload 7, 2) := by decide +kernel
theorem dX10_walk_62 : decode cX10_walk 62 = .ok (.aload_n 0, 1) := by decide +kernel
theorem dX10_walk_63 : decode cX10_walk 63 = .ok (.getfield 13, 3) := by decide +kernel
theorem dX10_walk_66 : decode cX10_walk 66 = .ok (.bipush 6, 2) := by decide +kernel
theorem dX10_walk_68 : decode cX10_walk 68 = .ok (.iload_n 3, 1) := by decide +kernel
theorem dX10_walk_69 : decode cX10_walk 69 = .ok (.imul, 1) := by decide +kernel
theorem dX10_walk_70 : decode cX10_walk 70 = .ok (.iconst 1, 1) := by decide +kernel
theorem dX10_walk_71 : decode cX10_walk 71 = .ok (.iadd, 1) := by decide +kernel
theorem dX10_walk_72 : decode cX10_walk 72 = .ok (.iaload, 1) := by decide +kernel
theorem dX10_walk_73 : decode cX10_walk 73 = .ok (.imul, 1) := by decide +kernel
theorem dX10_walk_74 : decode cX10_walk 74 = .ok (.goto 4, 3) := by decide +kernel
theorem dX10_walk_77 : decode cX10_walk 77 = .ok (.iconst 0, 1) := by decide +kernel
theorem dX10_walk_78 : decode cX10_walk 78 = .ok (.iadd, 1) := by decide +kernel
theorem dX10_walk_79 : decode cX10_walk 79 = .ok (.iadd, 1) := by decide +kernel
theorem dX10_walk_80 : decode cX10_walk 80 = .ok (.istore 5, 2) := by decide +kernel
theorem dX10_walk_82 : decode cX10_walk 82 = .ok (.iload 6, 2) := by decide +kernel
theorem dX10_walk_84 : decode cX10_walk 84 = .ok (.iload 4, 2) := by decide +kernel
theorem dX10_walk_86 : decode cX10_walk 86 = .ok (.iadd, 1) := by decide +kernel
theorem dX10_walk_87 : decode cX10_walk 87 = .ok (.istore 6, 2) := by decide +kernel
theorem dX10_walk_89 : decode cX10_walk 89 = .ok (.goto (-71), 3) := by decide +kernel
theorem dX10_walk_92 : decode cX10_walk 92 = .ok (.iload 5, 2) := by decide +kernel
theorem dX10_walk_94 : decode cX10_walk 94 = .ok (.ireturn, 1) := by decide +kernel
theorem dX10_walks_0 : decode cX10_walks 0 = .ok (.iload_n 1, 1) := by decide +kernel
theorem dX10_walks_1 : decode cX10_walks 1 = .ok (.invokestatic 172, 3) := by decide +kernel
theorem dX10_walks_4 : decode cX10_walks 4 = .ok (.ifCond .eq 10, 3) := by decide +kernel
theorem dX10_walks_7 : decode cX10_walks 7 = .ok (.iload_n 2, 1) := by decide +kernel
theorem dX10_walks_8 : decode cX10_walks 8 = .ok (.invokestatic 172, 3) := by decide +kernel
theorem dX10_walks_11 : decode cX10_walks 11 = .ok (.ifCond .ne 8, 3) := by decide +kernel
theorem dX10_walks_14 : decode cX10_walks 14 = .ok (.bipush (-5), 2) := by decide +kernel
theorem dX10_walks_16 : decode cX10_walks 16 = .ok (.goto 24, 3) := by decide +kernel
theorem dX10_walks_19 : decode cX10_walks 19 = .ok (.iload_n 3, 1) := by decide +kernel
theorem dX10_walks_20 : decode cX10_walks 20 = .ok (.iconst 0, 1) := by decide +kernel
theorem dX10_walks_21 : decode cX10_walks 21 = .ok (.iconst 2, 1) := by decide +kernel
theorem dX10_walks_22 : decode cX10_walks 22 = .ok (.invokestatic 162, 3) := by decide +kernel
theorem dX10_walks_25 : decode cX10_walks 25 = .ok (.ifCond .eq 13, 3) := by decide +kernel
theorem dX10_walks_28 : decode cX10_walks 28 = .ok (.aload_n 0, 1) := by decide +kernel
theorem dX10_walks_29 : decode cX10_walks 29 = .ok (.iload_n 1, 1) := by decide +kernel
theorem dX10_walks_30 : decode cX10_walks 30 = .ok (.iload_n 2, 1) := by decide +kernel
theorem dX10_walks_31 : decode cX10_walks 31 = .ok (.iload_n 3, 1) := by decide +kernel
theorem dX10_walks_32 : decode cX10_walks 32 = .ok (.invokevirtual 176, 3) := by decide +kernel
theorem dX10_walks_35 : decode cX10_walks 35 = .ok (.goto 5, 3) := by decide +kernel
theorem dX10_walks_38 : decode cX10_walks 38 = .ok (.bipush (-7), 2) := by decide +kernel
theorem dX10_walks_40 : decode cX10_walks 40 = .ok (.ireturn, 1) := by decide +kernel
theorem dX10_stop_0 : decode cX10_stop 0 = .ok (.iload_n 1, 1) := by decide +kernel
theorem dX10_stop_1 : decode cX10_stop 1 = .ok (.iconst 0, 1) := by decide +kernel
theorem dX10_stop_2 : decode cX10_stop 2 = .ok (.iconst 5, 1) := by decide +kernel
theorem dX10_stop_3 : decode cX10_stop 3 = .ok (.invokestatic 162, 3) := by decide +kernel
theorem dX10_stop_6 : decode cX10_stop 6 = .ok (.ifCond .eq 31, 3) := by decide +kernel
theorem dX10_stop_9 : decode cX10_stop 9 = .ok (.iload_n 2, 1) := by decide +kernel
theorem dX10_stop_10 : decode cX10_stop 10 = .ok (.invokestatic 172, 3) := by decide +kernel
theorem dX10_stop_13 : decode cX10_stop 13 = .ok (.ifCond .eq 24, 3) := by decide +kernel
theorem dX10_stop_16 : decode cX10_stop 16 = .ok (.iload_n 3, 1) := by decide +kernel
theorem dX10_stop_17 : decode cX10_stop 17 = .ok (.iconst 0, 1) := by decide +kernel
theorem dX10_stop_18 : decode cX10_stop 18 = .ok (.bipush 99, 2) := by decide +kernel
theorem dX10_stop_20 : decode cX10_stop 20 = .ok (.invokestatic 162, 3) := by decide +kernel
