theorem dX0_init_0 : decode cX0_init 0 = .ok (.aload_n 0, 1) := by decide +kernel
theorem dX0_init_1 : decode cX0_init 1 = .ok (.invokespecial 3, 3) := by decide +kernel
theorem dX0_init_4 : decode cX0_init 4 = .ok (.aload_n 0, 1) := by decide +kernel
theorem dX0_init_5 : decode cX0_init 5 = .ok (.iconst 0, 1) := by decide +kernel
theorem dX0_init_6 : decode cX0_init 6 = .ok (.putfield 9, 3) := by decide +kernel
theorem dX0_init_9 : decode cX0_init 9 = .ok (.aload_n 0, 1) := by decide +kernel
theorem dX0_init_10 : decode cX0_init 10 = .ok (.bipush 41, 2) := by decide +kernel
theorem dX0_init_12 : decode cX0_init 12 = .ok (.newarray .int, 2) := by decide +kernel
theorem dX0_init_14 : decode cX0_init 14 = .ok (.putfield 15, 3) := by decide +kernel
theorem dX0_init_17 : decode cX0_init 17 = .ok (.aload_n 0, 1) := by decide +kernel
theorem dX0_init_18 : decode cX0_init 18 = .ok (.iconst 3, 1) := by decide +kernel
theorem dX0_init_19 : decode cX0_init 19 = .ok (.bipush 6, 2) := by decide +kernel
theorem dX0_init_21 : decode cX0_init 21 = .ok (.multianewarray 19 2, 4) := by decide +kernel
theorem dX0_init_25 : decode cX0_init 25 = .ok (.putfield 21, 3) := by decide +kernel
theorem dX0_init_28 : decode cX0_init 28 = .ok (.aload_n 0, 1) := by decide +kernel
theorem dX0_init_29 : decode cX0_init 29 = .ok (.bipush 8, 2) := by decide +kernel
theorem dX0_init_31 : decode cX0_init 31 = .ok (.newarray .boolean, 2) := by decide +kernel
theorem dX0_init_33 : decode cX0_init 33 = .ok (.putfield 24, 3) := by decide +kernel
theorem dX0_init_36 : decode cX0_init 36 = .ok (.aload_n 0, 1) := by decide +kernel
theorem dX0_init_37 : decode cX0_init 37 = .ok (.bipush 8, 2) := by decide +kernel
theorem dX0_init_39 : decode cX0_init 39 = .ok (.newarray .int, 2) := by decide +kernel
theorem dX0_init_41 : decode cX0_init 41 = .ok (.putfield 28, 3) := by decide +kernel
theorem dX0_init_44 : decode cX0_init 44 = .ok (.aload_n 0, 1) := by decide +kernel
theorem dX0_init_45 : decode cX0_init 45 = .ok (.bipush 8, 2) := by decide +kernel
theorem dX0_init_47 : decode cX0_init 47 = .ok (.newarray .int, 2) := by decide +kernel
theorem dX0_init_49 : decode cX0_init 49 = .ok (.putfield 31, 3) := by decide +kernel
theorem dX0_init_52 : decode cX0_init 52 = .ok (.return_, 1) := by decide +kernel
theorem dX0_keep_0 : decode cX0_keep 0 = .ok (.aload_n 0, 1) := by decide +kernel
theorem dX0_keep_1 : decode cX0_keep 1 = .ok (.iconst 1, 1) := by decide +kernel
theorem dX0_keep_2 : decode cX0_keep 2 = .ok (.putfield 9, 3) := by decide +kernel
theorem dX0_keep_5 : decode cX0_keep 5 = .ok (.aload_n 0, 1) := by decide +kernel
theorem dX0_keep_6 : decode cX0_keep 6 = .ok (.iload_n 2, 1) := by decide +kernel
theorem dX0_keep_7 : decode cX0_keep 7 = .ok (.putfield 34, 3) := by decide +kernel
theorem dX0_keep_10 : decode cX0_keep 10 = .ok (.aload_n 1, 1) := by decide +kernel
theorem dX0_keep_11 : decode cX0_keep 11 = .ok (.getfield 38, 3) := by decide +kernel
theorem dX0_keep_14 : decode cX0_keep 14 = .ok (.iconst 0, 1) := by decide +kernel
theorem dX0_keep_15 : decode cX0_keep 15 = .ok (.aload_n 0, 1) := by decide +kernel
theorem dX0_keep_16 : decode cX0_keep 16 = .ok (.getfield 15, 3) := by decide +kernel
theorem dX0_keep_19 : decode cX0_keep 19 = .ok (.iconst 0, 1) := by decide +kernel
theorem dX0_keep_20 : decode cX0_keep 20 = .ok (.bipush 41, 2) := by decide +kernel
theorem dX0_keep_22 : decode cX0_keep 22 = .ok (.invokestatic 41, 3) := by decide +kernel
theorem dX0_keep_25 : decode cX0_keep 25 = .ok (.iconst 0, 1) := by decide +kernel
theorem dX0_keep_26 : decode cX0_keep 26 = .ok (.istore_n 3, 1) := by decide +kernel
theorem dX0_keep_27 : decode cX0_keep 27 = .ok (.iload_n 3, 1) := by decide +kernel
theorem dX0_keep_28 : decode cX0_keep 28 = .ok (.iconst 3, 1) := by decide +kernel
theorem dX0_keep_29 : decode cX0_keep 29 = .ok (.if_icmp .ge 28, 3) := by decide +kernel
theorem dX0_keep_32 : decode cX0_keep 32 = .ok (.aload_n 1, 1) := by decide +kernel
theorem dX0_keep_33 : decode cX0_keep 33 = .ok (.getfield 47, 3) := by decide +kernel
theorem dX0_keep_36 : decode cX0_keep 36 = .ok (.iload_n 3, 1) := by decide +kernel
theorem dX0_keep_37 : decode cX0_keep 37 = .ok (.aaload, 1) := by decide +kernel
theorem dX0_keep_38 : decode cX0_keep 38 = .ok (.iconst 0, 1) := by decide +kernel
theorem dX0_keep_39 : decode cX0_keep 39 = .ok (.aload_n 0, 1) := by decide +kernel
theorem dX0_keep_40 : decode cX0_keep 40 = .ok (.getfield 21, 3) := by decide +kernel
theorem dX0_keep_43 : decode cX0_keep 43 = .ok (.iload_n 3, 1) := by decide +kernel
theorem dX0_keep_44 : decode cX0_keep 44 = .ok (.aaload, 1) := by decide +kernel
theorem dX0_keep_45 : decode cX0_keep 45 = .ok (.iconst 0, 1) := by decide +kernel
theorem dX0_keep_46 : decode cX0_keep 46 = .ok (.bipush 6, 2) := by decide +kernel
theorem dX0_keep_48 : decode cX0_keep 48 = .ok (.invokestatic 41, 3) := by decide +kernel
theorem dX0_keep_51 : decode cX0_keep 51 = .ok (.iinc 3 1, 3) := by decide +kernel
theorem dX0_keep_54 : decode cX0_keep 54 = .ok (.goto (-27), 3) := by decide +kernel
theorem dX0_keep_57 : decode cX0_keep 57 = .ok (.aload_n 0, 1) := by decide +kernel
theorem dX0_keep_58 : decode cX0_keep 58 = .ok (.aload_n 1, 1) := by decide +kernel
theorem dX0_keep_59 : decode cX0_keep 59 = .ok (.getfield 48, 3) := by decide +kernel
theorem dX0_keep_62 : decode cX0_keep 62 = .ok (.putfield 51, 3) := by decide +kernel
theorem dX0_keep_65 : decode cX0_keep 65 = .ok (.aload_n 0, 1) := by decide +kernel
theorem dX0_keep_66 : decode cX0_keep 66 = .ok (.aload_n 1, 1) := by decide +kernel
theorem dX0_keep_67 : decode cX0_keep 67 = .ok (.getfield 52, 3) := by decide +kernel
theorem dX0_keep_70 : decode cX0_keep 70 = .ok (.putfield 55, 3) := by decide +kernel
theorem dX0_keep_73 : decode cX0_keep 73 = .ok (.aload_n 0, 1) := by decide +kernel
theorem dX0_keep_74 : decode cX0_keep 74 = .ok (.aload_n 1, 1) := by decide +kernel
theorem dX0_keep_75 : decode cX0_keep 75 = .ok (.getfield 56, 3) := by decide +kernel
theorem dX0_keep_78 : decode cX0_keep 78 = .ok (.putfield 59, 3) := by decide +kernel
theorem dX0_keep_81 : decode cX0_keep 81 = .ok (.iconst 0, 1) := by decide +kernel
theorem dX0_keep_82 : decode cX0_keep 82 = .ok (.istore_n 3, 1) := by decide +kernel
theorem dX0_keep_83 : decode cX0_keep 83 = .ok (.iload_n 3, 1) := by decide +kernel
theorem dX0_keep_84 : decode cX0_keep 84 = .ok (.aload_n 0, 1) := by decide +kernel
theorem dX0_keep_85 : decode cX0_keep 85 = .ok (.getfield 59, 3) := by decide +kernel
theorem dX0_keep_88 : decode cX0_keep 88 = .ok (.if_icmp .ge 54, 3) := by decide +kernel
theorem dX0_keep_91 : decode cX0_keep 91 = .ok (.aload_n 0, 1) := by decide +kernel
theorem dX0_keep_92 : decode cX0_keep 92 = .ok (.getfield 24, 3) := by decide +kernel
theorem dX0_keep_95 : decode cX0_keep 95 = .ok (.iload_n 3, 1) := by decide +kernel
theorem dX0_keep_96 : decode cX0_keep 96 = .ok (.aload_n 1, 1) := by decide +kernel
theorem dX0_keep_97 : decode cX0_keep 97 = .ok (.getfield 60, 3) := by decide +kernel
theorem dX0_keep_100 : decode cX0_keep 100 = .ok (.iload_n 3, 1) := by decide +kernel
theorem dX0_keep_101 : decode cX0_keep 101 = .ok (.aaload, 1) := by decide +kernel
theorem dX0_keep_102 : decode cX0_keep 102 = .ok (.getfield 64, 3) := by decide +kernel
theorem dX0_keep_105 : decode cX0_keep 105 = .ok (.bastore, 1) := by decide +kernel
theorem dX0_keep_106 : decode cX0_keep 106 = .ok (.aload_n 0, 1) := by decide +kernel
theorem dX0_keep_107 : decode cX0_keep 107 = .ok (.getfield 28, 3) := by decide +kernel
theorem dX0_keep_110 : decode cX0_keep 110 = .ok (.iload_n 3, 1) := by decide +kernel
theorem dX0_keep_111 : decode cX0_keep 111 = .ok (.aload_n 1, 1) := by decide +kernel
theorem dX0_keep_112 : decode cX0_keep 112 = .ok (.getfield 60, 3) := by decide +kernel
theorem dX0_keep_115 : decode cX0_keep 115 = .ok (.iload_n 3, 1) := by decide +kernel
theorem dX0_keep_116 : decode cX0_keep 116 = .ok (.aaload, 1) := by decide +kernel
theorem dX0_keep_117 : decode cX0_keep 117 = .ok (.getfield 68, 3) := by decide +kernel
theorem dX0_keep_120 : decode cX0_keep 120 = .ok (.iastore, 1) := by decide +kernel
theorem dX0_keep_121 : decode cX0_keep 121 = .ok (.aload_n 0, 1) := by decide +kernel
theorem dX0_keep_122 : decode cX0_keep 122 = .ok (.getfield 31, 3) := by decide +kernel
theorem dX0_keep_125 : decode cX0_keep 125 = .ok (.iload_n 3, 1) := by decide +kernel
theorem dX0_keep_126 : decode cX0_keep 126 = .ok (.aload_n 1, 1) := by decide +kernel
theorem dX0_keep_127 : decode cX0_keep 127 = .ok (.getfield 60, 3) := by decide +kernel
theorem dX0_keep_130 : decode cX0_keep 130 = .ok (.iload_n 3, 1) := by decide +kernel
theorem dX0_keep_131 : decode cX0_keep 131 = .ok (.aaload, 1) := by decide +kernel
theorem dX0_keep_132 : decode cX0_keep 132 = .ok (.getfield 70, 3) := by decide +kernel
theorem dX0_keep_135 : decode cX0_keep 135 = .ok (.iastore, 1) := by decide +kernel
theorem dX0_keep_136 : decode cX0_keep 136 = .ok (.iinc 3 1, 3) := by decide +kernel
theorem dX0_keep_139 : decode cX0_keep 139 = .ok (.goto (-56), 3) := by decide +kernel
theorem dX0_keep_142 : decode cX0_keep 142 = .ok (.aload_n 0, 1) := by decide +kernel
theorem dX0_keep_143 : decode cX0_keep 143 = .ok (.aload_n 1, 1) := by decide +kernel
theorem dX0_keep_144 : decode cX0_keep 144 = .ok (.getfield 73, 3) := by decide +kernel
theorem dX0_keep_147 : decode cX0_keep 147 = .ok (.putfield 76, 3) := by decide +kernel
theorem dX0_keep_150 : decode cX0_keep 150 = .ok (.return_, 1) := by decide +kernel
theorem dX0_giveBack_0 : decode cX0_giveBack 0 = .ok (.aload_n 0, 1) := by decide +kernel
theorem dX0_giveBack_1 : decode cX0_giveBack 1 = .ok (.getfield 15, 3) := by decide +kernel
theorem dX0_giveBack_4 : decode cX0_giveBack 4 = .ok (.iconst 0, 1) := by decide +kernel
theorem dX0_giveBack_5 : decode cX0_giveBack 5 = .ok (.aload_n 1, 1) := by decide +kernel
theorem dX0_giveBack_6 : decode cX0_giveBack 6 = .ok (.getfield 38, 3) := by decide +kernel
theorem dX0_giveBack_9 : decode cX0_giveBack 9 = .ok (.iconst 0, 1) := by decide +kernel
theorem dX0_giveBack_10 : decode cX0_giveBack 10 = .ok (.bipush 41, 2) := by decide +kernel
theorem dX0_giveBack_12 : decode cX0_giveBack 12 = .ok (.invokestatic 41, 3) := by decide +kernel
theorem dX0_giveBack_15 : decode cX0_giveBack 15 = .ok (.aload_n 1, 1) := by decide +kernel
theorem dX0_giveBack_16 : decode cX0_giveBack 16 = .ok (.invokevirtual 77, 3) := by decide +kernel
theorem dX0_giveBack_19 : decode cX0_giveBack 19 = .ok (.iconst 0, 1) := by decide +kernel
theorem dX0_giveBack_20 : decode cX0_giveBack 20 = .ok (.istore_n 2, 1) := by decide +kernel
theorem dX0_giveBack_21 : decode cX0_giveBack 21 = .ok (.iload_n 2, 1) := by decide +kernel
theorem dX0_giveBack_22 : decode cX0_giveBack 22 = .ok (.iconst 3, 1) := by decide +kernel
theorem dX0_giveBack_23 : decode cX0_giveBack 23 = .ok (.if_icmp .ge 28, 3) := by decide +kernel
theorem dX0_giveBack_26 : decode cX0_giveBack 26 = .ok (.aload_n 0, 1) := by decide +kernel
theorem dX0_giveBack_27 : decode cX0_giveBack 27 = .ok (.getfield 21, 3) := by decide +kernel
theorem dX0_giveBack_30 : decode cX0_giveBack 30 = .ok (.iload_n 2, 1) := by decide +kernel
theorem dX0_giveBack_31 : decode cX0_giveBack 31 = .ok (.aaload, 1) := by decide +kernel
theorem dX0_giveBack_32 : decode cX0_giveBack 32 = .ok (.iconst 0, 1) := by decide +kernel
theorem dX0_giveBack_33 : decode cX0_giveBack 33 = .ok (.aload_n 1, 1) := by decide +kernel
theorem dX0_giveBack_34 : decode cX0_giveBack 34 = .ok (.getfield 47, 3) := by decide +kernel
theorem dX0_giveBack_37 : decode cX0_giveBack 37 = .ok (.iload_n 2, 1) := by decide +kernel
theorem dX0_giveBack_38 : decode cX0_giveBack 38 = .ok (.aaload, 1) := by decide +kernel
theorem dX0_giveBack_39 : decode cX0_giveBack 39 = .ok (.iconst 0, 1) := by decide +kernel
theorem dX0_giveBack_40 : decode cX0_giveBack 40 = .ok (.bipush 6, 2) := by decide +kernel
theorem dX0_giveBack_42 : decode cX0_giveBack 42 = .ok (.invokestatic 41, 3) := by decide +kernel
theorem dX0_giveBack_45 : decode cX0_giveBack 45 = .ok (.iinc 2 1, 3) := by decide +kernel
theorem dX0_giveBack_48 : decode cX0_giveBack 48 = .ok (.goto (-27), 3) := by decide +kernel
theorem dX0_giveBack_51 : decode cX0_giveBack 51 = .ok (.aload_n 1, 1) := by decide +kernel
theorem dX0_giveBack_52 : decode cX0_giveBack 52 = .ok (.aload_n 0, 1) := by decide +kernel
theorem dX0_giveBack_53 : decode cX0_giveBack 53 = .ok (.getfield 51, 3) := by decide +kernel
theorem dX0_giveBack_56 : decode cX0_giveBack 56 = .ok (.putfield 48, 3) := by decide +kernel
theorem dX0_giveBack_59 : decode cX0_giveBack 59 = .ok (.aload_n 1, 1) := by decide +kernel
theorem dX0_giveBack_60 : decode cX0_giveBack 60 = .ok (.aload_n 0, 1) := by decide +kernel
theorem dX0_giveBack_61 : decode cX0_giveBack 61 = .ok (.getfield 55, 3) := by decide +kernel
theorem dX0_giveBack_64 : decode cX0_giveBack 64 = .ok (.putfield 52, 3) := by decide +kernel
theorem dX0_giveBack_67 : decode cX0_giveBack 67 = .ok (.iconst 0, 1) := by decide +kernel
theorem dX0_giveBack_68 : decode cX0_giveBack 68 = .ok (.istore_n 2, 1) := by decide +kernel
theorem dX0_giveBack_69 : decode cX0_giveBack 69 = .ok (.iload_n 2, 1) := by decide +kernel
theorem dX0_giveBack_70 : decode cX0_giveBack 70 = .ok (.aload_n 0, 1) := by decide +kernel
theorem dX0_giveBack_71 : decode cX0_giveBack 71 = .ok (.getfield 59, 3) := by decide +kernel
theorem dX0_giveBack_74 : decode cX0_giveBack 74 = .ok (.if_icmp .ge 54, 3) := by decide +kernel
theorem dX0_giveBack_77 : decode cX0_giveBack 77 = .ok (.aload_n 1, 1) := by decide +kernel
theorem dX0_giveBack_78 : decode cX0_giveBack 78 = .ok (.getfield 60, 3) := by decide +kernel
theorem dX0_giveBack_81 : decode cX0_giveBack 81 = .ok (.iload_n 2, 1) := by decide +kernel
theorem dX0_giveBack_82 : decode cX0_giveBack 82 = .ok (.aaload, 1) := by decide +kernel
theorem dX0_giveBack_83 : decode cX0_giveBack 83 = .ok (.aload_n 0, 1) := by decide +kernel
theorem dX0_giveBack_84 : decode cX0_giveBack 84 = .ok (.getfield 24, 3) := by decide +kernel
theorem dX0_giveBack_87 : decode cX0_giveBack 87 = .ok (.iload_n 2, 1) := by decide +kernel
theorem dX0_giveBack_88 : decode cX0_giveBack 88 = .ok (.baload, 1) := by decide +kernel
theorem dX0_giveBack_89 : decode cX0_giveBack 89 = .ok (.putfield 64, 3) := by decide +kernel
theorem dX0_giveBack_92 : decode cX0_giveBack 92 = .ok (.aload_n 1, 1) := by decide +kernel
theorem dX0_giveBack_93 : decode cX0_giveBack 93 = .ok (.getfield 60, 3) := by decide +kernel
theorem dX0_giveBack_96 : decode cX0_giveBack 96 = .ok (.iload_n 2, 1) := by decide +kernel
theorem dX0_giveBack_97 : decode cX0_giveBack 97 = .ok (.aaload, 1) := by decide +kernel
theorem dX0_giveBack_98 : decode cX0_giveBack 98 = .ok (.aload_n 0, 1) := by decide +kernel
theorem dX0_giveBack_99 : decode cX0_giveBack 99 = .ok (.getfield 28, 3) := by decide +kernel
theorem dX0_giveBack_102 : decode cX0_giveBack 102 = .ok (.iload_n 2, 1) := by decide +kernel
theorem dX0_giveBack_103 : decode cX0_giveBack 103 = .ok (.iaload, 1) := by decide +kernel
theorem dX0_giveBack_104 : decode cX0_giveBack 104 = .ok (.putfield 68, 3) := by decide +kernel
theorem dX0_giveBack_107 : decode cX0_giveBack 107 = .ok (.aload_n 1, 1) := by decide +kernel
theorem dX0_giveBack_108 : decode cX0_giveBack 108 = .ok (.getfield 60, 3) := by decide +kernel
theorem dX0_giveBack_111 : decode cX0_giveBack 111 = .ok (.iload_n 2, 1) := by decide +kernel
theorem dX0_giveBack_112 : decode cX0_giveBack 112 = .ok (.aaload, 1) := by decide +kernel
theorem dX0_giveBack_113 : decode cX0_giveBack 113 = .ok (.aload_n 0, 1) := by decide +kernel
theorem dX0_giveBack_114 : decode cX0_giveBack 114 = .ok (.getfield 31, 3) := by decide +kernel
theorem dX0_giveBack_117 : decode cX0_giveBack 117 = .ok (.iload_n 2, 1) := by decide +kernel
theorem dX0_giveBack_118 : decode cX0_giveBack 118 = .ok (.iaload, 1) := by decide +kernel
theorem dX0_giveBack_119 : decode cX0_giveBack 119 = .ok (.putfield 70, 3) := by decide +kernel
theorem dX0_giveBack_122 : decode cX0_giveBack 122 = .ok (.iinc 2 1, 3) := by decide +kernel
theorem dX0_giveBack_125 : decode cX0_giveBack 125 = .ok (.goto (-56), 3) := by decide +kernel
theorem dX0_giveBack_128 : decode cX0_giveBack 128 = .ok (.aload_n 1, 1) := by decide +kernel
theorem dX0_giveBack_129 : decode cX0_giveBack 129 = .ok (.aload_n 0, 1) := by decide +kernel
theorem dX0_giveBack_130 : decode cX0_giveBack 130 = .ok (.getfield 76, 3) := by decide +kernel
theorem dX0_giveBack_133 : decode cX0_giveBack 133 = .ok (.putfield 73, 3) := by decide +kernel
theorem dX0_giveBack_136 : decode cX0_giveBack 136 = .ok (.return_, 1) := by decide +kernel
theorem dX1_init_0 : decode cX1_init 0 = .ok (.aload_n 0, 1) := by decide +kernel
theorem dX1_init_1 : decode cX1_init 1 = .ok (.invokespecial 3, 3) := by decide +kernel
theorem dX1_init_4 : decode cX1_init 4 = .ok (.aload_n 0, 1) := by decide +kernel
theorem dX1_init_5 : decode cX1_init 5 = .ok (.aload_n 1, 1) := by decide +kernel
theorem dX1_init_6 : decode cX1_init 6 = .ok (.putfield 9, 3) := by decide +kernel
theorem dX1_init_9 : decode cX1_init 9 = .ok (.return_, 1) := by decide +kernel
theorem dX1_faultOf_0 : decode cX1_faultOf 0 = .ok (.aload_n 1, 1) := by decide +kernel
theorem dX1_faultOf_1 : decode cX1_faultOf 1 = .ok (.invokevirtual 15, 3) := by decide +kernel
theorem dX1_faultOf_4 : decode cX1_faultOf 4 = .ok (.aload_n 0, 1) := by decide +kernel
theorem dX1_faultOf_5 : decode cX1_faultOf 5 = .ok (.getfield 9, 3) := by decide +kernel
theorem dX1_faultOf_8 : decode cX1_faultOf 8 = .ok (.invokevirtual 20, 3) := by decide +kernel
theorem dX1_faultOf_11 : decode cX1_faultOf 11 = .ok (.iconst 4, 1) := by decide +kernel
theorem dX1_faultOf_12 : decode cX1_faultOf 12 = .ok (.istore_n 2, 1) := by decide +kernel
theorem dX1_faultOf_13 : decode cX1_faultOf 13 = .ok (.iload_n 2, 1) := by decide +kernel
theorem dX1_faultOf_14 : decode cX1_faultOf 14 = .ok (.bipush 6, 2) := by decide +kernel
theorem dX1_faultOf_16 : decode cX1_faultOf 16 = .ok (.if_icmp .gt 48, 3) := by decide +kernel
theorem dX1_faultOf_19 : decode cX1_faultOf 19 = .ok (.aload_n 0, 1) := by decide +kernel
theorem dX1_faultOf_20 : decode cX1_faultOf 20 = .ok (.iload_n 2, 1) := by decide +kernel
theorem dX1_faultOf_21 : decode cX1_faultOf 21 = .ok (.invokevirtual 25, 3) := by decide +kernel
theorem dX1_faultOf_24 : decode cX1_faultOf 24 = .ok (.ifCond .eq 22, 3) := by decide +kernel
theorem dX1_faultOf_27 : decode cX1_faultOf 27 = .ok (.aload_n 0, 1) := by decide +kernel
theorem dX1_faultOf_28 : decode cX1_faultOf 28 = .ok (.aload_n 1, 1) := by decide +kernel
theorem dX1_faultOf_29 : decode cX1_faultOf 29 = .ok (.iconst 0, 1) := by decide +kernel
theorem dX1_faultOf_30 : decode cX1_faultOf 30 = .ok (.iconst 0, 1) := by decide +kernel
theorem dX1_faultOf_31 : decode cX1_faultOf 31 = .ok (.invokevirtual 29, 3) := by decide +kernel
theorem dX1_faultOf_34 : decode cX1_faultOf 34 = .ok (.ifCond .eq 12, 3) := by decide +kernel
theorem dX1_faultOf_37 : decode cX1_faultOf 37 = .ok (.aload_n 0, 1) := by decide +kernel
theorem dX1_faultOf_38 : decode cX1_faultOf 38 = .ok (.bipush 59, 2) := by decide +kernel
theorem dX1_faultOf_40 : decode cX1_faultOf 40 = .ok (.invokevirtual 25, 3) := by decide +kernel
theorem dX1_faultOf_43 : decode cX1_faultOf 43 = .ok (.ifCond .ne 11, 3) := by decide +kernel
theorem dX1_faultOf_46 : decode cX1_faultOf 46 = .ok (.aload_n 0, 1) := by decide +kernel
theorem dX1_faultOf_47 : decode cX1_faultOf 47 = .ok (.getfield 9, 3) := by decide +kernel
theorem dX1_faultOf_50 : decode cX1_faultOf 50 = .ok (.getfield 33, 3) := by decide +kernel
theorem dX1_faultOf_53 : decode cX1_faultOf 53 = .ok (.ireturn, 1) := by decide +kernel
theorem dX1_faultOf_54 : decode cX1_faultOf 54 = .ok (.aload_n 1, 1) := by decide +kernel
theorem dX1_faultOf_55 : decode cX1_faultOf 55 = .ok (.invokevirtual 37, 3) := by decide +kernel
theorem dX1_faultOf_58 : decode cX1_faultOf 58 = .ok (.iinc 2 1, 3) := by decide +kernel
theorem dX1_faultOf_61 : decode cX1_faultOf 61 = .ok (.goto (-48), 3) := by decide +kernel
theorem dX1_faultOf_64 : decode cX1_faultOf 64 = .ok (.aload_n 0, 1) := by decide +kernel
theorem dX1_faultOf_65 : decode cX1_faultOf 65 = .ok (.getfield 9, 3) := by decide +kernel
theorem dX1_faultOf_68 : decode cX1_faultOf 68 = .ok (.getfield 40, 3) := by decide +kernel
theorem dX1_faultOf_71 : decode cX1_faultOf 71 = .ok (.ifCond .ne 7, 3) := by decide +kernel
theorem dX1_faultOf_74 : decode cX1_faultOf 74 = .ok (.iconst (-1), 1) := by decide +kernel
theorem dX1_faultOf_75 : decode cX1_faultOf 75 = .ok (.goto 10, 3) := by decide +kernel
theorem dX1_faultOf_78 : decode cX1_faultOf 78 = .ok (.aload_n 0, 1) := by decide +kernel
theorem dX1_faultOf_79 : decode cX1_faultOf 79 = .ok (.getfield 9, 3) := by decide +kernel
theorem dX1_faultOf_82 : decode cX1_faultOf 82 = .ok (.getfield 33, 3) := by decide +kernel
theorem dX1_faultOf_85 : decode cX1_faultOf 85 = .ok (.ireturn, 1) := by decide +kernel
theorem dX1_passes_0 : decode cX1_passes 0 = .ok (.aload_n 0, 1) := by decide +kernel
theorem dX1_passes_1 : decode cX1_passes 1 = .ok (.getfield 9, 3) := by decide +kernel
theorem dX1_passes_4 : decode cX1_passes 4 = .ok (.getfield 40, 3) := by decide +kernel
theorem dX1_passes_7 : decode cX1_passes 7 = .ok (.iload_n 1, 1) := by decide +kernel
theorem dX1_passes_8 : decode cX1_passes 8 = .ok (.if_icmp .eq 5, 3) := by decide +kernel
theorem dX1_passes_11 : decode cX1_passes 11 = .ok (.iconst 0, 1) := by decide +kernel
theorem dX1_passes_12 : decode cX1_passes 12 = .ok (.ireturn, 1) := by decide +kernel
theorem dX1_passes_13 : decode cX1_passes 13 = .ok (.aload_n 0, 1) := by decide +kernel
theorem dX1_passes_14 : decode cX1_passes 14 = .ok (.getfield 9, 3) := by decide +kernel
theorem dX1_passes_17 : decode cX1_passes 17 = .ok (.invokevirtual 43, 3) := by decide +kernel
theorem dX1_passes_20 : decode cX1_passes 20 = .ok (.iconst 1, 1) := by decide +kernel
theorem dX1_passes_21 : decode cX1_passes 21 = .ok (.ireturn, 1) := by decide +kernel
theorem dX1_readLevel_0 : decode cX1_readLevel 0 = .ok (.iload_n 2, 1) := by decide +kernel
theorem dX1_readLevel_1 : decode cX1_readLevel 1 = .ok (.iconst 5, 1) := by decide +kernel
theorem dX1_readLevel_2 : decode cX1_readLevel 2 = .ok (.if_icmp .ne 10, 3) := by decide +kernel
theorem dX1_readLevel_5 : decode cX1_readLevel 5 = .ok (.aload_n 0, 1) := by decide +kernel
theorem dX1_readLevel_6 : decode cX1_readLevel 6 = .ok (.aload_n 1, 1) := by decide +kernel
theorem dX1_readLevel_7 : decode cX1_readLevel 7 = .ok (.iload_n 3, 1) := by decide +kernel
theorem dX1_readLevel_8 : decode cX1_readLevel 8 = .ok (.invokevirtual 46, 3) := by decide +kernel
theorem dX1_readLevel_11 : decode cX1_readLevel 11 = .ok (.ireturn, 1) := by decide +kernel
theorem dX1_readLevel_12 : decode cX1_readLevel 12 = .ok (.iload_n 2, 1) := by decide +kernel
theorem dX1_readLevel_13 : decode cX1_readLevel 13 = .ok (.iconst 2, 1) := by decide +kernel
theorem dX1_readLevel_14 : decode cX1_readLevel 14 = .ok (.if_icmp .ne 25, 3) := by decide +kernel
theorem dX1_readLevel_17 : decode cX1_readLevel 17 = .ok (.aload_n 0, 1) := by decide +kernel
theorem dX1_readLevel_18 : decode cX1_readLevel 18 = .ok (.getfield 9, 3) := by decide +kernel
theorem dX1_readLevel_21 : decode cX1_readLevel 21 = .ok (.getfield 40, 3) := by decide +kernel
theorem dX1_readLevel_24 : decode cX1_readLevel 24 = .ok (.bipush 9, 2) := by decide +kernel
theorem dX1_readLevel_26 : decode cX1_readLevel 26 = .ok (.if_icmp .ne 13, 3) := by decide +kernel
theorem dX1_readLevel_29 : decode cX1_readLevel 29 = .ok (.aload_n 0, 1) := by decide +kernel
theorem dX1_readLevel_30 : decode cX1_readLevel 30 = .ok (.aload_n 1, 1) := by decide +kernel
theorem dX1_readLevel_31 : decode cX1_readLevel 31 = .ok (.bipush 9, 2) := by decide +kernel
theorem dX1_readLevel_33 : decode cX1_readLevel 33 = .ok (.iconst 2, 1) := by decide +kernel
theorem dX1_readLevel_34 : decode cX1_readLevel 34 = .ok (.iload_n 3, 1) := by decide +kernel
theorem dX1_readLevel_35 : decode cX1_readLevel 35 = .ok (.invokevirtual 50, 3) := by decide +kernel
theorem dX1_readLevel_38 : decode cX1_readLevel 38 = .ok (.ireturn, 1) := by decide +kernel
theorem dX1_readLevel_39 : decode cX1_readLevel 39 = .ok (.aload_n 0, 1) := by decide +kernel
theorem dX1_readLevel_40 : decode cX1_readLevel 40 = .ok (.aload_n 1, 1) := by decide +kernel
theorem dX1_readLevel_41 : decode cX1_readLevel 41 = .ok (.iload_n 2, 1) := by decide +kernel
theorem dX1_readLevel_42 : decode cX1_readLevel 42 = .ok (.iconst 1, 1) := by decide +kernel
theorem dX1_readLevel_43 : decode cX1_readLevel 43 = .ok (.iadd, 1) := by decide +kernel
theorem dX1_readLevel_44 : decode cX1_readLevel 44 = .ok (.iload_n 3, 1) := by decide +kernel
theorem dX1_readLevel_45 : decode cX1_readLevel 45 = .ok (.invokevirtual 29, 3) := by decide +kernel
theorem dX1_readLevel_48 : decode cX1_readLevel 48 = .ok (.ifCond .ne 5, 3) := by decide +kernel
theorem dX1_readLevel_51 : decode cX1_readLevel 51 = .ok (.iconst 0, 1) := by decide +kernel
theorem dX1_readLevel_52 : decode cX1_readLevel 52 = .ok (.ireturn, 1) := by decide +kernel
theorem dX1_readLevel_53 : decode cX1_readLevel 53 = .ok (.iload_n 2, 1) := by decide +kernel
theorem dX1_readLevel_54 : decode cX1_readLevel 54 = .ok (.iconst 2, 1) := by decide +kernel
theorem dX1_readLevel_55 : decode cX1_readLevel 55 = .ok (.if_icmp .ne 7, 3) := by decide +kernel
theorem dX1_readLevel_58 : decode cX1_readLevel 58 = .ok (.iconst 1, 1) := by decide +kernel
theorem dX1_readLevel_59 : decode cX1_readLevel 59 = .ok (.goto 6, 3) := by decide +kernel
theorem dX1_readLevel_62 : decode cX1_readLevel 62 = .ok (.sipush 160, 3) := by decide +kernel
theorem dX1_readLevel_65 : decode cX1_readLevel 65 = .ok (.istore 4, 2) := by decide +kernel
theorem dX1_readLevel_67 : decode cX1_readLevel 67 = .ok (.iconst 0, 1) := by decide +kernel
theorem dX1_readLevel_68 : decode cX1_readLevel 68 = .ok (.istore 5, 2) := by decide +kernel
theorem dX1_readLevel_70 : decode cX1_readLevel 70 = .ok (.iload 5, 2) := by decide +kernel
theorem dX1_readLevel_72 : decode cX1_readLevel 72 = .ok (.iload 4, 2) := by decide +kernel
theorem dX1_readLevel_74 : decode cX1_readLevel 74 = .ok (.if_icmp .ge 59, 3) := by decide +kernel
theorem dX1_readLevel_77 : decode cX1_readLevel 77 = .ok (.iload_n 2, 1) := by decide +kernel
theorem dX1_readLevel_78 : decode cX1_readLevel 78 = .ok (.aload_n 0, 1) := by decide +kernel
theorem dX1_readLevel_79 : decode cX1_readLevel 79 = .ok (.getfield 9, 3) := by decide +kernel
theorem dX1_readLevel_82 : decode cX1_readLevel 82 = .ok (.getfield 40, 3) := by decide +kernel
theorem dX1_readLevel_85 : decode cX1_readLevel 85 = .ok (.invokestatic 54, 3) := by decide +kernel
theorem dX1_readLevel_88 : decode cX1_readLevel 88 = .ok (.ifCond .eq 45, 3) := by decide +kernel
theorem dX1_readLevel_91 : decode cX1_readLevel 91 = .ok (.aload_n 0, 1) := by decide +kernel
theorem dX1_readLevel_92 : decode cX1_readLevel 92 = .ok (.getfield 9, 3) := by decide +kernel
theorem dX1_readLevel_95 : decode cX1_readLevel 95 = .ok (.getfield 40, 3) := by decide +kernel
theorem dX1_readLevel_98 : decode cX1_readLevel 98 = .ok (.istore 6, 2) := by decide +kernel
theorem dX1_readLevel_100 : decode cX1_readLevel 100 = .ok (.aload_n 0, 1) := by decide +kernel
theorem dX1_readLevel_101 : decode cX1_readLevel 101 = .ok (.getfield 9, 3) := by decide +kernel
theorem dX1_readLevel_104 : decode cX1_readLevel 104 = .ok (.invokevirtual 43, 3) := by decide +kernel
theorem dX1_readLevel_107 : decode cX1_readLevel 107 = .ok (.aload_n 0, 1) := by decide +kernel
theorem dX1_readLevel_108 : decode cX1_readLevel 108 = .ok (.aload_n 1, 1) := by decide +kernel
theorem dX1_readLevel_109 : decode cX1_readLevel 109 = .ok (.iload_n 2, 1) := by decide +kernel
theorem dX1_readLevel_110 : decode cX1_readLevel 110 = .ok (.iconst 1, 1) := by decide +kernel
theorem dX1_readLevel_111 : decode cX1_readLevel 111 = .ok (.iadd, 1) := by decide +kernel
theorem dX1_readLevel_112 : decode cX1_readLevel 112 = .ok (.iload_n 3, 1) := by decide +kernel
theorem dX1_readLevel_113 : decode cX1_readLevel 113 = .ok (.invokevirtual 29, 3) := by decide +kernel
theorem dX1_readLevel_116 : decode cX1_readLevel 116 = .ok (.ifCond .ne 5, 3) := by decide +kernel
theorem dX1_readLevel_119 : decode cX1_readLevel 119 = .ok (.iconst 0, 1) := by decide +kernel
theorem dX1_readLevel_120 : decode cX1_readLevel 120 = .ok (.ireturn, 1) := by decide +kernel
theorem dX1_readLevel_121 : decode cX1_readLevel 121 = .ok (.aload_n 1, 1) := by decide +kernel
theorem dX1_readLevel_122 : decode cX1_readLevel 122 = .ok (.iload 6, 2) := by decide +kernel
theorem dX1_readLevel_124 : decode cX1_readLevel 124 = .ok (.invokevirtual 58, 3) := by decide +kernel
theorem dX1_readLevel_127 : decode cX1_readLevel 127 = .ok (.iinc 5 1, 3) := by decide +kernel
theorem dX1_readLevel_130 : decode cX1_readLevel 130 = .ok (.goto (-60), 3) := by decide +kernel
theorem dX1_readLevel_133 : decode cX1_readLevel 133 = .ok (.iconst 1, 1) := by decide +kernel
theorem dX1_readLevel_134 : decode cX1_readLevel 134 = .ok (.ireturn, 1) := by decide +kernel
theorem dX1_readOne_0 : decode cX1_readOne 0 = .ok (.aload_n 0, 1) := by decide +kernel
theorem dX1_readOne_1 : decode cX1_readOne 1 = .ok (.getfield 9, 3) := by decide +kernel
theorem dX1_readOne_4 : decode cX1_readOne 4 = .ok (.getfield 40, 3) := by decide +kernel
theorem dX1_readOne_7 : decode cX1_readOne 7 = .ok (.lookupswitch 98 #[(2, 41), (3, 61), (40, 91), (45, 81)], 41) := by decide +kernel
theorem dX1_readOne_48 : decode cX1_readOne 48 = .ok (.aload_n 1, 1) := by decide +kernel
theorem dX1_readOne_49 : decode cX1_readOne 49 = .ok (.aload_n 0, 1) := by decide +kernel
theorem dX1_readOne_50 : decode cX1_readOne 50 = .ok (.getfield 9, 3) := by decide +kernel
theorem dX1_readOne_53 : decode cX1_readOne 53 = .ok (.getfield 62, 3) := by decide +kernel
theorem dX1_readOne_56 : decode cX1_readOne 56 = .ok (.invokevirtual 65, 3) := by decide +kernel
theorem dX1_readOne_59 : decode cX1_readOne 59 = .ok (.aload_n 0, 1) := by decide +kernel
theorem dX1_readOne_60 : decode cX1_readOne 60 = .ok (.getfield 9, 3) := by decide +kernel
theorem dX1_readOne_63 : decode cX1_readOne 63 = .ok (.invokevirtual 43, 3) := by decide +kernel
theorem dX1_readOne_66 : decode cX1_readOne 66 = .ok (.iconst 1, 1) := by decide +kernel
theorem dX1_readOne_67 : decode cX1_readOne 67 = .ok (.ireturn, 1) := by decide +kernel
theorem dX1_readOne_68 : decode cX1_readOne 68 = .ok (.aload_n 1, 1) := by decide +kernel
theorem dX1_readOne_69 : decode cX1_readOne 69 = .ok (.aload_n 0, 1) := by decide +kernel
theorem dX1_readOne_70 : decode cX1_readOne 70 = .ok (.getfield 9, 3) := by decide +kernel
theorem dX1_readOne_73 : decode cX1_readOne 73 = .ok (.getfield 62, 3) := by decide +kernel
theorem dX1_readOne_76 : decode cX1_readOne 76 = .ok (.invokevirtual 68, 3) := by decide +kernel
theorem dX1_readOne_79 : decode cX1_readOne 79 = .ok (.aload_n 0, 1) := by decide +kernel
theorem dX1_readOne_80 : decode cX1_readOne 80 = .ok (.getfield 9, 3) := by decide +kernel
theorem dX1_readOne_83 : decode cX1_readOne 83 = .ok (.invokevirtual 43, 3) := by decide +kernel
theorem dX1_readOne_86 : decode cX1_readOne 86 = .ok (.iconst 1, 1) := by decide +kernel
theorem dX1_readOne_87 : decode cX1_readOne 87 = .ok (.ireturn, 1) := by decide +kernel
theorem dX1_readOne_88 : decode cX1_readOne 88 = .ok (.aload_n 0, 1) := by decide +kernel
theorem dX1_readOne_89 : decode cX1_readOne 89 = .ok (.aload_n 1, 1) := by decide +kernel
theorem dX1_readOne_90 : decode cX1_readOne 90 = .ok (.bipush 10, 2) := by decide +kernel
theorem dX1_readOne_92 : decode cX1_readOne 92 = .ok (.iconst 5, 1) := by decide +kernel
theorem dX1_readOne_93 : decode cX1_readOne 93 = .ok (.iload_n 2, 1) := by decide +kernel
theorem dX1_readOne_94 : decode cX1_readOne 94 = .ok (.invokevirtual 50, 3) := by decide +kernel
theorem dX1_readOne_97 : decode cX1_readOne 97 = .ok (.ireturn, 1) := by decide +kernel
theorem dX1_readOne_98 : decode cX1_readOne 98 = .ok (.aload_n 0, 1) := by decide +kernel
theorem dX1_readOne_99 : decode cX1_readOne 99 = .ok (.aload_n 1, 1) := by decide +kernel
theorem dX1_readOne_100 : decode cX1_readOne 100 = .ok (.iload_n 2, 1) := by decide +kernel
theorem dX1_readOne_101 : decode cX1_readOne 101 = .ok (.invokevirtual 71, 3) := by decide +kernel
theorem dX1_readOne_104 : decode cX1_readOne 104 = .ok (.ireturn, 1) := by decide +kernel
theorem dX1_readOne_105 : decode cX1_readOne 105 = .ok (.iconst 0, 1) := by decide +kernel
theorem dX1_readOne_106 : decode cX1_readOne 106 = .ok (.ireturn, 1) := by decide +kernel
theorem dX1_readBehind_0 : decode cX1_readBehind 0 = .ok (.iload 4, 2) := by decide +kernel
theorem dX1_readBehind_2 : decode cX1_readBehind 2 = .ok (.iconst 5, 1) := by decide +kernel
theorem dX1_readBehind_3 : decode cX1_readBehind 3 = .ok (.if_icmp .lt 5, 3) := by decide +kernel
theorem dX1_readBehind_6 : decode cX1_readBehind 6 = .ok (.iconst 0, 1) := by decide +kernel
theorem dX1_readBehind_7 : decode cX1_readBehind 7 = .ok (.ireturn, 1) := by decide +kernel
theorem dX1_readBehind_8 : decode cX1_readBehind 8 = .ok (.aload_n 0, 1) := by decide +kernel
theorem dX1_readBehind_9 : decode cX1_readBehind 9 = .ok (.getfield 9, 3) := by decide +kernel
theorem dX1_readBehind_12 : decode cX1_readBehind 12 = .ok (.invokevirtual 43, 3) := by decide +kernel
theorem dX1_readBehind_15 : decode cX1_readBehind 15 = .ok (.aload_n 0, 1) := by decide +kernel
theorem dX1_readBehind_16 : decode cX1_readBehind 16 = .ok (.aload_n 1, 1) := by decide +kernel
theorem dX1_readBehind_17 : decode cX1_readBehind 17 = .ok (.iload_n 3, 1) := by decide +kernel
theorem dX1_readBehind_18 : decode cX1_readBehind 18 = .ok (.iload 4, 2) := by decide +kernel
theorem dX1_readBehind_20 : decode cX1_readBehind 20 = .ok (.iconst 1, 1) := by decide +kernel
theorem dX1_readBehind_21 : decode cX1_readBehind 21 = .ok (.iadd, 1) := by decide +kernel
theorem dX1_readBehind_22 : decode cX1_readBehind 22 = .ok (.invokevirtual 29, 3) := by decide +kernel
theorem dX1_readBehind_25 : decode cX1_readBehind 25 = .ok (.ifCond .ne 5, 3) := by decide +kernel
theorem dX1_readBehind_28 : decode cX1_readBehind 28 = .ok (.iconst 0, 1) := by decide +kernel
theorem dX1_readBehind_29 : decode cX1_readBehind 29 = .ok (.ireturn, 1) := by decide +kernel
theorem dX1_readBehind_30 : decode cX1_readBehind 30 = .ok (.aload_n 1, 1) := by decide +kernel
theorem dX1_readBehind_31 : decode cX1_readBehind 31 = .ok (.iload_n 2, 1) := by decide +kernel
theorem dX1_readBehind_32 : decode cX1_readBehind 32 = .ok (.invokevirtual 58, 3) := by decide +kernel
theorem dX1_readBehind_35 : decode cX1_readBehind 35 = .ok (.iconst 1, 1) := by decide +kernel
theorem dX1_readBehind_36 : decode cX1_readBehind 36 = .ok (.ireturn, 1) := by decide +kernel
theorem dX1_readInside_0 : decode cX1_readInside 0 = .ok (.iload_n 2, 1) := by decide +kernel
theorem dX1_readInside_1 : decode cX1_readInside 1 = .ok (.iconst 5, 1) := by decide +kernel
theorem dX1_readInside_2 : decode cX1_readInside 2 = .ok (.if_icmp .lt 5, 3) := by decide +kernel
theorem dX1_readInside_5 : decode cX1_readInside 5 = .ok (.iconst 0, 1) := by decide +kernel
theorem dX1_readInside_6 : decode cX1_readInside 6 = .ok (.ireturn, 1) := by decide +kernel
theorem dX1_readInside_7 : decode cX1_readInside 7 = .ok (.aload_n 0, 1) := by decide +kernel
theorem dX1_readInside_8 : decode cX1_readInside 8 = .ok (.getfield 9, 3) := by decide +kernel
theorem dX1_readInside_11 : decode cX1_readInside 11 = .ok (.invokevirtual 43, 3) := by decide +kernel
theorem dX1_readInside_14 : decode cX1_readInside 14 = .ok (.aload_n 0, 1) := by decide +kernel
theorem dX1_readInside_15 : decode cX1_readInside 15 = .ok (.aload_n 1, 1) := by decide +kernel
theorem dX1_readInside_16 : decode cX1_readInside 16 = .ok (.iconst 0, 1) := by decide +kernel
theorem dX1_readInside_17 : decode cX1_readInside 17 = .ok (.iload_n 2, 1) := by decide +kernel
theorem dX1_readInside_18 : decode cX1_readInside 18 = .ok (.iconst 1, 1) := by decide +kernel
theorem dX1_readInside_19 : decode cX1_readInside 19 = .ok (.iadd, 1) := by decide +kernel
theorem dX1_readInside_20 : decode cX1_readInside 20 = .ok (.invokevirtual 29, 3) := by decide +kernel
theorem dX1_readInside_23 : decode cX1_readInside 23 = .ok (.ifCond .eq 16, 3) := by decide +kernel
theorem dX1_readInside_26 : decode cX1_readInside 26 = .ok (.aload_n 0, 1) := by decide +kernel
theorem dX1_readInside_27 : decode cX1_readInside 27 = .ok (.bipush 41, 2) := by decide +kernel
theorem dX1_readInside_29 : decode cX1_readInside 29 = .ok (.invokevirtual 25, 3) := by decide +kernel
theorem dX1_readInside_32 : decode cX1_readInside 32 = .ok (.ifCond .eq 7, 3) := by decide +kernel
theorem dX1_readInside_35 : decode cX1_readInside 35 = .ok (.iconst 1, 1) := by decide +kernel
theorem dX1_readInside_36 : decode cX1_readInside 36 = .ok (.goto 4, 3) := by decide +kernel
theorem dX1_readInside_39 : decode cX1_readInside 39 = .ok (.iconst 0, 1) := by decide +kernel
theorem dX1_readInside_40 : decode cX1_readInside 40 = .ok (.ireturn, 1) := by decide +kernel
theorem dX1_joinsAt_0 : decode cX1_joinsAt 0 = .ok (.iload_n 0, 1) := by decide +kernel
theorem dX1_joinsAt_1 : decode cX1_joinsAt 1 = .ok (.tableswitch 107 0 4 #[35, 47, 59, 77, 95], 35) := by decide +kernel
theorem dX1_joinsAt_36 : decode cX1_joinsAt 36 = .ok (.iload_n 1, 1) := by decide +kernel
theorem dX1_joinsAt_37 : decode cX1_joinsAt 37 = .ok (.bipush 7, 2) := by decide +kernel
theorem dX1_joinsAt_39 : decode cX1_joinsAt 39 = .ok (.if_icmp .ne 7, 3) := by decide +kernel
theorem dX1_joinsAt_42 : decode cX1_joinsAt 42 = .ok (.iconst 1, 1) := by decide +kernel
theorem dX1_joinsAt_43 : decode cX1_joinsAt 43 = .ok (.goto 4, 3) := by decide +kernel
theorem dX1_joinsAt_46 : decode cX1_joinsAt 46 = .ok (.iconst 0, 1) := by decide +kernel
theorem dX1_joinsAt_47 : decode cX1_joinsAt 47 = .ok (.ireturn, 1) := by decide +kernel
theorem dX1_joinsAt_48 : decode cX1_joinsAt 48 = .ok (.iload_n 1, 1) := by decide +kernel
theorem dX1_joinsAt_49 : decode cX1_joinsAt 49 = .ok (.bipush 8, 2) := by decide +kernel
theorem dX1_joinsAt_51 : decode cX1_joinsAt 51 = .ok (.if_icmp .ne 7, 3) := by decide +kernel
theorem dX1_joinsAt_54 : decode cX1_joinsAt 54 = .ok (.iconst 1, 1) := by decide +kernel
theorem dX1_joinsAt_55 : decode cX1_joinsAt 55 = .ok (.goto 4, 3) := by decide +kernel
theorem dX1_joinsAt_58 : decode cX1_joinsAt 58 = .ok (.iconst 0, 1) := by decide +kernel
theorem dX1_joinsAt_59 : decode cX1_joinsAt 59 = .ok (.ireturn, 1) := by decide +kernel
theorem dX1_joinsAt_60 : decode cX1_joinsAt 60 = .ok (.iload_n 1, 1) := by decide +kernel
theorem dX1_joinsAt_61 : decode cX1_joinsAt 61 = .ok (.bipush 60, 2) := by decide +kernel
theorem dX1_joinsAt_63 : decode cX1_joinsAt 63 = .ok (.if_icmp .eq 9, 3) := by decide +kernel
theorem dX1_joinsAt_66 : decode cX1_joinsAt 66 = .ok (.iload_n 1, 1) := by decide +kernel
theorem dX1_joinsAt_67 : decode cX1_joinsAt 67 = .ok (.bipush 61, 2) := by decide +kernel
theorem dX1_joinsAt_69 : decode cX1_joinsAt 69 = .ok (.if_icmp .ne 7, 3) := by decide +kernel
theorem dX1_joinsAt_72 : decode cX1_joinsAt 72 = .ok (.iconst 1, 1) := by decide +kernel
theorem dX1_joinsAt_73 : decode cX1_joinsAt 73 = .ok (.goto 4, 3) := by decide +kernel
theorem dX1_joinsAt_76 : decode cX1_joinsAt 76 = .ok (.iconst 0, 1) := by decide +kernel
theorem dX1_joinsAt_77 : decode cX1_joinsAt 77 = .ok (.ireturn, 1) := by decide +kernel
theorem dX1_joinsAt_78 : decode cX1_joinsAt 78 = .ok (.iload_n 1, 1) := by decide +kernel
theorem dX1_joinsAt_79 : decode cX1_joinsAt 79 = .ok (.bipush 43, 2) := by decide +kernel
theorem dX1_joinsAt_81 : decode cX1_joinsAt 81 = .ok (.if_icmp .eq 9, 3) := by decide +kernel
theorem dX1_joinsAt_84 : decode cX1_joinsAt 84 = .ok (.iload_n 1, 1) := by decide +kernel
theorem dX1_joinsAt_85 : decode cX1_joinsAt 85 = .ok (.bipush 45, 2) := by decide +kernel
theorem dX1_joinsAt_87 : decode cX1_joinsAt 87 = .ok (.if_icmp .ne 7, 3) := by decide +kernel
theorem dX1_joinsAt_90 : decode cX1_joinsAt 90 = .ok (.iconst 1, 1) := by decide +kernel
theorem dX1_joinsAt_91 : decode cX1_joinsAt 91 = .ok (.goto 4, 3) := by decide +kernel
theorem dX1_joinsAt_94 : decode cX1_joinsAt 94 = .ok (.iconst 0, 1) := by decide +kernel
theorem dX1_joinsAt_95 : decode cX1_joinsAt 95 = .ok (.ireturn, 1) := by decide +kernel
theorem dX1_joinsAt_96 : decode cX1_joinsAt 96 = .ok (.iload_n 1, 1) := by decide +kernel
theorem dX1_joinsAt_97 : decode cX1_joinsAt 97 = .ok (.bipush 42, 2) := by decide +kernel
theorem dX1_joinsAt_99 : decode cX1_joinsAt 99 = .ok (.if_icmp .ne 7, 3) := by decide +kernel
theorem dX1_joinsAt_102 : decode cX1_joinsAt 102 = .ok (.iconst 1, 1) := by decide +kernel
theorem dX1_joinsAt_103 : decode cX1_joinsAt 103 = .ok (.goto 4, 3) := by decide +kernel
theorem dX1_joinsAt_106 : decode cX1_joinsAt 106 = .ok (.iconst 0, 1) := by decide +kernel
theorem dX1_joinsAt_107 : decode cX1_joinsAt 107 = .ok (.ireturn, 1) := by decide +kernel
theorem dX1_joinsAt_108 : decode cX1_joinsAt 108 = .ok (.iconst 0, 1) := by decide +kernel
theorem dX1_joinsAt_109 : decode cX1_joinsAt 109 = .ok (.ireturn, 1) := by decide +kernel
theorem dX2_init_0 : decode cX2_init 0 = .ok (.aload_n 0, 1) := by decide +kernel
theorem dX2_init_1 : decode cX2_init 1 = .ok (.invokespecial 3, 3) := by decide +kernel
theorem dX2_init_4 : decode cX2_init 4 = .ok (.aload_n 0, 1) := by decide +kernel
theorem dX2_init_5 : decode cX2_init 5 = .ok (.bipush 41, 2) := by decide +kernel
theorem dX2_init_7 : decode cX2_init 7 = .ok (.newarray .int, 2) := by decide +kernel
theorem dX2_init_9 : decode cX2_init 9 = .ok (.putfield 9, 3) := by decide +kernel
theorem dX2_init_12 : decode cX2_init 12 = .ok (.aload_n 0, 1) := by decide +kernel
theorem dX2_init_13 : decode cX2_init 13 = .ok (.iconst (-1), 1) := by decide +kernel
theorem dX2_init_14 : decode cX2_init 14 = .ok (.putfield 15, 3) := by decide +kernel
theorem dX2_init_17 : decode cX2_init 17 = .ok (.aload_n 0, 1) := by decide +kernel
theorem dX2_init_18 : decode cX2_init 18 = .ok (.iconst 0, 1) := by decide +kernel
theorem dX2_init_19 : decode cX2_init 19 = .ok (.putfield 19, 3) := by decide +kernel
theorem dX2_init_22 : decode cX2_init 22 = .ok (.return_, 1) := by decide +kernel
theorem dX2_begin_0 : decode cX2_begin 0 = .ok (.aload_n 0, 1) := by decide +kernel
theorem dX2_begin_1 : decode cX2_begin 1 = .ok (.iload_n 1, 1) := by decide +kernel
theorem dX2_begin_2 : decode cX2_begin 2 = .ok (.putfield 15, 3) := by decide +kernel
theorem dX2_begin_5 : decode cX2_begin 5 = .ok (.aload_n 0, 1) := by decide +kernel
theorem dX2_begin_6 : decode cX2_begin 6 = .ok (.iload_n 2, 1) := by decide +kernel
theorem dX2_begin_7 : decode cX2_begin 7 = .ok (.putfield 19, 3) := by decide +kernel
theorem dX2_begin_10 : decode cX2_begin 10 = .ok (.aload_n 0, 1) := by decide +kernel
theorem dX2_begin_11 : decode cX2_begin 11 = .ok (.getfield 9, 3) := by decide +kernel
theorem dX2_begin_14 : decode cX2_begin 14 = .ok (.iconst 0, 1) := by decide +kernel
theorem dX2_begin_15 : decode cX2_begin 15 = .ok (.invokestatic 22, 3) := by decide +kernel
theorem dX2_begin_18 : decode cX2_begin 18 = .ok (.return_, 1) := by decide +kernel
theorem dX2_isMissing_0 : decode cX2_isMissing 0 = .ok (.aload_n 0, 1) := by decide +kernel
theorem dX2_isMissing_1 : decode cX2_isMissing 1 = .ok (.getfield 15, 3) := by decide +kernel
theorem dX2_isMissing_4 : decode cX2_isMissing 4 = .ok (.iconst (-1), 1) := by decide +kernel
theorem dX2_isMissing_5 : decode cX2_isMissing 5 = .ok (.if_icmp .ne 7, 3) := by decide +kernel
theorem dX2_isMissing_8 : decode cX2_isMissing 8 = .ok (.iconst 1, 1) := by decide +kernel
theorem dX2_isMissing_9 : decode cX2_isMissing 9 = .ok (.goto 4, 3) := by decide +kernel
theorem dX2_isMissing_12 : decode cX2_isMissing 12 = .ok (.iconst 0, 1) := by decide +kernel
theorem dX2_isMissing_13 : decode cX2_isMissing 13 = .ok (.ireturn, 1) := by decide +kernel
theorem dX2_holds_0 : decode cX2_holds 0 = .ok (.iload_n 1, 1) := by decide +kernel
theorem dX2_holds_1 : decode cX2_holds 1 = .ok (.ifCond .lt 15, 3) := by decide +kernel
theorem dX2_holds_4 : decode cX2_holds 4 = .ok (.iload_n 1, 1) := by decide +kernel
theorem dX2_holds_5 : decode cX2_holds 5 = .ok (.aload_n 0, 1) := by decide +kernel
theorem dX2_holds_6 : decode cX2_holds 6 = .ok (.getfield 19, 3) := by decide +kernel
theorem dX2_holds_9 : decode cX2_holds 9 = .ok (.if_icmp .ge 7, 3) := by decide +kernel
theorem dX2_holds_12 : decode cX2_holds 12 = .ok (.iconst 1, 1) := by decide +kernel
theorem dX2_holds_13 : decode cX2_holds 13 = .ok (.goto 4, 3) := by decide +kernel
theorem dX2_holds_16 : decode cX2_holds 16 = .ok (.iconst 0, 1) := by decide +kernel
theorem dX2_holds_17 : decode cX2_holds 17 = .ok (.ireturn, 1) := by decide +kernel
theorem dX2_holdsRow_0 : decode cX2_holdsRow 0 = .ok (.iload_n 1, 1) := by decide +kernel
theorem dX2_holdsRow_1 : decode cX2_holdsRow 1 = .ok (.ifCond .lt 29, 3) := by decide +kernel
theorem dX2_holdsRow_4 : decode cX2_holdsRow 4 = .ok (.iload_n 2, 1) := by decide +kernel
theorem dX2_holdsRow_5 : decode cX2_holdsRow 5 = .ok (.ifCond .lt 25, 3) := by decide +kernel
theorem dX2_holdsRow_8 : decode cX2_holdsRow 8 = .ok (.iload_n 1, 1) := by decide +kernel
theorem dX2_holdsRow_9 : decode cX2_holdsRow 9 = .ok (.aload_n 0, 1) := by decide +kernel
theorem dX2_holdsRow_10 : decode cX2_holdsRow 10 = .ok (.getfield 19, 3) := by decide +kernel
theorem dX2_holdsRow_13 : decode cX2_holdsRow 13 = .ok (.if_icmp .gt 17, 3) := by decide +kernel
theorem dX2_holdsRow_16 : decode cX2_holdsRow 16 = .ok (.iload_n 2, 1) := by decide +kernel
theorem dX2_holdsRow_17 : decode cX2_holdsRow 17 = .ok (.aload_n 0, 1) := by decide +kernel
theorem dX2_holdsRow_18 : decode cX2_holdsRow 18 = .ok (.getfield 19, 3) := by decide +kernel
theorem dX2_holdsRow_21 : decode cX2_holdsRow 21 = .ok (.iload_n 1, 1) := by decide +kernel
theorem dX2_holdsRow_22 : decode cX2_holdsRow 22 = .ok (.isub, 1) := by decide +kernel
theorem dX2_holdsRow_23 : decode cX2_holdsRow 23 = .ok (.if_icmp .gt 7, 3) := by decide +kernel
theorem dX2_holdsRow_26 : decode cX2_holdsRow 26 = .ok (.iconst 1, 1) := by decide +kernel
theorem dX2_holdsRow_27 : decode cX2_holdsRow 27 = .ok (.goto 4, 3) := by decide +kernel
theorem dX2_holdsRow_30 : decode cX2_holdsRow 30 = .ok (.iconst 0, 1) := by decide +kernel
theorem dX2_holdsRow_31 : decode cX2_holdsRow 31 = .ok (.ireturn, 1) := by decide +kernel
theorem dX2_write_0 : decode cX2_write 0 = .ok (.aload_n 0, 1) := by decide +kernel
theorem dX2_write_1 : decode cX2_write 1 = .ok (.getfield 9, 3) := by decide +kernel
theorem dX2_write_4 : decode cX2_write 4 = .ok (.iload_n 1, 1) := by decide +kernel
theorem dX2_write_5 : decode cX2_write 5 = .ok (.aload_n 0, 1) := by decide +kernel
theorem dX2_write_6 : decode cX2_write 6 = .ok (.getfield 15, 3) := by decide +kernel
theorem dX2_write_9 : decode cX2_write 9 = .ok (.ifCond .ne 8, 3) := by decide +kernel
theorem dX2_write_12 : decode cX2_write 12 = .ok (.iload_n 2, 1) := by decide +kernel
theorem dX2_write_13 : decode cX2_write 13 = .ok (.i2b, 1) := by decide +kernel
theorem dX2_write_14 : decode cX2_write 14 = .ok (.goto 17, 3) := by decide +kernel
theorem dX2_write_17 : decode cX2_write 17 = .ok (.aload_n 0, 1) := by decide +kernel
theorem dX2_write_18 : decode cX2_write 18 = .ok (.getfield 15, 3) := by decide +kernel
theorem dX2_write_21 : decode cX2_write 21 = .ok (.iconst 1, 1) := by decide +kernel
theorem dX2_write_22 : decode cX2_write 22 = .ok (.if_icmp .ne 8, 3) := by decide +kernel
theorem dX2_write_25 : decode cX2_write 25 = .ok (.iload_n 2, 1) := by decide +kernel
theorem dX2_write_26 : decode cX2_write 26 = .ok (.i2s, 1) := by decide +kernel
theorem dX2_write_27 : decode cX2_write 27 = .ok (.goto 4, 3) := by decide +kernel
theorem dX2_write_30 : decode cX2_write 30 = .ok (.iload_n 2, 1) := by decide +kernel
theorem dX2_write_31 : decode cX2_write 31 = .ok (.iastore, 1) := by decide +kernel
theorem dX2_write_32 : decode cX2_write 32 = .ok (.return_, 1) := by decide +kernel
theorem dX3_init_0 : decode cX3_init 0 = .ok (.aload_n 0, 1) := by decide +kernel
theorem dX3_init_1 : decode cX3_init 1 = .ok (.invokespecial 3, 3) := by decide +kernel
theorem dX3_init_4 : decode cX3_init 4 = .ok (.return_, 1) := by decide +kernel
theorem dX3_begin_0 : decode cX3_begin 0 = .ok (.aload_n 0, 1) := by decide +kernel
theorem dX3_begin_1 : decode cX3_begin 1 = .ok (.iload_n 1, 1) := by decide +kernel
theorem dX3_begin_2 : decode cX3_begin 2 = .ok (.putfield 9, 3) := by decide +kernel
theorem dX3_begin_5 : decode cX3_begin 5 = .ok (.aload_n 0, 1) := by decide +kernel
theorem dX3_begin_6 : decode cX3_begin 6 = .ok (.iload_n 1, 1) := by decide +kernel
theorem dX3_begin_7 : decode cX3_begin 7 = .ok (.invokestatic 15, 3) := by decide +kernel
theorem dX3_begin_10 : decode cX3_begin 10 = .ok (.ifCond .eq 11, 3) := by decide +kernel
theorem dX3_begin_13 : decode cX3_begin 13 = .ok (.getstatic 19, 3) := by decide +kernel
theorem dX3_begin_16 : decode cX3_begin 16 = .ok (.iload_n 1, 1) := by decide +kernel
theorem dX3_begin_17 : decode cX3_begin 17 = .ok (.iaload, 1) := by decide +kernel
theorem dX3_begin_18 : decode cX3_begin 18 = .ok (.goto 4, 3) := by decide +kernel
theorem dX3_begin_21 : decode cX3_begin 21 = .ok (.iconst 0, 1) := by decide +kernel
theorem dX3_begin_22 : decode cX3_begin 22 = .ok (.putfield 23, 3) := by decide +kernel
theorem dX3_begin_25 : decode cX3_begin 25 = .ok (.aload_n 0, 1) := by decide +kernel
theorem dX3_begin_26 : decode cX3_begin 26 = .ok (.iload_n 2, 1) := by decide +kernel
theorem dX3_begin_27 : decode cX3_begin 27 = .ok (.putfield 26, 3) := by decide +kernel
theorem dX3_begin_30 : decode cX3_begin 30 = .ok (.aload_n 0, 1) := by decide +kernel
theorem dX3_begin_31 : decode cX3_begin 31 = .ok (.iload_n 3, 1) := by decide +kernel
theorem dX3_begin_32 : decode cX3_begin 32 = .ok (.putfield 29, 3) := by decide +kernel
theorem dX3_begin_35 : decode cX3_begin 35 = .ok (.aload_n 0, 1) := by decide +kernel
theorem dX3_begin_36 : decode cX3_begin 36 = .ok (.iload 4, 2) := by decide +kernel
theorem dX3_begin_38 : decode cX3_begin 38 = .ok (.putfield 32, 3) := by decide +kernel
theorem dX3_begin_41 : decode cX3_begin 41 = .ok (.aload_n 0, 1) := by decide +kernel
theorem dX3_begin_42 : decode cX3_begin 42 = .ok (.iconst 1, 1) := by decide +kernel
theorem dX3_begin_43 : decode cX3_begin 43 = .ok (.putfield 35, 3) := by decide +kernel
theorem dX3_begin_46 : decode cX3_begin 46 = .ok (.aload_n 0, 1) := by decide +kernel
theorem dX3_begin_47 : decode cX3_begin 47 = .ok (.iconst 5, 1) := by decide +kernel
theorem dX3_begin_48 : decode cX3_begin 48 = .ok (.putfield 39, 3) := by decide +kernel
theorem dX3_begin_51 : decode cX3_begin 51 = .ok (.aload_n 0, 1) := by decide +kernel
theorem dX3_begin_52 : decode cX3_begin 52 = .ok (.iconst 0, 1) := by decide +kernel
theorem dX3_begin_53 : decode cX3_begin 53 = .ok (.putfield 42, 3) := by decide +kernel
theorem dX3_begin_56 : decode cX3_begin 56 = .ok (.return_, 1) := by decide +kernel
theorem dX3_isOf_0 : decode cX3_isOf 0 = .ok (.iload_n 1, 1) := by decide +kernel
theorem dX3_isOf_1 : decode cX3_isOf 1 = .ok (.aload_n 0, 1) := by decide +kernel
theorem dX3_isOf_2 : decode cX3_isOf 2 = .ok (.getfield 9, 3) := by decide +kernel
theorem dX3_isOf_5 : decode cX3_isOf 5 = .ok (.if_icmp .eq 15, 3) := by decide +kernel
theorem dX3_isOf_8 : decode cX3_isOf 8 = .ok (.iload_n 1, 1) := by decide +kernel
theorem dX3_isOf_9 : decode cX3_isOf 9 = .ok (.aload_n 0, 1) := by decide +kernel
theorem dX3_isOf_10 : decode cX3_isOf 10 = .ok (.getfield 23, 3) := by decide +kernel
theorem dX3_isOf_13 : decode cX3_isOf 13 = .ok (.if_icmp .eq 7, 3) := by decide +kernel
theorem dX3_isOf_16 : decode cX3_isOf 16 = .ok (.iload_n 1, 1) := by decide +kernel
theorem dX3_isOf_17 : decode cX3_isOf 17 = .ok (.ifCond .ne 7, 3) := by decide +kernel
theorem dX3_isOf_20 : decode cX3_isOf 20 = .ok (.iconst 1, 1) := by decide +kernel
theorem dX3_isOf_21 : decode cX3_isOf 21 = .ok (.goto 4, 3) := by decide +kernel
theorem dX3_isOf_24 : decode cX3_isOf 24 = .ok (.iconst 0, 1) := by decide +kernel
theorem dX3_isOf_25 : decode cX3_isOf 25 = .ok (.ireturn, 1) := by decide +kernel
theorem dX3_secondsIf_0 : decode cX3_secondsIf 0 = .ok (.aload_n 0, 1) := by decide +kernel
theorem dX3_secondsIf_1 : decode cX3_secondsIf 1 = .ok (.getfield 9, 3) := by decide +kernel
theorem dX3_secondsIf_4 : decode cX3_secondsIf 4 = .ok (.tableswitch 78 1 5 #[36, 78, 46, 56, 63], 36) := by decide +kernel
theorem dX3_secondsIf_40 : decode cX3_secondsIf 40 = .ok (.aload_n 0, 1) := by decide +kernel
theorem dX3_secondsIf_41 : decode cX3_secondsIf 41 = .ok (.getfield 29, 3) := by decide +kernel
theorem dX3_secondsIf_44 : decode cX3_secondsIf 44 = .ok (.iload_n 1, 1) := by decide +kernel
theorem dX3_secondsIf_45 : decode cX3_secondsIf 45 = .ok (.imul, 1) := by decide +kernel
theorem dX3_secondsIf_46 : decode cX3_secondsIf 46 = .ok (.bipush 10, 2) := by decide +kernel
theorem dX3_secondsIf_48 : decode cX3_secondsIf 48 = .ok (.idiv, 1) := by decide +kernel
theorem dX3_secondsIf_49 : decode cX3_secondsIf 49 = .ok (.ireturn, 1) := by decide +kernel
theorem dX3_secondsIf_50 : decode cX3_secondsIf 50 = .ok (.aload_n 0, 1) := by decide +kernel
theorem dX3_secondsIf_51 : decode cX3_secondsIf 51 = .ok (.getfield 29, 3) := by decide +kernel
theorem dX3_secondsIf_54 : decode cX3_secondsIf 54 = .ok (.aload_n 0, 1) := by decide +kernel
theorem dX3_secondsIf_55 : decode cX3_secondsIf 55 = .ok (.getfield 32, 3) := by decide +kernel
theorem dX3_secondsIf_58 : decode cX3_secondsIf 58 = .ok (.iadd, 1) := by decide +kernel
theorem dX3_secondsIf_59 : decode cX3_secondsIf 59 = .ok (.ireturn, 1) := by decide +kernel
theorem dX3_secondsIf_60 : decode cX3_secondsIf 60 = .ok (.aload_n 0, 1) := by decide +kernel
theorem dX3_secondsIf_61 : decode cX3_secondsIf 61 = .ok (.getfield 29, 3) := by decide +kernel
theorem dX3_secondsIf_64 : decode cX3_secondsIf 64 = .ok (.iconst 2, 1) := by decide +kernel
theorem dX3_secondsIf_65 : decode cX3_secondsIf 65 = .ok (.idiv, 1) := by decide +kernel
theorem dX3_secondsIf_66 : decode cX3_secondsIf 66 = .ok (.ireturn, 1) := by decide +kernel
theorem dX3_secondsIf_67 : decode cX3_secondsIf 67 = .ok (.aload_n 0, 1) := by decide +kernel
theorem dX3_secondsIf_68 : decode cX3_secondsIf 68 = .ok (.getfield 29, 3) := by decide +kernel
theorem dX3_secondsIf_71 : decode cX3_secondsIf 71 = .ok (.iload_n 1, 1) := by decide +kernel
theorem dX3_secondsIf_72 : decode cX3_secondsIf 72 = .ok (.imul, 1) := by decide +kernel
theorem dX3_secondsIf_73 : decode cX3_secondsIf 73 = .ok (.bipush 10, 2) := by decide +kernel
theorem dX3_secondsIf_75 : decode cX3_secondsIf 75 = .ok (.idiv, 1) := by decide +kernel
theorem dX3_secondsIf_76 : decode cX3_secondsIf 76 = .ok (.aload_n 0, 1) := by decide +kernel
theorem dX3_secondsIf_77 : decode cX3_secondsIf 77 = .ok (.getfield 32, 3) := by decide +kernel
theorem dX3_secondsIf_80 : decode cX3_secondsIf 80 = .ok (.iadd, 1) := by decide +kernel
theorem dX3_secondsIf_81 : decode cX3_secondsIf 81 = .ok (.ireturn, 1) := by decide +kernel
theorem dX3_secondsIf_82 : decode cX3_secondsIf 82 = .ok (.aload_n 0, 1) := by decide +kernel
theorem dX3_secondsIf_83 : decode cX3_secondsIf 83 = .ok (.getfield 29, 3) := by decide +kernel
theorem dX3_secondsIf_86 : decode cX3_secondsIf 86 = .ok (.ireturn, 1) := by decide +kernel
theorem dX3_secondsDrawn_0 : decode cX3_secondsDrawn 0 = .ok (.aload_n 0, 1) := by decide +kernel
theorem dX3_secondsDrawn_1 : decode cX3_secondsDrawn 1 = .ok (.iconst 1, 1) := by decide +kernel
theorem dX3_secondsDrawn_2 : decode cX3_secondsDrawn 2 = .ok (.invokevirtual 45, 3) := by decide +kernel
theorem dX3_secondsDrawn_5 : decode cX3_secondsDrawn 5 = .ok (.ifCond .ne 12, 3) := by decide +kernel
theorem dX3_secondsDrawn_8 : decode cX3_secondsDrawn 8 = .ok (.aload_n 0, 1) := by decide +kernel
theorem dX3_secondsDrawn_9 : decode cX3_secondsDrawn 9 = .ok (.aload_n 0, 1) := by decide +kernel
theorem dX3_secondsDrawn_10 : decode cX3_secondsDrawn 10 = .ok (.getfield 39, 3) := by decide +kernel
theorem dX3_secondsDrawn_13 : decode cX3_secondsDrawn 13 = .ok (.invokevirtual 48, 3) := by decide +kernel
theorem dX3_secondsDrawn_16 : decode cX3_secondsDrawn 16 = .ok (.ireturn, 1) := by decide +kernel
theorem dX3_secondsDrawn_17 : decode cX3_secondsDrawn 17 = .ok (.iload_n 1, 1) := by decide +kernel
theorem dX3_secondsDrawn_18 : decode cX3_secondsDrawn 18 = .ok (.aload_n 0, 1) := by decide +kernel
theorem dX3_secondsDrawn_19 : decode cX3_secondsDrawn 19 = .ok (.getfield 39, 3) := by decide +kernel
theorem dX3_secondsDrawn_22 : decode cX3_secondsDrawn 22 = .ok (.if_icmp .ge 12, 3) := by decide +kernel
theorem dX3_secondsDrawn_25 : decode cX3_secondsDrawn 25 = .ok (.aload_n 0, 1) := by decide +kernel
theorem dX3_secondsDrawn_26 : decode cX3_secondsDrawn 26 = .ok (.bipush 10, 2) := by decide +kernel
theorem dX3_secondsDrawn_28 : decode cX3_secondsDrawn 28 = .ok (.invokevirtual 48, 3) := by decide +kernel
theorem dX3_secondsDrawn_31 : decode cX3_secondsDrawn 31 = .ok (.goto 4, 3) := by decide +kernel
theorem dX3_secondsDrawn_34 : decode cX3_secondsDrawn 34 = .ok (.iconst 0, 1) := by decide +kernel
theorem dX3_secondsDrawn_35 : decode cX3_secondsDrawn 35 = .ok (.ireturn, 1) := by decide +kernel
theorem dX3_carsBy_0 : decode cX3_carsBy 0 = .ok (.aload_n 0, 1) := by decide +kernel
theorem dX3_carsBy_1 : decode cX3_carsBy 1 = .ok (.invokevirtual 52, 3) := by decide +kernel
theorem dX3_carsBy_4 : decode cX3_carsBy 4 = .ok (.iload_n 1, 1) := by decide +kernel
theorem dX3_carsBy_5 : decode cX3_carsBy 5 = .ok (.ifCond .ne 7, 3) := by decide +kernel
theorem dX3_carsBy_8 : decode cX3_carsBy 8 = .ok (.iconst 3, 1) := by decide +kernel
theorem dX3_carsBy_9 : decode cX3_carsBy 9 = .ok (.goto 4, 3) := by decide +kernel
theorem dX3_carsBy_12 : decode cX3_carsBy 12 = .ok (.iload_n 1, 1) := by decide +kernel
theorem dX3_carsBy_13 : decode cX3_carsBy 13 = .ok (.iand, 1) := by decide +kernel
theorem dX3_carsBy_14 : decode cX3_carsBy 14 = .ok (.ireturn, 1) := by decide +kernel
theorem dX3_carsServed_0 : decode cX3_carsServed 0 = .ok (.aload_n 0, 1) := by decide +kernel
theorem dX3_carsServed_1 : decode cX3_carsServed 1 = .ok (.iconst 2, 1) := by decide +kernel
theorem dX3_carsServed_2 : decode cX3_carsServed 2 = .ok (.invokevirtual 45, 3) := by decide +kernel
theorem dX3_carsServed_5 : decode cX3_carsServed 5 = .ok (.ifCond .ne 5, 3) := by decide +kernel
theorem dX3_carsServed_8 : decode cX3_carsServed 8 = .ok (.iconst 3, 1) := by decide +kernel
theorem dX3_carsServed_9 : decode cX3_carsServed 9 = .ok (.ireturn, 1) := by decide +kernel
theorem dX3_carsServed_10 : decode cX3_carsServed 10 = .ok (.aload_n 0, 1) := by decide +kernel
theorem dX3_carsServed_11 : decode cX3_carsServed 11 = .ok (.getfield 32, 3) := by decide +kernel
theorem dX3_carsServed_14 : decode cX3_carsServed 14 = .ok (.iconst 2, 1) := by decide +kernel
theorem dX3_carsServed_15 : decode cX3_carsServed 15 = .ok (.irem, 1) := by decide +kernel
theorem dX3_carsServed_16 : decode cX3_carsServed 16 = .ok (.ifCond .ne 7, 3) := by decide +kernel
theorem dX3_carsServed_19 : decode cX3_carsServed 19 = .ok (.iconst 1, 1) := by decide +kernel
theorem dX3_carsServed_20 : decode cX3_carsServed 20 = .ok (.goto 4, 3) := by decide +kernel
theorem dX3_carsServed_23 : decode cX3_carsServed 23 = .ok (.iconst 2, 1) := by decide +kernel
theorem dX3_carsServed_24 : decode cX3_carsServed 24 = .ok (.istore_n 1, 1) := by decide +kernel
theorem dX3_carsServed_25 : decode cX3_carsServed 25 = .ok (.aload_n 0, 1) := by decide +kernel
theorem dX3_carsServed_26 : decode cX3_carsServed 26 = .ok (.getfield 9, 3) := by decide +kernel
theorem dX3_carsServed_29 : decode cX3_carsServed 29 = .ok (.iconst 4, 1) := by decide +kernel
theorem dX3_carsServed_30 : decode cX3_carsServed 30 = .ok (.if_icmp .ne 9, 3) := by decide +kernel
theorem dX3_carsServed_33 : decode cX3_carsServed 33 = .ok (.iconst 3, 1) := by decide +kernel
theorem dX3_carsServed_34 : decode cX3_carsServed 34 = .ok (.iload_n 1, 1) := by decide +kernel
theorem dX3_carsServed_35 : decode cX3_carsServed 35 = .ok (.isub, 1) := by decide +kernel
theorem dX3_carsServed_36 : decode cX3_carsServed 36 = .ok (.goto 4, 3) := by decide +kernel
theorem dX3_carsServed_39 : decode cX3_carsServed 39 = .ok (.iload_n 1, 1) := by decide +kernel
theorem dX3_carsServed_40 : decode cX3_carsServed 40 = .ok (.ireturn, 1) := by decide +kernel
theorem dX4_init_0 : decode cX4_init 0 = .ok (.aload_n 0, 1) := by decide +kernel
theorem dX4_init_1 : decode cX4_init 1 = .ok (.invokespecial 3, 3) := by decide +kernel
theorem dX4_init_4 : decode cX4_init 4 = .ok (.aload_n 0, 1) := by decide +kernel
theorem dX4_init_5 : decode cX4_init 5 = .ok (.sipush 160, 3) := by decide +kernel
theorem dX4_init_8 : decode cX4_init 8 = .ok (.newarray .int, 2) := by decide +kernel
theorem dX4_init_10 : decode cX4_init 10 = .ok (.putfield 9, 3) := by decide +kernel
theorem dX4_init_13 : decode cX4_init 13 = .ok (.aload_n 0, 1) := by decide +kernel
theorem dX4_init_14 : decode cX4_init 14 = .ok (.iconst 0, 1) := by decide +kernel
theorem dX4_init_15 : decode cX4_init 15 = .ok (.putfield 15, 3) := by decide +kernel
theorem dX4_init_18 : decode cX4_init 18 = .ok (.aload_n 0, 1) := by decide +kernel
theorem dX4_init_19 : decode cX4_init 19 = .ok (.iconst 0, 1) := by decide +kernel
theorem dX4_init_20 : decode cX4_init 20 = .ok (.putfield 19, 3) := by decide +kernel
theorem dX4_init_23 : decode cX4_init 23 = .ok (.aload_n 0, 1) := by decide +kernel
theorem dX4_init_24 : decode cX4_init 24 = .ok (.iconst 0, 1) := by decide +kernel
theorem dX4_init_25 : decode cX4_init 25 = .ok (.putfield 22, 3) := by decide +kernel
theorem dX4_init_28 : decode cX4_init 28 = .ok (.aload_n 0, 1) := by decide +kernel
theorem dX4_init_29 : decode cX4_init 29 = .ok (.iconst 0, 1) := by decide +kernel
theorem dX4_init_30 : decode cX4_init 30 = .ok (.putfield 25, 3) := by decide +kernel
theorem dX4_init_33 : decode cX4_init 33 = .ok (.aload_n 0, 1) := by decide +kernel
theorem dX4_init_34 : decode cX4_init 34 = .ok (.iconst 0, 1) := by decide +kernel
theorem dX4_init_35 : decode cX4_init 35 = .ok (.putfield 28, 3) := by decide +kernel
theorem dX4_init_38 : decode cX4_init 38 = .ok (.return_, 1) := by decide +kernel
theorem dX4_append_0 : decode cX4_append 0 = .ok (.aload_n 0, 1) := by decide +kernel
theorem dX4_append_1 : decode cX4_append 1 = .ok (.getfield 15, 3) := by decide +kernel
theorem dX4_append_4 : decode cX4_append 4 = .ok (.sipush 160, 3) := by decide +kernel
theorem dX4_append_7 : decode cX4_append 7 = .ok (.if_icmp .ge 23, 3) := by decide +kernel
theorem dX4_append_10 : decode cX4_append 10 = .ok (.aload_n 0, 1) := by decide +kernel
theorem dX4_append_11 : decode cX4_append 11 = .ok (.getfield 9, 3) := by decide +kernel
theorem dX4_append_14 : decode cX4_append 14 = .ok (.aload_n 0, 1) := by decide +kernel
theorem dX4_append_15 : decode cX4_append 15 = .ok (.getfield 15, 3) := by decide +kernel
theorem dX4_append_18 : decode cX4_append 18 = .ok (.iload_n 1, 1) := by decide +kernel
theorem dX4_append_19 : decode cX4_append 19 = .ok (.iastore, 1) := by decide +kernel
theorem dX4_append_20 : decode cX4_append 20 = .ok (.aload_n 0, 1) := by decide +kernel
theorem dX4_append_21 : decode cX4_append 21 = .ok (.dup, 1) := by decide +kernel
theorem dX4_append_22 : decode cX4_append 22 = .ok (.getfield 15, 3) := by decide +kernel
theorem dX4_append_25 : decode cX4_append 25 = .ok (.iconst 1, 1) := by decide +kernel
theorem dX4_append_26 : decode cX4_append 26 = .ok (.iadd, 1) := by decide +kernel
theorem dX4_append_27 : decode cX4_append 27 = .ok (.putfield 15, 3) := by decide +kernel
theorem dX4_append_30 : decode cX4_append 30 = .ok (.return_, 1) := by decide +kernel
theorem dX4_rewind_0 : decode cX4_rewind 0 = .ok (.aload_n 0, 1) := by decide +kernel
theorem dX4_rewind_1 : decode cX4_rewind 1 = .ok (.iconst 0, 1) := by decide +kernel
theorem dX4_rewind_2 : decode cX4_rewind 2 = .ok (.putfield 25, 3) := by decide +kernel
theorem dX4_rewind_5 : decode cX4_rewind 5 = .ok (.aload_n 0, 1) := by decide +kernel
theorem dX4_rewind_6 : decode cX4_rewind 6 = .ok (.invokevirtual 31, 3) := by decide +kernel
theorem dX4_rewind_9 : decode cX4_rewind 9 = .ok (.return_, 1) := by decide +kernel
theorem dX4_advance_0 : decode cX4_advance 0 = .ok (.aload_n 0, 1) := by decide +kernel
theorem dX4_advance_1 : decode cX4_advance 1 = .ok (.getfield 25, 3) := by decide +kernel
theorem dX4_advance_4 : decode cX4_advance 4 = .ok (.aload_n 0, 1) := by decide +kernel
theorem dX4_advance_5 : decode cX4_advance 5 = .ok (.getfield 15, 3) := by decide +kernel
theorem dX4_advance_8 : decode cX4_advance 8 = .ok (.if_icmp .ge 31, 3) := by decide +kernel
theorem dX4_advance_11 : decode cX4_advance 11 = .ok (.aload_n 0, 1) := by decide +kernel
theorem dX4_advance_12 : decode cX4_advance 12 = .ok (.getfield 9, 3) := by decide +kernel
theorem dX4_advance_15 : decode cX4_advance 15 = .ok (.aload_n 0, 1) := by decide +kernel
theorem dX4_advance_16 : decode cX4_advance 16 = .ok (.getfield 25, 3) := by decide +kernel
theorem dX4_advance_19 : decode cX4_advance 19 = .ok (.iaload, 1) := by decide +kernel
theorem dX4_advance_20 : decode cX4_advance 20 = .ok (.invokestatic 34, 3) := by decide +kernel
theorem dX4_advance_23 : decode cX4_advance 23 = .ok (.ifCond .eq 16, 3) := by decide +kernel
theorem dX4_advance_26 : decode cX4_advance 26 = .ok (.aload_n 0, 1) := by decide +kernel
theorem dX4_advance_27 : decode cX4_advance 27 = .ok (.dup, 1) := by decide +kernel
theorem dX4_advance_28 : decode cX4_advance 28 = .ok (.getfield 25, 3) := by decide +kernel
theorem dX4_advance_31 : decode cX4_advance 31 = .ok (.iconst 1, 1) := by decide +kernel
theorem dX4_advance_32 : decode cX4_advance 32 = .ok (.iadd, 1) := by decide +kernel
theorem dX4_advance_33 : decode cX4_advance 33 = .ok (.putfield 25, 3) := by decide +kernel
theorem dX4_advance_36 : decode cX4_advance 36 = .ok (.goto (-36), 3) := by decide +kernel
theorem dX4_advance_39 : decode cX4_advance 39 = .ok (.aload_n 0, 1) := by decide +kernel
theorem dX4_advance_40 : decode cX4_advance 40 = .ok (.aload_n 0, 1) := by decide +kernel
theorem dX4_advance_41 : decode cX4_advance 41 = .ok (.getfield 25, 3) := by decide +kernel
theorem dX4_advance_44 : decode cX4_advance 44 = .ok (.putfield 22, 3) := by decide +kernel
theorem dX4_advance_47 : decode cX4_advance 47 = .ok (.aload_n 0, 1) := by decide +kernel
theorem dX4_advance_48 : decode cX4_advance 48 = .ok (.getfield 22, 3) := by decide +kernel
theorem dX4_advance_51 : decode cX4_advance 51 = .ok (.aload_n 0, 1) := by decide +kernel
theorem dX4_advance_52 : decode cX4_advance 52 = .ok (.getfield 15, 3) := by decide +kernel
theorem dX4_advance_55 : decode cX4_advance 55 = .ok (.if_icmp .lt 11, 3) := by decide +kernel
theorem dX4_advance_58 : decode cX4_advance 58 = .ok (.aload_n 0, 1) := by decide +kernel
theorem dX4_advance_59 : decode cX4_advance 59 = .ok (.iconst 0, 1) := by decide +kernel
theorem dX4_advance_60 : decode cX4_advance 60 = .ok (.putfield 19, 3) := by decide +kernel
theorem dX4_advance_63 : decode cX4_advance 63 = .ok (.goto 92, 3) := by decide +kernel
theorem dX4_advance_66 : decode cX4_advance 66 = .ok (.aload_n 0, 1) := by decide +kernel
theorem dX4_advance_67 : decode cX4_advance 67 = .ok (.getfield 9, 3) := by decide +kernel
theorem dX4_advance_70 : decode cX4_advance 70 = .ok (.aload_n 0, 1) := by decide +kernel
theorem dX4_advance_71 : decode cX4_advance 71 = .ok (.getfield 22, 3) := by decide +kernel
theorem dX4_advance_74 : decode cX4_advance 74 = .ok (.iaload, 1) := by decide +kernel
theorem dX4_advance_75 : decode cX4_advance 75 = .ok (.invokestatic 38, 3) := by decide +kernel
theorem dX4_advance_78 : decode cX4_advance 78 = .ok (.ifCond .eq 10, 3) := by decide +kernel
theorem dX4_advance_81 : decode cX4_advance 81 = .ok (.aload_n 0, 1) := by decide +kernel
theorem dX4_advance_82 : decode cX4_advance 82 = .ok (.invokevirtual 41, 3) := by decide +kernel
theorem dX4_advance_85 : decode cX4_advance 85 = .ok (.goto 70, 3) := by decide +kernel
theorem dX4_advance_88 : decode cX4_advance 88 = .ok (.aload_n 0, 1) := by decide +kernel
theorem dX4_advance_89 : decode cX4_advance 89 = .ok (.getfield 9, 3) := by decide +kernel
theorem dX4_advance_92 : decode cX4_advance 92 = .ok (.aload_n 0, 1) := by decide +kernel
theorem dX4_advance_93 : decode cX4_advance 93 = .ok (.getfield 22, 3) := by decide +kernel
theorem dX4_advance_96 : decode cX4_advance 96 = .ok (.iaload, 1) := by decide +kernel
theorem dX4_advance_97 : decode cX4_advance 97 = .ok (.invokestatic 44, 3) := by decide +kernel
theorem dX4_advance_100 : decode cX4_advance 100 = .ok (.ifCond .eq 10, 3) := by decide +kernel
theorem dX4_advance_103 : decode cX4_advance 103 = .ok (.aload_n 0, 1) := by decide +kernel
theorem dX4_advance_104 : decode cX4_advance 104 = .ok (.invokevirtual 47, 3) := by decide +kernel
theorem dX4_advance_107 : decode cX4_advance 107 = .ok (.goto 48, 3) := by decide +kernel
theorem dX4_advance_110 : decode cX4_advance 110 = .ok (.aload_n 0, 1) := by decide +kernel
theorem dX4_advance_111 : decode cX4_advance 111 = .ok (.ldc 50, 2) := by decide +kernel
theorem dX4_advance_113 : decode cX4_advance 113 = .ok (.aload_n 0, 1) := by decide +kernel
theorem dX4_advance_114 : decode cX4_advance 114 = .ok (.getfield 9, 3) := by decide +kernel
theorem dX4_advance_117 : decode cX4_advance 117 = .ok (.aload_n 0, 1) := by decide +kernel
theorem dX4_advance_118 : decode cX4_advance 118 = .ok (.getfield 22, 3) := by decide +kernel
theorem dX4_advance_121 : decode cX4_advance 121 = .ok (.iaload, 1) := by decide +kernel
theorem dX4_advance_122 : decode cX4_advance 122 = .ok (.i2c, 1) := by decide +kernel
theorem dX4_advance_123 : decode cX4_advance 123 = .ok (.invokevirtual 52, 3) := by decide +kernel
theorem dX4_advance_126 : decode cX4_advance 126 = .ok (.ifCond .lt 15, 3) := by decide +kernel
theorem dX4_advance_129 : decode cX4_advance 129 = .ok (.aload_n 0, 1) := by decide +kernel
theorem dX4_advance_130 : decode cX4_advance 130 = .ok (.getfield 9, 3) := by decide +kernel
theorem dX4_advance_133 : decode cX4_advance 133 = .ok (.aload_n 0, 1) := by decide +kernel
theorem dX4_advance_134 : decode cX4_advance 134 = .ok (.getfield 22, 3) := by decide +kernel
theorem dX4_advance_137 : decode cX4_advance 137 = .ok (.iaload, 1) := by decide +kernel
theorem dX4_advance_138 : decode cX4_advance 138 = .ok (.goto 4, 3) := by decide +kernel
theorem dX4_advance_141 : decode cX4_advance 141 = .ok (.iconst 1, 1) := by decide +kernel
theorem dX4_advance_142 : decode cX4_advance 142 = .ok (.putfield 19, 3) := by decide +kernel
theorem dX4_advance_145 : decode cX4_advance 145 = .ok (.aload_n 0, 1) := by decide +kernel
theorem dX4_advance_146 : decode cX4_advance 146 = .ok (.dup, 1) := by decide +kernel
theorem dX4_advance_147 : decode cX4_advance 147 = .ok (.getfield 25, 3) := by decide +kernel
theorem dX4_advance_150 : decode cX4_advance 150 = .ok (.iconst 1, 1) := by decide +kernel
theorem dX4_advance_151 : decode cX4_advance 151 = .ok (.iadd, 1) := by decide +kernel
theorem dX4_advance_152 : decode cX4_advance 152 = .ok (.putfield 25, 3) := by decide +kernel
theorem dX4_advance_155 : decode cX4_advance 155 = .ok (.return_, 1) := by decide +kernel
theorem dX4_readWord_0 : decode cX4_readWord 0 = .ok (.aload_n 0, 1) := by decide +kernel
theorem dX4_readWord_1 : decode cX4_readWord 1 = .ok (.getfield 25, 3) := by decide +kernel
theorem dX4_readWord_4 : decode cX4_readWord 4 = .ok (.aload_n 0, 1) := by decide +kernel
theorem dX4_readWord_5 : decode cX4_readWord 5 = .ok (.getfield 15, 3) := by decide +kernel
theorem dX4_readWord_8 : decode cX4_readWord 8 = .ok (.if_icmp .ge 31, 3) := by decide +kernel
theorem dX4_readWord_11 : decode cX4_readWord 11 = .ok (.aload_n 0, 1) := by decide +kernel
theorem dX4_readWord_12 : decode cX4_readWord 12 = .ok (.getfield 9, 3) := by decide +kernel
theorem dX4_readWord_15 : decode cX4_readWord 15 = .ok (.aload_n 0, 1) := by decide +kernel
theorem dX4_readWord_16 : decode cX4_readWord 16 = .ok (.getfield 25, 3) := by decide +kernel
theorem dX4_readWord_19 : decode cX4_readWord 19 = .ok (.iaload, 1) := by decide +kernel
theorem dX4_readWord_20 : decode cX4_readWord 20 = .ok (.invokestatic 38, 3) := by decide +kernel
theorem dX4_readWord_23 : decode cX4_readWord 23 = .ok (.ifCond .eq 16, 3) := by decide +kernel
theorem dX4_readWord_26 : decode cX4_readWord 26 = .ok (.aload_n 0, 1) := by decide +kernel
theorem dX4_readWord_27 : decode cX4_readWord 27 = .ok (.dup, 1) := by decide +kernel
theorem dX4_readWord_28 : decode cX4_readWord 28 = .ok (.getfield 25, 3) := by decide +kernel
theorem dX4_readWord_31 : decode cX4_readWord 31 = .ok (.iconst 1, 1) := by decide +kernel
theorem dX4_readWord_32 : decode cX4_readWord 32 = .ok (.iadd, 1) := by decide +kernel
theorem dX4_readWord_33 : decode cX4_readWord 33 = .ok (.putfield 25, 3) := by decide +kernel
theorem dX4_readWord_36 : decode cX4_readWord 36 = .ok (.goto (-36), 3) := by decide +kernel
theorem dX4_readWord_39 : decode cX4_readWord 39 = .ok (.aload_n 0, 1) := by decide +kernel
theorem dX4_readWord_40 : decode cX4_readWord 40 = .ok (.ldc 58, 2) := by decide +kernel
theorem dX4_readWord_42 : decode cX4_readWord 42 = .ok (.invokevirtual 60, 3) := by decide +kernel
theorem dX4_readWord_45 : decode cX4_readWord 45 = .ok (.ifCond .eq 7, 3) := by decide +kernel
theorem dX4_readWord_48 : decode cX4_readWord 48 = .ok (.iconst 4, 1) := by decide +kernel
theorem dX4_readWord_49 : decode cX4_readWord 49 = .ok (.goto 157, 3) := by decide +kernel
theorem dX4_readWord_52 : decode cX4_readWord 52 = .ok (.aload_n 0, 1) := by decide +kernel
theorem dX4_readWord_53 : decode cX4_readWord 53 = .ok (.ldc 64, 2) := by decide +kernel
theorem dX4_readWord_55 : decode cX4_readWord 55 = .ok (.invokevirtual 60, 3) := by decide +kernel
theorem dX4_readWord_58 : decode cX4_readWord 58 = .ok (.ifCond .eq 7, 3) := by decide +kernel
theorem dX4_readWord_61 : decode cX4_readWord 61 = .ok (.iconst 5, 1) := by decide +kernel
theorem dX4_readWord_62 : decode cX4_readWord 62 = .ok (.goto 144, 3) := by decide +kernel
theorem dX4_readWord_65 : decode cX4_readWord 65 = .ok (.aload_n 0, 1) := by decide +kernel
theorem dX4_readWord_66 : decode cX4_readWord 66 = .ok (.ldc 66, 2) := by decide +kernel
theorem dX4_readWord_68 : decode cX4_readWord 68 = .ok (.invokevirtual 60, 3) := by decide +kernel
theorem dX4_readWord_71 : decode cX4_readWord 71 = .ok (.ifCond .eq 8, 3) := by decide +kernel
theorem dX4_readWord_74 : decode cX4_readWord 74 = .ok (.bipush 6, 2) := by decide +kernel
theorem dX4_readWord_76 : decode cX4_readWord 76 = .ok (.goto 130, 3) := by decide +kernel
theorem dX4_readWord_79 : decode cX4_readWord 79 = .ok (.aload_n 0, 1) := by decide +kernel
theorem dX4_readWord_80 : decode cX4_readWord 80 = .ok (.ldc 68, 2) := by decide +kernel
theorem dX4_readWord_82 : decode cX4_readWord 82 = .ok (.invokevirtual 60, 3) := by decide +kernel
theorem dX4_readWord_85 : decode cX4_readWord 85 = .ok (.ifCond .eq 8, 3) := by decide +kernel
theorem dX4_readWord_88 : decode cX4_readWord 88 = .ok (.bipush 7, 2) := by decide +kernel
theorem dX4_readWord_90 : decode cX4_readWord 90 = .ok (.goto 116, 3) := by decide +kernel
theorem dX4_readWord_93 : decode cX4_readWord 93 = .ok (.aload_n 0, 1) := by decide +kernel
theorem dX4_readWord_94 : decode cX4_readWord 94 = .ok (.ldc 70, 2) := by decide +kernel
theorem dX4_readWord_96 : decode cX4_readWord 96 = .ok (.invokevirtual 60, 3) := by decide +kernel
theorem dX4_readWord_99 : decode cX4_readWord 99 = .ok (.ifCond .eq 8, 3) := by decide +kernel
theorem dX4_readWord_102 : decode cX4_readWord 102 = .ok (.bipush 8, 2) := by decide +kernel
theorem dX4_readWord_104 : decode cX4_readWord 104 = .ok (.goto 102, 3) := by decide +kernel
theorem dX4_readWord_107 : decode cX4_readWord 107 = .ok (.aload_n 0, 1) := by decide +kernel
theorem dX4_readWord_108 : decode cX4_readWord 108 = .ok (.ldc 72, 2) := by decide +kernel
theorem dX4_readWord_110 : decode cX4_readWord 110 = .ok (.invokevirtual 60, 3) := by decide +kernel
theorem dX4_readWord_113 : decode cX4_readWord 113 = .ok (.ifCond .eq 8, 3) := by decide +kernel
theorem dX4_readWord_116 : decode cX4_readWord 116 = .ok (.bipush 9, 2) := by decide +kernel
theorem dX4_readWord_118 : decode cX4_readWord 118 = .ok (.goto 88, 3) := by decide +kernel
theorem dX4_readWord_121 : decode cX4_readWord 121 = .ok (.aload_n 0, 1) := by decide +kernel
theorem dX4_readWord_122 : decode cX4_readWord 122 = .ok (.ldc 74, 2) := by decide +kernel
theorem dX4_readWord_124 : decode cX4_readWord 124 = .ok (.invokevirtual 60, 3) := by decide +kernel
theorem dX4_readWord_127 : decode cX4_readWord 127 = .ok (.ifCond .eq 8, 3) := by decide +kernel
theorem dX4_readWord_130 : decode cX4_readWord 130 = .ok (.bipush 11, 2) := by decide +kernel
theorem dX4_readWord_132 : decode cX4_readWord 132 = .ok (.goto 74, 3) := by decide +kernel
theorem dX4_readWord_135 : decode cX4_readWord 135 = .ok (.aload_n 0, 1) := by decide +kernel
theorem dX4_readWord_136 : decode cX4_readWord 136 = .ok (.ldc 76, 2) := by decide +kernel
theorem dX4_readWord_138 : decode cX4_readWord 138 = .ok (.invokevirtual 60, 3) := by decide +kernel
theorem dX4_readWord_141 : decode cX4_readWord 141 = .ok (.ifCond .eq 8, 3) := by decide +kernel
theorem dX4_readWord_144 : decode cX4_readWord 144 = .ok (.bipush 12, 2) := by decide +kernel
theorem dX4_readWord_146 : decode cX4_readWord 146 = .ok (.goto 60, 3) := by decide +kernel
theorem dX4_readWord_149 : decode cX4_readWord 149 = .ok (.aload_n 0, 1) := by decide +kernel
theorem dX4_readWord_150 : decode cX4_readWord 150 = .ok (.ldc 78, 2) := by decide +kernel
theorem dX4_readWord_152 : decode cX4_readWord 152 = .ok (.invokevirtual 60, 3) := by decide +kernel
theorem dX4_readWord_155 : decode cX4_readWord 155 = .ok (.ifCond .eq 8, 3) := by decide +kernel
theorem dX4_readWord_158 : decode cX4_readWord 158 = .ok (.bipush 13, 2) := by decide +kernel
theorem dX4_readWord_160 : decode cX4_readWord 160 = .ok (.goto 46, 3) := by decide +kernel
theorem dX4_readWord_163 : decode cX4_readWord 163 = .ok (.aload_n 0, 1) := by decide +kernel
theorem dX4_readWord_164 : decode cX4_readWord 164 = .ok (.ldc 80, 2) := by decide +kernel
theorem dX4_readWord_166 : decode cX4_readWord 166 = .ok (.invokevirtual 60, 3) := by decide +kernel
theorem dX4_readWord_169 : decode cX4_readWord 169 = .ok (.ifCond .eq 8, 3) := by decide +kernel
theorem dX4_readWord_172 : decode cX4_readWord 172 = .ok (.bipush 14, 2) := by decide +kernel
theorem dX4_readWord_174 : decode cX4_readWord 174 = .ok (.goto 32, 3) := by decide +kernel
theorem dX4_readWord_177 : decode cX4_readWord 177 = .ok (.aload_n 0, 1) := by decide +kernel
theorem dX4_readWord_178 : decode cX4_readWord 178 = .ok (.ldc 82, 2) := by decide +kernel
theorem dX4_readWord_180 : decode cX4_readWord 180 = .ok (.invokevirtual 60, 3) := by decide +kernel
theorem dX4_readWord_183 : decode cX4_readWord 183 = .ok (.ifCond .eq 8, 3) := by decide +kernel
theorem dX4_readWord_186 : decode cX4_readWord 186 = .ok (.bipush 15, 2) := by decide +kernel
theorem dX4_readWord_188 : decode cX4_readWord 188 = .ok (.goto 18, 3) := by decide +kernel
theorem dX4_readWord_191 : decode cX4_readWord 191 = .ok (.aload_n 0, 1) := by decide +kernel
theorem dX4_readWord_192 : decode cX4_readWord 192 = .ok (.ldc 84, 2) := by decide +kernel
theorem dX4_readWord_194 : decode cX4_readWord 194 = .ok (.invokevirtual 60, 3) := by decide +kernel
theorem dX4_readWord_197 : decode cX4_readWord 197 = .ok (.ifCond .eq 8, 3) := by decide +kernel
theorem dX4_readWord_200 : decode cX4_readWord 200 = .ok (.bipush 16, 2) := by decide +kernel
theorem dX4_readWord_202 : decode cX4_readWord 202 = .ok (.goto 4, 3) := by decide +kernel
theorem dX4_readWord_205 : decode cX4_readWord 205 = .ok (.iconst 1, 1) := by decide +kernel
theorem dX4_readWord_206 : decode cX4_readWord 206 = .ok (.istore_n 1, 1) := by decide +kernel
theorem dX4_readWord_207 : decode cX4_readWord 207 = .ok (.aload_n 0, 1) := by decide +kernel
theorem dX4_readWord_208 : decode cX4_readWord 208 = .ok (.iload_n 1, 1) := by decide +kernel
theorem dX4_readWord_209 : decode cX4_readWord 209 = .ok (.bipush 11, 2) := by decide +kernel
theorem dX4_readWord_211 : decode cX4_readWord 211 = .ok (.if_icmp .lt 7, 3) := by decide +kernel
theorem dX4_readWord_214 : decode cX4_readWord 214 = .ok (.iconst 3, 1) := by decide +kernel
theorem dX4_readWord_215 : decode cX4_readWord 215 = .ok (.goto 4, 3) := by decide +kernel
theorem dX4_readWord_218 : decode cX4_readWord 218 = .ok (.iload_n 1, 1) := by decide +kernel
theorem dX4_readWord_219 : decode cX4_readWord 219 = .ok (.putfield 19, 3) := by decide +kernel
theorem dX4_readWord_222 : decode cX4_readWord 222 = .ok (.aload_n 0, 1) := by decide +kernel
theorem dX4_readWord_223 : decode cX4_readWord 223 = .ok (.iload_n 1, 1) := by decide +kernel
theorem dX4_readWord_224 : decode cX4_readWord 224 = .ok (.bipush 11, 2) := by decide +kernel
theorem dX4_readWord_226 : decode cX4_readWord 226 = .ok (.isub, 1) := by decide +kernel
theorem dX4_readWord_227 : decode cX4_readWord 227 = .ok (.putfield 28, 3) := by decide +kernel
theorem dX4_readWord_230 : decode cX4_readWord 230 = .ok (.return_, 1) := by decide +kernel
theorem dX4_readNumber_0 : decode cX4_readNumber 0 = .ok (.aload_n 0, 1) := by decide +kernel
theorem dX4_readNumber_1 : decode cX4_readNumber 1 = .ok (.iconst 0, 1) := by decide +kernel
theorem dX4_readNumber_2 : decode cX4_readNumber 2 = .ok (.putfield 28, 3) := by decide +kernel
theorem dX4_readNumber_5 : decode cX4_readNumber 5 = .ok (.aload_n 0, 1) := by decide +kernel
theorem dX4_readNumber_6 : decode cX4_readNumber 6 = .ok (.getfield 25, 3) := by decide +kernel
theorem dX4_readNumber_9 : decode cX4_readNumber 9 = .ok (.aload_n 0, 1) := by decide +kernel
theorem dX4_readNumber_10 : decode cX4_readNumber 10 = .ok (.getfield 15, 3) := by decide +kernel
theorem dX4_readNumber_13 : decode cX4_readNumber 13 = .ok (.if_icmp .ge 75, 3) := by decide +kernel
theorem dX4_readNumber_16 : decode cX4_readNumber 16 = .ok (.aload_n 0, 1) := by decide +kernel
theorem dX4_readNumber_17 : decode cX4_readNumber 17 = .ok (.getfield 9, 3) := by decide +kernel
theorem dX4_readNumber_20 : decode cX4_readNumber 20 = .ok (.aload_n 0, 1) := by decide +kernel
theorem dX4_readNumber_21 : decode cX4_readNumber 21 = .ok (.getfield 25, 3) := by decide +kernel
theorem dX4_readNumber_24 : decode cX4_readNumber 24 = .ok (.iaload, 1) := by decide +kernel
theorem dX4_readNumber_25 : decode cX4_readNumber 25 = .ok (.invokestatic 44, 3) := by decide +kernel
theorem dX4_readNumber_28 : decode cX4_readNumber 28 = .ok (.ifCond .eq 60, 3) := by decide +kernel
theorem dX4_readNumber_31 : decode cX4_readNumber 31 = .ok (.aload_n 0, 1) := by decide +kernel
theorem dX4_readNumber_32 : decode cX4_readNumber 32 = .ok (.aload_n 0, 1) := by decide +kernel
theorem dX4_readNumber_33 : decode cX4_readNumber 33 = .ok (.getfield 25, 3) := by decide +kernel
theorem dX4_readNumber_36 : decode cX4_readNumber 36 = .ok (.aload_n 0, 1) := by decide +kernel
theorem dX4_readNumber_37 : decode cX4_readNumber 37 = .ok (.getfield 22, 3) := by decide +kernel
theorem dX4_readNumber_40 : decode cX4_readNumber 40 = .ok (.isub, 1) := by decide +kernel
theorem dX4_readNumber_41 : decode cX4_readNumber 41 = .ok (.iconst 4, 1) := by decide +kernel
theorem dX4_readNumber_42 : decode cX4_readNumber 42 = .ok (.if_icmp .ge 26, 3) := by decide +kernel
theorem dX4_readNumber_45 : decode cX4_readNumber 45 = .ok (.aload_n 0, 1) := by decide +kernel
theorem dX4_readNumber_46 : decode cX4_readNumber 46 = .ok (.getfield 28, 3) := by decide +kernel
theorem dX4_readNumber_49 : decode cX4_readNumber 49 = .ok (.bipush 10, 2) := by decide +kernel
theorem dX4_readNumber_51 : decode cX4_readNumber 51 = .ok (.imul, 1) := by decide +kernel
theorem dX4_readNumber_52 : decode cX4_readNumber 52 = .ok (.aload_n 0, 1) := by decide +kernel
theorem dX4_readNumber_53 : decode cX4_readNumber 53 = .ok (.getfield 9, 3) := by decide +kernel
theorem dX4_readNumber_56 : decode cX4_readNumber 56 = .ok (.aload_n 0, 1) := by decide +kernel
theorem dX4_readNumber_57 : decode cX4_readNumber 57 = .ok (.getfield 25, 3) := by decide +kernel
theorem dX4_readNumber_60 : decode cX4_readNumber 60 = .ok (.iaload, 1) := by decide +kernel
theorem dX4_readNumber_61 : decode cX4_readNumber 61 = .ok (.iadd, 1) := by decide +kernel
theorem dX4_readNumber_62 : decode cX4_readNumber 62 = .ok (.bipush 48, 2) := by decide +kernel
theorem dX4_readNumber_64 : decode cX4_readNumber 64 = .ok (.isub, 1) := by decide +kernel
theorem dX4_readNumber_65 : decode cX4_readNumber 65 = .ok (.goto 7, 3) := by decide +kernel
theorem dX4_readNumber_68 : decode cX4_readNumber 68 = .ok (.aload_n 0, 1) := by decide +kernel
theorem dX4_readNumber_69 : decode cX4_readNumber 69 = .ok (.getfield 28, 3) := by decide +kernel
theorem dX4_readNumber_72 : decode cX4_readNumber 72 = .ok (.putfield 28, 3) := by decide +kernel
theorem dX4_readNumber_75 : decode cX4_readNumber 75 = .ok (.aload_n 0, 1) := by decide +kernel
theorem dX4_readNumber_76 : decode cX4_readNumber 76 = .ok (.dup, 1) := by decide +kernel
theorem dX4_readNumber_77 : decode cX4_readNumber 77 = .ok (.getfield 25, 3) := by decide +kernel
theorem dX4_readNumber_80 : decode cX4_readNumber 80 = .ok (.iconst 1, 1) := by decide +kernel
theorem dX4_readNumber_81 : decode cX4_readNumber 81 = .ok (.iadd, 1) := by decide +kernel
theorem dX4_readNumber_82 : decode cX4_readNumber 82 = .ok (.putfield 25, 3) := by decide +kernel
theorem dX4_readNumber_85 : decode cX4_readNumber 85 = .ok (.goto (-80), 3) := by decide +kernel
theorem dX4_readNumber_88 : decode cX4_readNumber 88 = .ok (.aload_n 0, 1) := by decide +kernel
theorem dX4_readNumber_89 : decode cX4_readNumber 89 = .ok (.aload_n 0, 1) := by decide +kernel
theorem dX4_readNumber_90 : decode cX4_readNumber 90 = .ok (.getfield 25, 3) := by decide +kernel
theorem dX4_readNumber_93 : decode cX4_readNumber 93 = .ok (.aload_n 0, 1) := by decide +kernel
theorem dX4_readNumber_94 : decode cX4_readNumber 94 = .ok (.getfield 22, 3) := by decide +kernel
theorem dX4_readNumber_97 : decode cX4_readNumber 97 = .ok (.isub, 1) := by decide +kernel
theorem dX4_readNumber_98 : decode cX4_readNumber 98 = .ok (.iconst 4, 1) := by decide +kernel
theorem dX4_readNumber_99 : decode cX4_readNumber 99 = .ok (.if_icmp .le 7, 3) := by decide +kernel
theorem dX4_readNumber_102 : decode cX4_readNumber 102 = .ok (.iconst 1, 1) := by decide +kernel
theorem dX4_readNumber_103 : decode cX4_readNumber 103 = .ok (.goto 4, 3) := by decide +kernel
theorem dX4_readNumber_106 : decode cX4_readNumber 106 = .ok (.iconst 2, 1) := by decide +kernel
theorem dX4_readNumber_107 : decode cX4_readNumber 107 = .ok (.putfield 19, 3) := by decide +kernel
theorem dX4_readNumber_110 : decode cX4_readNumber 110 = .ok (.return_, 1) := by decide +kernel
theorem dX4_isWord_0 : decode cX4_isWord 0 = .ok (.aload_n 0, 1) := by decide +kernel
theorem dX4_isWord_1 : decode cX4_isWord 1 = .ok (.getfield 25, 3) := by decide +kernel
theorem dX4_isWord_4 : decode cX4_isWord 4 = .ok (.aload_n 0, 1) := by decide +kernel
theorem dX4_isWord_5 : decode cX4_isWord 5 = .ok (.getfield 22, 3) := by decide +kernel
theorem dX4_isWord_8 : decode cX4_isWord 8 = .ok (.isub, 1) := by decide +kernel
theorem dX4_isWord_9 : decode cX4_isWord 9 = .ok (.aload_n 1, 1) := by decide +kernel
theorem dX4_isWord_10 : decode cX4_isWord 10 = .ok (.invokevirtual 86, 3) := by decide +kernel
theorem dX4_isWord_13 : decode cX4_isWord 13 = .ok (.if_icmp .eq 5, 3) := by decide +kernel
theorem dX4_isWord_16 : decode cX4_isWord 16 = .ok (.iconst 0, 1) := by decide +kernel
theorem dX4_isWord_17 : decode cX4_isWord 17 = .ok (.ireturn, 1) := by decide +kernel
theorem dX4_isWord_18 : decode cX4_isWord 18 = .ok (.iconst 0, 1) := by decide +kernel
theorem dX4_isWord_19 : decode cX4_isWord 19 = .ok (.istore_n 2, 1) := by decide +kernel
theorem dX4_isWord_20 : decode cX4_isWord 20 = .ok (.iload_n 2, 1) := by decide +kernel
theorem dX4_isWord_21 : decode cX4_isWord 21 = .ok (.aload_n 1, 1) := by decide +kernel
theorem dX4_isWord_22 : decode cX4_isWord 22 = .ok (.invokevirtual 86, 3) := by decide +kernel
theorem dX4_isWord_25 : decode cX4_isWord 25 = .ok (.if_icmp .ge 30, 3) := by decide +kernel
theorem dX4_isWord_28 : decode cX4_isWord 28 = .ok (.aload_n 0, 1) := by decide +kernel
theorem dX4_isWord_29 : decode cX4_isWord 29 = .ok (.getfield 9, 3) := by decide +kernel
theorem dX4_isWord_32 : decode cX4_isWord 32 = .ok (.aload_n 0, 1) := by decide +kernel
theorem dX4_isWord_33 : decode cX4_isWord 33 = .ok (.getfield 22, 3) := by decide +kernel
theorem dX4_isWord_36 : decode cX4_isWord 36 = .ok (.iload_n 2, 1) := by decide +kernel
theorem dX4_isWord_37 : decode cX4_isWord 37 = .ok (.iadd, 1) := by decide +kernel
theorem dX4_isWord_38 : decode cX4_isWord 38 = .ok (.iaload, 1) := by decide +kernel
theorem dX4_isWord_39 : decode cX4_isWord 39 = .ok (.aload_n 1, 1) := by decide +kernel
theorem dX4_isWord_40 : decode cX4_isWord 40 = .ok (.iload_n 2, 1) := by decide +kernel
theorem dX4_isWord_41 : decode cX4_isWord 41 = .ok (.invokevirtual 90, 3) := by decide +kernel
theorem dX4_isWord_44 : decode cX4_isWord 44 = .ok (.if_icmp .eq 5, 3) := by decide +kernel
theorem dX4_isWord_47 : decode cX4_isWord 47 = .ok (.iconst 0, 1) := by decide +kernel
theorem dX4_isWord_48 : decode cX4_isWord 48 = .ok (.ireturn, 1) := by decide +kernel
theorem dX4_isWord_49 : decode cX4_isWord 49 = .ok (.iinc 2 1, 3) := by decide +kernel
theorem dX4_isWord_52 : decode cX4_isWord 52 = .ok (.goto (-32), 3) := by decide +kernel
theorem dX4_isWord_55 : decode cX4_isWord 55 = .ok (.iconst 1, 1) := by decide +kernel
theorem dX4_isWord_56 : decode cX4_isWord 56 = .ok (.ireturn, 1) := by decide +kernel
theorem dX4_isBlank_0 : decode cX4_isBlank 0 = .ok (.iload_n 0, 1) := by decide +kernel
theorem dX4_isBlank_1 : decode cX4_isBlank 1 = .ok (.bipush 32, 2) := by decide +kernel
theorem dX4_isBlank_3 : decode cX4_isBlank 3 = .ok (.if_icmp .eq 9, 3) := by decide +kernel
theorem dX4_isBlank_6 : decode cX4_isBlank 6 = .ok (.iload_n 0, 1) := by decide +kernel
theorem dX4_isBlank_7 : decode cX4_isBlank 7 = .ok (.bipush 10, 2) := by decide +kernel
theorem dX4_isBlank_9 : decode cX4_isBlank 9 = .ok (.if_icmp .ne 7, 3) := by decide +kernel
theorem dX4_isBlank_12 : decode cX4_isBlank 12 = .ok (.iconst 1, 1) := by decide +kernel
theorem dX4_isBlank_13 : decode cX4_isBlank 13 = .ok (.goto 4, 3) := by decide +kernel
theorem dX4_isBlank_16 : decode cX4_isBlank 16 = .ok (.iconst 0, 1) := by decide +kernel
theorem dX4_isBlank_17 : decode cX4_isBlank 17 = .ok (.ireturn, 1) := by decide +kernel
theorem dX4_isLetter_0 : decode cX4_isLetter 0 = .ok (.iload_n 0, 1) := by decide +kernel
theorem dX4_isLetter_1 : decode cX4_isLetter 1 = .ok (.bipush 97, 2) := by decide +kernel
theorem dX4_isLetter_3 : decode cX4_isLetter 3 = .ok (.if_icmp .lt 13, 3) := by decide +kernel
theorem dX4_isLetter_6 : decode cX4_isLetter 6 = .ok (.iload_n 0, 1) := by decide +kernel
theorem dX4_isLetter_7 : decode cX4_isLetter 7 = .ok (.bipush 122, 2) := by decide +kernel
theorem dX4_isLetter_9 : decode cX4_isLetter 9 = .ok (.if_icmp .gt 7, 3) := by decide +kernel
theorem dX4_isLetter_12 : decode cX4_isLetter 12 = .ok (.iconst 1, 1) := by decide +kernel
theorem dX4_isLetter_13 : decode cX4_isLetter 13 = .ok (.goto 4, 3) := by decide +kernel
theorem dX4_isLetter_16 : decode cX4_isLetter 16 = .ok (.iconst 0, 1) := by decide +kernel
theorem dX4_isLetter_17 : decode cX4_isLetter 17 = .ok (.ireturn, 1) := by decide +kernel
theorem dX4_isDigit_0 : decode cX4_isDigit 0 = .ok (.iload_n 0, 1) := by decide +kernel
theorem dX4_isDigit_1 : decode cX4_isDigit 1 = .ok (.bipush 48, 2) := by decide +kernel
theorem dX4_isDigit_3 : decode cX4_isDigit 3 = .ok (.if_icmp .lt 13, 3) := by decide +kernel
theorem dX4_isDigit_6 : decode cX4_isDigit 6 = .ok (.iload_n 0, 1) := by decide +kernel
theorem dX4_isDigit_7 : decode cX4_isDigit 7 = .ok (.bipush 57, 2) := by decide +kernel
theorem dX4_isDigit_9 : decode cX4_isDigit 9 = .ok (.if_icmp .gt 7, 3) := by decide +kernel
theorem dX4_isDigit_12 : decode cX4_isDigit 12 = .ok (.iconst 1, 1) := by decide +kernel
theorem dX4_isDigit_13 : decode cX4_isDigit 13 = .ok (.goto 4, 3) := by decide +kernel
theorem dX4_isDigit_16 : decode cX4_isDigit 16 = .ok (.iconst 0, 1) := by decide +kernel
theorem dX4_isDigit_17 : decode cX4_isDigit 17 = .ok (.ireturn, 1) := by decide +kernel
theorem dX5_init_0 : decode cX5_init 0 = .ok (.aload_n 0, 1) := by decide +kernel
theorem dX5_init_1 : decode cX5_init 1 = .ok (.invokespecial 3, 3) := by decide +kernel
theorem dX5_init_4 : decode cX5_init 4 = .ok (.aload_n 0, 1) := by decide +kernel
theorem dX5_init_5 : decode cX5_init 5 = .ok (.sipush 160, 3) := by decide +kernel
theorem dX5_init_8 : decode cX5_init 8 = .ok (.newarray .int, 2) := by decide +kernel
theorem dX5_init_10 : decode cX5_init 10 = .ok (.putfield 9, 3) := by decide +kernel
theorem dX5_init_13 : decode cX5_init 13 = .ok (.aload_n 0, 1) := by decide +kernel
theorem dX5_init_14 : decode cX5_init 14 = .ok (.iconst 3, 1) := by decide +kernel
theorem dX5_init_15 : decode cX5_init 15 = .ok (.newarray .int, 2) := by decide +kernel
theorem dX5_init_17 : decode cX5_init 17 = .ok (.putfield 15, 3) := by decide +kernel
theorem dX5_init_20 : decode cX5_init 20 = .ok (.aload_n 0, 1) := by decide +kernel
theorem dX5_init_21 : decode cX5_init 21 = .ok (.bipush 40, 2) := by decide +kernel
theorem dX5_init_23 : decode cX5_init 23 = .ok (.newarray .int, 2) := by decide +kernel
theorem dX5_init_25 : decode cX5_init 25 = .ok (.putfield 18, 3) := by decide +kernel
theorem dX5_init_28 : decode cX5_init 28 = .ok (.aload_n 0, 1) := by decide +kernel
theorem dX5_init_29 : decode cX5_init 29 = .ok (.iconst 0, 1) := by decide +kernel
theorem dX5_init_30 : decode cX5_init 30 = .ok (.putfield 21, 3) := by decide +kernel
theorem dX5_init_33 : decode cX5_init 33 = .ok (.aload_n 0, 1) := by decide +kernel
theorem dX5_init_34 : decode cX5_init 34 = .ok (.iconst 0, 1) := by decide +kernel
theorem dX5_init_35 : decode cX5_init 35 = .ok (.putfield 25, 3) := by decide +kernel
theorem dX5_init_38 : decode cX5_init 38 = .ok (.return_, 1) := by decide +kernel
theorem dX5_clear_0 : decode cX5_clear 0 = .ok (.aload_n 0, 1) := by decide +kernel
theorem dX5_clear_1 : decode cX5_clear 1 = .ok (.iconst 0, 1) := by decide +kernel
theorem dX5_clear_2 : decode cX5_clear 2 = .ok (.putfield 21, 3) := by decide +kernel
theorem dX5_clear_5 : decode cX5_clear 5 = .ok (.aload_n 0, 1) := by decide +kernel
theorem dX5_clear_6 : decode cX5_clear 6 = .ok (.iconst 0, 1) := by decide +kernel
theorem dX5_clear_7 : decode cX5_clear 7 = .ok (.putfield 25, 3) := by decide +kernel
theorem dX5_clear_10 : decode cX5_clear 10 = .ok (.return_, 1) := by decide +kernel
theorem dX5_addNumber_0 : decode cX5_addNumber 0 = .ok (.aload_n 0, 1) := by decide +kernel
theorem dX5_addNumber_1 : decode cX5_addNumber 1 = .ok (.iload_n 1, 1) := by decide +kernel
theorem dX5_addNumber_2 : decode cX5_addNumber 2 = .ok (.invokevirtual 28, 3) := by decide +kernel
theorem dX5_addNumber_5 : decode cX5_addNumber 5 = .ok (.return_, 1) := by decide +kernel
theorem dX5_addName_0 : decode cX5_addName 0 = .ok (.aload_n 0, 1) := by decide +kernel
theorem dX5_addName_1 : decode cX5_addName 1 = .ok (.iconst (-1), 1) := by decide +kernel
theorem dX5_addName_2 : decode cX5_addName 2 = .ok (.iload_n 1, 1) := by decide +kernel
theorem dX5_addName_3 : decode cX5_addName 3 = .ok (.isub, 1) := by decide +kernel
theorem dX5_addName_4 : decode cX5_addName 4 = .ok (.invokevirtual 28, 3) := by decide +kernel
theorem dX5_addName_7 : decode cX5_addName 7 = .ok (.return_, 1) := by decide +kernel
theorem dX5_addSign_0 : decode cX5_addSign 0 = .ok (.aload_n 0, 1) := by decide +kernel
theorem dX5_addSign_1 : decode cX5_addSign 1 = .ok (.bipush (-7), 2) := by decide +kernel
theorem dX5_addSign_3 : decode cX5_addSign 3 = .ok (.iload_n 1, 1) := by decide +kernel
theorem dX5_addSign_4 : decode cX5_addSign 4 = .ok (.isub, 1) := by decide +kernel
theorem dX5_addSign_5 : decode cX5_addSign 5 = .ok (.invokevirtual 28, 3) := by decide +kernel
theorem dX5_addSign_8 : decode cX5_addSign 8 = .ok (.return_, 1) := by decide +kernel
theorem dX5_endPart_0 : decode cX5_endPart 0 = .ok (.aload_n 0, 1) := by decide +kernel
theorem dX5_endPart_1 : decode cX5_endPart 1 = .ok (.getfield 25, 3) := by decide +kernel
theorem dX5_endPart_4 : decode cX5_endPart 4 = .ok (.iconst 3, 1) := by decide +kernel
theorem dX5_endPart_5 : decode cX5_endPart 5 = .ok (.if_icmp .ge 26, 3) := by decide +kernel
theorem dX5_endPart_8 : decode cX5_endPart 8 = .ok (.aload_n 0, 1) := by decide +kernel
theorem dX5_endPart_9 : decode cX5_endPart 9 = .ok (.getfield 15, 3) := by decide +kernel
theorem dX5_endPart_12 : decode cX5_endPart 12 = .ok (.aload_n 0, 1) := by decide +kernel
theorem dX5_endPart_13 : decode cX5_endPart 13 = .ok (.getfield 25, 3) := by decide +kernel
theorem dX5_endPart_16 : decode cX5_endPart 16 = .ok (.aload_n 0, 1) := by decide +kernel
theorem dX5_endPart_17 : decode cX5_endPart 17 = .ok (.getfield 21, 3) := by decide +kernel
theorem dX5_endPart_20 : decode cX5_endPart 20 = .ok (.iastore, 1) := by decide +kernel
theorem dX5_endPart_21 : decode cX5_endPart 21 = .ok (.aload_n 0, 1) := by decide +kernel
theorem dX5_endPart_22 : decode cX5_endPart 22 = .ok (.dup, 1) := by decide +kernel
theorem dX5_endPart_23 : decode cX5_endPart 23 = .ok (.getfield 25, 3) := by decide +kernel
theorem dX5_endPart_26 : decode cX5_endPart 26 = .ok (.iconst 1, 1) := by decide +kernel
theorem dX5_endPart_27 : decode cX5_endPart 27 = .ok (.iadd, 1) := by decide +kernel
theorem dX5_endPart_28 : decode cX5_endPart 28 = .ok (.putfield 25, 3) := by decide +kernel
theorem dX5_endPart_31 : decode cX5_endPart 31 = .ok (.return_, 1) := by decide +kernel
theorem dX5_add_0 : decode cX5_add 0 = .ok (.aload_n 0, 1) := by decide +kernel
theorem dX5_add_1 : decode cX5_add 1 = .ok (.getfield 21, 3) := by decide +kernel
theorem dX5_add_4 : decode cX5_add 4 = .ok (.sipush 160, 3) := by decide +kernel
theorem dX5_add_7 : decode cX5_add 7 = .ok (.if_icmp .ge 23, 3) := by decide +kernel
theorem dX5_add_10 : decode cX5_add 10 = .ok (.aload_n 0, 1) := by decide +kernel
theorem dX5_add_11 : decode cX5_add 11 = .ok (.getfield 9, 3) := by decide +kernel
theorem dX5_add_14 : decode cX5_add 14 = .ok (.aload_n 0, 1) := by decide +kernel
theorem dX5_add_15 : decode cX5_add 15 = .ok (.getfield 21, 3) := by decide +kernel
theorem dX5_add_18 : decode cX5_add 18 = .ok (.iload_n 1, 1) := by decide +kernel
theorem dX5_add_19 : decode cX5_add 19 = .ok (.iastore, 1) := by decide +kernel
theorem dX5_add_20 : decode cX5_add 20 = .ok (.aload_n 0, 1) := by decide +kernel
theorem dX5_add_21 : decode cX5_add 21 = .ok (.dup, 1) := by decide +kernel
theorem dX5_add_22 : decode cX5_add 22 = .ok (.getfield 21, 3) := by decide +kernel
theorem dX5_add_25 : decode cX5_add 25 = .ok (.iconst 1, 1) := by decide +kernel
theorem dX5_add_26 : decode cX5_add 26 = .ok (.iadd, 1) := by decide +kernel
theorem dX5_add_27 : decode cX5_add 27 = .ok (.putfield 21, 3) := by decide +kernel
theorem dX5_add_30 : decode cX5_add 30 = .ok (.return_, 1) := by decide +kernel
theorem dX5_valueOf_0 : decode cX5_valueOf 0 = .ok (.iload_n 1, 1) := by decide +kernel
theorem dX5_valueOf_1 : decode cX5_valueOf 1 = .ok (.ifCond .lt 11, 3) := by decide +kernel
theorem dX5_valueOf_4 : decode cX5_valueOf 4 = .ok (.iload_n 1, 1) := by decide +kernel
theorem dX5_valueOf_5 : decode cX5_valueOf 5 = .ok (.aload_n 0, 1) := by decide +kernel
theorem dX5_valueOf_6 : decode cX5_valueOf 6 = .ok (.getfield 25, 3) := by decide +kernel
theorem dX5_valueOf_9 : decode cX5_valueOf 9 = .ok (.if_icmp .lt 5, 3) := by decide +kernel
theorem dX5_valueOf_12 : decode cX5_valueOf 12 = .ok (.iconst 0, 1) := by decide +kernel
theorem dX5_valueOf_13 : decode cX5_valueOf 13 = .ok (.ireturn, 1) := by decide +kernel
theorem dX5_valueOf_14 : decode cX5_valueOf 14 = .ok (.iconst 0, 1) := by decide +kernel
theorem dX5_valueOf_15 : decode cX5_valueOf 15 = .ok (.istore_n 3, 1) := by decide +kernel
theorem dX5_valueOf_16 : decode cX5_valueOf 16 = .ok (.iload_n 1, 1) := by decide +kernel
theorem dX5_valueOf_17 : decode cX5_valueOf 17 = .ok (.ifCond .ne 7, 3) := by decide +kernel
theorem dX5_valueOf_20 : decode cX5_valueOf 20 = .ok (.iconst 0, 1) := by decide +kernel
theorem dX5_valueOf_21 : decode cX5_valueOf 21 = .ok (.goto 11, 3) := by decide +kernel
theorem dX5_valueOf_24 : decode cX5_valueOf 24 = .ok (.aload_n 0, 1) := by decide +kernel
theorem dX5_valueOf_25 : decode cX5_valueOf 25 = .ok (.getfield 15, 3) := by decide +kernel
theorem dX5_valueOf_28 : decode cX5_valueOf 28 = .ok (.iload_n 1, 1) := by decide +kernel
theorem dX5_valueOf_29 : decode cX5_valueOf 29 = .ok (.iconst 1, 1) := by decide +kernel
theorem dX5_valueOf_30 : decode cX5_valueOf 30 = .ok (.isub, 1) := by decide +kernel
theorem dX5_valueOf_31 : decode cX5_valueOf 31 = .ok (.iaload, 1) := by decide +kernel
theorem dX5_valueOf_32 : decode cX5_valueOf 32 = .ok (.istore 4, 2) := by decide +kernel
theorem dX5_valueOf_34 : decode cX5_valueOf 34 = .ok (.iload 4, 2) := by decide +kernel
theorem dX5_valueOf_36 : decode cX5_valueOf 36 = .ok (.aload_n 0, 1) := by decide +kernel
theorem dX5_valueOf_37 : decode cX5_valueOf 37 = .ok (.getfield 15, 3) := by decide +kernel
theorem dX5_valueOf_40 : decode cX5_valueOf 40 = .ok (.iload_n 1, 1) := by decide +kernel
theorem dX5_valueOf_41 : decode cX5_valueOf 41 = .ok (.iaload, 1) := by decide +kernel
theorem dX5_valueOf_42 : decode cX5_valueOf 42 = .ok (.if_icmp .ge 23, 3) := by decide +kernel
theorem dX5_valueOf_45 : decode cX5_valueOf 45 = .ok (.aload_n 0, 1) := by decide +kernel
theorem dX5_valueOf_46 : decode cX5_valueOf 46 = .ok (.aload_n 0, 1) := by decide +kernel
theorem dX5_valueOf_47 : decode cX5_valueOf 47 = .ok (.getfield 9, 3) := by decide +kernel
theorem dX5_valueOf_50 : decode cX5_valueOf 50 = .ok (.iload 4, 2) := by decide +kernel
theorem dX5_valueOf_52 : decode cX5_valueOf 52 = .ok (.iaload, 1) := by decide +kernel
theorem dX5_valueOf_53 : decode cX5_valueOf 53 = .ok (.iload_n 3, 1) := by decide +kernel
theorem dX5_valueOf_54 : decode cX5_valueOf 54 = .ok (.aload_n 2, 1) := by decide +kernel
theorem dX5_valueOf_55 : decode cX5_valueOf 55 = .ok (.invokevirtual 32, 3) := by decide +kernel
theorem dX5_valueOf_58 : decode cX5_valueOf 58 = .ok (.istore_n 3, 1) := by decide +kernel
theorem dX5_valueOf_59 : decode cX5_valueOf 59 = .ok (.iinc 4 1, 3) := by decide +kernel
theorem dX5_valueOf_62 : decode cX5_valueOf 62 = .ok (.goto (-28), 3) := by decide +kernel
theorem dX5_valueOf_65 : decode cX5_valueOf 65 = .ok (.iload_n 3, 1) := by decide +kernel
theorem dX5_valueOf_66 : decode cX5_valueOf 66 = .ok (.iconst 1, 1) := by decide +kernel
theorem dX5_valueOf_67 : decode cX5_valueOf 67 = .ok (.if_icmp .ne 12, 3) := by decide +kernel
theorem dX5_valueOf_70 : decode cX5_valueOf 70 = .ok (.aload_n 0, 1) := by decide +kernel
theorem dX5_valueOf_71 : decode cX5_valueOf 71 = .ok (.getfield 18, 3) := by decide +kernel
theorem dX5_valueOf_74 : decode cX5_valueOf 74 = .ok (.iconst 0, 1) := by decide +kernel
theorem dX5_valueOf_75 : decode cX5_valueOf 75 = .ok (.iaload, 1) := by decide +kernel
theorem dX5_valueOf_76 : decode cX5_valueOf 76 = .ok (.goto 4, 3) := by decide +kernel
theorem dX5_valueOf_79 : decode cX5_valueOf 79 = .ok (.iconst 0, 1) := by decide +kernel
theorem dX5_valueOf_80 : decode cX5_valueOf 80 = .ok (.ireturn, 1) := by decide +kernel
theorem dX5_step_0 : decode cX5_step 0 = .ok (.iload_n 1, 1) := by decide +kernel
theorem dX5_step_1 : decode cX5_step 1 = .ok (.bipush (-6), 2) := by decide +kernel
theorem dX5_step_3 : decode cX5_step 3 = .ok (.if_icmp .lt 34, 3) := by decide +kernel
theorem dX5_step_6 : decode cX5_step 6 = .ok (.iload_n 2, 1) := by decide +kernel
theorem dX5_step_7 : decode cX5_step 7 = .ok (.bipush 40, 2) := by decide +kernel
theorem dX5_step_9 : decode cX5_step 9 = .ok (.if_icmp .lt 5, 3) := by decide +kernel
theorem dX5_step_12 : decode cX5_step 12 = .ok (.iload_n 2, 1) := by decide +kernel
theorem dX5_step_13 : decode cX5_step 13 = .ok (.ireturn, 1) := by decide +kernel
theorem dX5_step_14 : decode cX5_step 14 = .ok (.aload_n 0, 1) := by decide +kernel
theorem dX5_step_15 : decode cX5_step 15 = .ok (.getfield 18, 3) := by decide +kernel
theorem dX5_step_18 : decode cX5_step 18 = .ok (.iload_n 2, 1) := by decide +kernel
theorem dX5_step_19 : decode cX5_step 19 = .ok (.iload_n 1, 1) := by decide +kernel
theorem dX5_step_20 : decode cX5_step 20 = .ok (.ifCond .lt 7, 3) := by decide +kernel
theorem dX5_step_23 : decode cX5_step 23 = .ok (.iload_n 1, 1) := by decide +kernel
theorem dX5_step_24 : decode cX5_step 24 = .ok (.goto 8, 3) := by decide +kernel
theorem dX5_step_27 : decode cX5_step 27 = .ok (.aload_n 3, 1) := by decide +kernel
theorem dX5_step_28 : decode cX5_step 28 = .ok (.iconst (-1), 1) := by decide +kernel
theorem dX5_step_29 : decode cX5_step 29 = .ok (.iload_n 1, 1) := by decide +kernel
theorem dX5_step_30 : decode cX5_step 30 = .ok (.isub, 1) := by decide +kernel
theorem dX5_step_31 : decode cX5_step 31 = .ok (.iaload, 1) := by decide +kernel
theorem dX5_step_32 : decode cX5_step 32 = .ok (.iastore, 1) := by decide +kernel
theorem dX5_step_33 : decode cX5_step 33 = .ok (.iload_n 2, 1) := by decide +kernel
theorem dX5_step_34 : decode cX5_step 34 = .ok (.iconst 1, 1) := by decide +kernel
theorem dX5_step_35 : decode cX5_step 35 = .ok (.iadd, 1) := by decide +kernel
theorem dX5_step_36 : decode cX5_step 36 = .ok (.ireturn, 1) := by decide +kernel
theorem dX5_step_37 : decode cX5_step 37 = .ok (.bipush (-7), 2) := by decide +kernel
theorem dX5_step_39 : decode cX5_step 39 = .ok (.iload_n 1, 1) := by decide +kernel
theorem dX5_step_40 : decode cX5_step 40 = .ok (.isub, 1) := by decide +kernel
theorem dX5_step_41 : decode cX5_step 41 = .ok (.istore 4, 2) := by decide +kernel
theorem dX5_step_43 : decode cX5_step 43 = .ok (.iload 4, 2) := by decide +kernel
theorem dX5_step_45 : decode cX5_step 45 = .ok (.bipush 9, 2) := by decide +kernel
theorem dX5_step_47 : decode cX5_step 47 = .ok (.if_icmp .eq 10, 3) := by decide +kernel
theorem dX5_step_50 : decode cX5_step 50 = .ok (.iload 4, 2) := by decide +kernel
theorem dX5_step_52 : decode cX5_step 52 = .ok (.bipush 10, 2) := by decide +kernel
theorem dX5_step_54 : decode cX5_step 54 = .ok (.if_icmp .ne 56, 3) := by decide +kernel
theorem dX5_step_57 : decode cX5_step 57 = .ok (.iload_n 2, 1) := by decide +kernel
theorem dX5_step_58 : decode cX5_step 58 = .ok (.iconst 1, 1) := by decide +kernel
theorem dX5_step_59 : decode cX5_step 59 = .ok (.if_icmp .lt 49, 3) := by decide +kernel
theorem dX5_step_62 : decode cX5_step 62 = .ok (.aload_n 0, 1) := by decide +kernel
theorem dX5_step_63 : decode cX5_step 63 = .ok (.getfield 18, 3) := by decide +kernel
theorem dX5_step_66 : decode cX5_step 66 = .ok (.iload_n 2, 1) := by decide +kernel
theorem dX5_step_67 : decode cX5_step 67 = .ok (.iconst 1, 1) := by decide +kernel
theorem dX5_step_68 : decode cX5_step 68 = .ok (.isub, 1) := by decide +kernel
theorem dX5_step_69 : decode cX5_step 69 = .ok (.iload 4, 2) := by decide +kernel
theorem dX5_step_71 : decode cX5_step 71 = .ok (.bipush 9, 2) := by decide +kernel
theorem dX5_step_73 : decode cX5_step 73 = .ok (.if_icmp .ne 25, 3) := by decide +kernel
theorem dX5_step_76 : decode cX5_step 76 = .ok (.aload_n 0, 1) := by decide +kernel
theorem dX5_step_77 : decode cX5_step 77 = .ok (.getfield 18, 3) := by decide +kernel
theorem dX5_step_80 : decode cX5_step 80 = .ok (.iload_n 2, 1) := by decide +kernel
theorem dX5_step_81 : decode cX5_step 81 = .ok (.iconst 1, 1) := by decide +kernel
theorem dX5_step_82 : decode cX5_step 82 = .ok (.isub, 1) := by decide +kernel
theorem dX5_step_83 : decode cX5_step 83 = .ok (.iaload, 1) := by decide +kernel
theorem dX5_step_84 : decode cX5_step 84 = .ok (.ifCond .ne 7, 3) := by decide +kernel
theorem dX5_step_87 : decode cX5_step 87 = .ok (.iconst 1, 1) := by decide +kernel
theorem dX5_step_88 : decode cX5_step 88 = .ok (.goto 4, 3) := by decide +kernel
theorem dX5_step_91 : decode cX5_step 91 = .ok (.iconst 0, 1) := by decide +kernel
theorem dX5_step_92 : decode cX5_step 92 = .ok (.invokestatic 36, 3) := by decide +kernel
theorem dX5_step_95 : decode cX5_step 95 = .ok (.goto 12, 3) := by decide +kernel
theorem dX5_step_98 : decode cX5_step 98 = .ok (.aload_n 0, 1) := by decide +kernel
theorem dX5_step_99 : decode cX5_step 99 = .ok (.getfield 18, 3) := by decide +kernel
theorem dX5_step_102 : decode cX5_step 102 = .ok (.iload_n 2, 1) := by decide +kernel
theorem dX5_step_103 : decode cX5_step 103 = .ok (.iconst 1, 1) := by decide +kernel
theorem dX5_step_104 : decode cX5_step 104 = .ok (.isub, 1) := by decide +kernel
theorem dX5_step_105 : decode cX5_step 105 = .ok (.iaload, 1) := by decide +kernel
theorem dX5_step_106 : decode cX5_step 106 = .ok (.ineg, 1) := by decide +kernel
theorem dX5_step_107 : decode cX5_step 107 = .ok (.iastore, 1) := by decide +kernel
theorem dX5_step_108 : decode cX5_step 108 = .ok (.iload_n 2, 1) := by decide +kernel
theorem dX5_step_109 : decode cX5_step 109 = .ok (.ireturn, 1) := by decide +kernel
theorem dX5_step_110 : decode cX5_step 110 = .ok (.iload_n 2, 1) := by decide +kernel
theorem dX5_step_111 : decode cX5_step 111 = .ok (.iconst 2, 1) := by decide +kernel
theorem dX5_step_112 : decode cX5_step 112 = .ok (.if_icmp .ge 5, 3) := by decide +kernel
theorem dX5_step_115 : decode cX5_step 115 = .ok (.iload_n 2, 1) := by decide +kernel
theorem dX5_step_116 : decode cX5_step 116 = .ok (.ireturn, 1) := by decide +kernel
theorem dX5_step_117 : decode cX5_step 117 = .ok (.aload_n 0, 1) := by decide +kernel
theorem dX5_step_118 : decode cX5_step 118 = .ok (.getfield 18, 3) := by decide +kernel
theorem dX5_step_121 : decode cX5_step 121 = .ok (.iload_n 2, 1) := by decide +kernel
theorem dX5_step_122 : decode cX5_step 122 = .ok (.iconst 2, 1) := by decide +kernel
theorem dX5_step_123 : decode cX5_step 123 = .ok (.isub, 1) := by decide +kernel
theorem dX5_step_124 : decode cX5_step 124 = .ok (.iload 4, 2) := by decide +kernel
theorem dX5_step_126 : decode cX5_step 126 = .ok (.aload_n 0, 1) := by decide +kernel
theorem dX5_step_127 : decode cX5_step 127 = .ok (.getfield 18, 3) := by decide +kernel
theorem dX5_step_130 : decode cX5_step 130 = .ok (.iload_n 2, 1) := by decide +kernel
theorem dX5_step_131 : decode cX5_step 131 = .ok (.iconst 2, 1) := by decide +kernel
theorem dX5_step_132 : decode cX5_step 132 = .ok (.isub, 1) := by decide +kernel
theorem dX5_step_133 : decode cX5_step 133 = .ok (.iaload, 1) := by decide +kernel
theorem dX5_step_134 : decode cX5_step 134 = .ok (.aload_n 0, 1) := by decide +kernel
theorem dX5_step_135 : decode cX5_step 135 = .ok (.getfield 18, 3) := by decide +kernel
theorem dX5_step_138 : decode cX5_step 138 = .ok (.iload_n 2, 1) := by decide +kernel
theorem dX5_step_139 : decode cX5_step 139 = .ok (.iconst 1, 1) := by decide +kernel
theorem dX5_step_140 : decode cX5_step 140 = .ok (.isub, 1) := by decide +kernel
theorem dX5_step_141 : decode cX5_step 141 = .ok (.iaload, 1) := by decide +kernel
theorem dX5_step_142 : decode cX5_step 142 = .ok (.invokestatic 40, 3) := by decide +kernel
theorem dX5_step_145 : decode cX5_step 145 = .ok (.iastore, 1) := by decide +kernel
theorem dX5_step_146 : decode cX5_step 146 = .ok (.iload_n 2, 1) := by decide +kernel
theorem dX5_step_147 : decode cX5_step 147 = .ok (.iconst 1, 1) := by decide +kernel
theorem dX5_step_148 : decode cX5_step 148 = .ok (.isub, 1) := by decide +kernel
theorem dX5_step_149 : decode cX5_step 149 = .ok (.ireturn, 1) := by decide +kernel
theorem dX5_joined_0 : decode cX5_joined 0 = .ok (.iload_n 0, 1) := by decide +kernel
theorem dX5_joined_1 : decode cX5_joined 1 = .ok (.lookupswitch 117 #[(7, 59), (8, 73), (43, 109), (45, 113), (60, 87), (61, 98)], 59) := by decide +kernel
theorem dX5_joined_60 : decode cX5_joined 60 = .ok (.iload_n 1, 1) := by decide +kernel
theorem dX5_joined_61 : decode cX5_joined 61 = .ok (.ifCond .ne 7, 3) := by decide +kernel
theorem dX5_joined_64 : decode cX5_joined 64 = .ok (.iload_n 2, 1) := by decide +kernel
theorem dX5_joined_65 : decode cX5_joined 65 = .ok (.ifCond .eq 7, 3) := by decide +kernel
theorem dX5_joined_68 : decode cX5_joined 68 = .ok (.iconst 1, 1) := by decide +kernel
theorem dX5_joined_69 : decode cX5_joined 69 = .ok (.goto 4, 3) := by decide +kernel
theorem dX5_joined_72 : decode cX5_joined 72 = .ok (.iconst 0, 1) := by decide +kernel
theorem dX5_joined_73 : decode cX5_joined 73 = .ok (.ireturn, 1) := by decide +kernel
theorem dX5_joined_74 : decode cX5_joined 74 = .ok (.iload_n 1, 1) := by decide +kernel
theorem dX5_joined_75 : decode cX5_joined 75 = .ok (.ifCond .eq 11, 3) := by decide +kernel
theorem dX5_joined_78 : decode cX5_joined 78 = .ok (.iload_n 2, 1) := by decide +kernel
theorem dX5_joined_79 : decode cX5_joined 79 = .ok (.ifCond .eq 7, 3) := by decide +kernel
theorem dX5_joined_82 : decode cX5_joined 82 = .ok (.iconst 1, 1) := by decide +kernel
theorem dX5_joined_83 : decode cX5_joined 83 = .ok (.goto 4, 3) := by decide +kernel
theorem dX5_joined_86 : decode cX5_joined 86 = .ok (.iconst 0, 1) := by decide +kernel
theorem dX5_joined_87 : decode cX5_joined 87 = .ok (.ireturn, 1) := by decide +kernel
theorem dX5_joined_88 : decode cX5_joined 88 = .ok (.iload_n 1, 1) := by decide +kernel
theorem dX5_joined_89 : decode cX5_joined 89 = .ok (.iload_n 2, 1) := by decide +kernel
theorem dX5_joined_90 : decode cX5_joined 90 = .ok (.if_icmp .ge 7, 3) := by decide +kernel
theorem dX5_joined_93 : decode cX5_joined 93 = .ok (.iconst 1, 1) := by decide +kernel
theorem dX5_joined_94 : decode cX5_joined 94 = .ok (.goto 4, 3) := by decide +kernel
theorem dX5_joined_97 : decode cX5_joined 97 = .ok (.iconst 0, 1) := by decide +kernel
theorem dX5_joined_98 : decode cX5_joined 98 = .ok (.ireturn, 1) := by decide +kernel
theorem dX5_joined_99 : decode cX5_joined 99 = .ok (.iload_n 1, 1) := by decide +kernel
theorem dX5_joined_100 : decode cX5_joined 100 = .ok (.iload_n 2, 1) := by decide +kernel
theorem dX5_joined_101 : decode cX5_joined 101 = .ok (.if_icmp .ne 7, 3) := by decide +kernel
theorem dX5_joined_104 : decode cX5_joined 104 = .ok (.iconst 1, 1) := by decide +kernel
theorem dX5_joined_105 : decode cX5_joined 105 = .ok (.goto 4, 3) := by decide +kernel
theorem dX5_joined_108 : decode cX5_joined 108 = .ok (.iconst 0, 1) := by decide +kernel
theorem dX5_joined_109 : decode cX5_joined 109 = .ok (.ireturn, 1) := by decide +kernel
theorem dX5_joined_110 : decode cX5_joined 110 = .ok (.iload_n 1, 1) := by decide +kernel
theorem dX5_joined_111 : decode cX5_joined 111 = .ok (.iload_n 2, 1) := by decide +kernel
theorem dX5_joined_112 : decode cX5_joined 112 = .ok (.iadd, 1) := by decide +kernel
theorem dX5_joined_113 : decode cX5_joined 113 = .ok (.ireturn, 1) := by decide +kernel
theorem dX5_joined_114 : decode cX5_joined 114 = .ok (.iload_n 1, 1) := by decide +kernel
theorem dX5_joined_115 : decode cX5_joined 115 = .ok (.iload_n 2, 1) := by decide +kernel
theorem dX5_joined_116 : decode cX5_joined 116 = .ok (.isub, 1) := by decide +kernel
theorem dX5_joined_117 : decode cX5_joined 117 = .ok (.ireturn, 1) := by decide +kernel
theorem dX5_joined_118 : decode cX5_joined 118 = .ok (.iload_n 1, 1) := by decide +kernel
theorem dX5_joined_119 : decode cX5_joined 119 = .ok (.iload_n 2, 1) := by decide +kernel
theorem dX5_joined_120 : decode cX5_joined 120 = .ok (.imul, 1) := by decide +kernel
theorem dX5_joined_121 : decode cX5_joined 121 = .ok (.ireturn, 1) := by decide +kernel
theorem dX6_init_0 : decode cX6_init 0 = .ok (.aload_n 0, 1) := by decide +kernel
theorem dX6_init_1 : decode cX6_init 1 = .ok (.invokespecial 3, 3) := by decide +kernel
theorem dX6_init_4 : decode cX6_init 4 = .ok (.aload_n 0, 1) := by decide +kernel
theorem dX6_init_5 : decode cX6_init 5 = .ok (.bipush 41, 2) := by decide +kernel
theorem dX6_init_7 : decode cX6_init 7 = .ok (.newarray .int, 2) := by decide +kernel
theorem dX6_init_9 : decode cX6_init 9 = .ok (.putfield 9, 3) := by decide +kernel
theorem dX6_init_12 : decode cX6_init 12 = .ok (.aload_n 0, 1) := by decide +kernel
theorem dX6_init_13 : decode cX6_init 13 = .ok (.bipush 41, 2) := by decide +kernel
theorem dX6_init_15 : decode cX6_init 15 = .ok (.newarray .int, 2) := by decide +kernel
theorem dX6_init_17 : decode cX6_init 17 = .ok (.putfield 15, 3) := by decide +kernel
theorem dX6_init_20 : decode cX6_init 20 = .ok (.aload_n 0, 1) := by decide +kernel
theorem dX6_init_21 : decode cX6_init 21 = .ok (.bipush 41, 2) := by decide +kernel
theorem dX6_init_23 : decode cX6_init 23 = .ok (.newarray .int, 2) := by decide +kernel
theorem dX6_init_25 : decode cX6_init 25 = .ok (.putfield 18, 3) := by decide +kernel
theorem dX6_init_28 : decode cX6_init 28 = .ok (.aload_n 0, 1) := by decide +kernel
theorem dX6_init_29 : decode cX6_init 29 = .ok (.iconst 3, 1) := by decide +kernel
theorem dX6_init_30 : decode cX6_init 30 = .ok (.bipush 6, 2) := by decide +kernel
theorem dX6_init_32 : decode cX6_init 32 = .ok (.multianewarray 21 2, 4) := by decide +kernel
theorem dX6_init_36 : decode cX6_init 36 = .ok (.putfield 23, 3) := by decide +kernel
theorem dX6_init_39 : decode cX6_init 39 = .ok (.aload_n 0, 1) := by decide +kernel
theorem dX6_init_40 : decode cX6_init 40 = .ok (.sipush 300, 3) := by decide +kernel
theorem dX6_init_43 : decode cX6_init 43 = .ok (.putfield 26, 3) := by decide +kernel
theorem dX6_init_46 : decode cX6_init 46 = .ok (.aload_n 0, 1) := by decide +kernel
theorem dX6_init_47 : decode cX6_init 47 = .ok (.iconst 3, 1) := by decide +kernel
theorem dX6_init_48 : decode cX6_init 48 = .ok (.putfield 30, 3) := by decide +kernel
theorem dX6_init_51 : decode cX6_init 51 = .ok (.aload_n 0, 1) := by decide +kernel
theorem dX6_init_52 : decode cX6_init 52 = .ok (.bipush 8, 2) := by decide +kernel
theorem dX6_init_54 : decode cX6_init 54 = .ok (.anewarray 33, 3) := by decide +kernel
theorem dX6_init_57 : decode cX6_init 57 = .ok (.putfield 35, 3) := by decide +kernel
theorem dX6_init_60 : decode cX6_init 60 = .ok (.aload_n 0, 1) := by decide +kernel
theorem dX6_init_61 : decode cX6_init 61 = .ok (.iconst 0, 1) := by decide +kernel
theorem dX6_init_62 : decode cX6_init 62 = .ok (.putfield 39, 3) := by decide +kernel
theorem dX6_init_65 : decode cX6_init 65 = .ok (.aload_n 0, 1) := by decide +kernel
theorem dX6_init_66 : decode cX6_init 66 = .ok (.bipush 8, 2) := by decide +kernel
theorem dX6_init_68 : decode cX6_init 68 = .ok (.anewarray 42, 3) := by decide +kernel
theorem dX6_init_71 : decode cX6_init 71 = .ok (.putfield 44, 3) := by decide +kernel
theorem dX6_init_74 : decode cX6_init 74 = .ok (.aload_n 0, 1) := by decide +kernel
theorem dX6_init_75 : decode cX6_init 75 = .ok (.iconst 0, 1) := by decide +kernel
theorem dX6_init_76 : decode cX6_init 76 = .ok (.putfield 48, 3) := by decide +kernel
theorem dX6_init_79 : decode cX6_init 79 = .ok (.iconst 0, 1) := by decide +kernel
theorem dX6_init_80 : decode cX6_init 80 = .ok (.istore_n 1, 1) := by decide +kernel
theorem dX6_init_81 : decode cX6_init 81 = .ok (.iload_n 1, 1) := by decide +kernel
theorem dX6_init_82 : decode cX6_init 82 = .ok (.iconst 3, 1) := by decide +kernel
theorem dX6_init_83 : decode cX6_init 83 = .ok (.if_icmp .ge 28, 3) := by decide +kernel
theorem dX6_init_86 : decode cX6_init 86 = .ok (.getstatic 51, 3) := by decide +kernel
theorem dX6_init_89 : decode cX6_init 89 = .ok (.iload_n 1, 1) := by decide +kernel
theorem dX6_init_90 : decode cX6_init 90 = .ok (.bipush 6, 2) := by decide +kernel
theorem dX6_init_92 : decode cX6_init 92 = .ok (.imul, 1) := by decide +kernel
theorem dX6_init_93 : decode cX6_init 93 = .ok (.aload_n 0, 1) := by decide +kernel
theorem dX6_init_94 : decode cX6_init 94 = .ok (.getfield 23, 3) := by decide +kernel
theorem dX6_init_97 : decode cX6_init 97 = .ok (.iload_n 1, 1) := by decide +kernel
theorem dX6_init_98 : decode cX6_init 98 = .ok (.aaload, 1) := by decide +kernel
theorem dX6_init_99 : decode cX6_init 99 = .ok (.iconst 0, 1) := by decide +kernel
theorem dX6_init_100 : decode cX6_init 100 = .ok (.bipush 6, 2) := by decide +kernel
theorem dX6_init_102 : decode cX6_init 102 = .ok (.invokestatic 54, 3) := by decide +kernel
theorem dX6_init_105 : decode cX6_init 105 = .ok (.iinc 1 1, 3) := by decide +kernel
theorem dX6_init_108 : decode cX6_init 108 = .ok (.goto (-27), 3) := by decide +kernel
theorem dX6_init_111 : decode cX6_init 111 = .ok (.iconst 0, 1) := by decide +kernel
theorem dX6_init_112 : decode cX6_init 112 = .ok (.istore_n 1, 1) := by decide +kernel
theorem dX6_init_113 : decode cX6_init 113 = .ok (.iload_n 1, 1) := by decide +kernel
theorem dX6_init_114 : decode cX6_init 114 = .ok (.bipush 8, 2) := by decide +kernel
theorem dX6_init_116 : decode cX6_init 116 = .ok (.if_icmp .ge 22, 3) := by decide +kernel
theorem dX6_init_119 : decode cX6_init 119 = .ok (.aload_n 0, 1) := by decide +kernel
theorem dX6_init_120 : decode cX6_init 120 = .ok (.getfield 35, 3) := by decide +kernel
theorem dX6_init_123 : decode cX6_init 123 = .ok (.iload_n 1, 1) := by decide +kernel
theorem dX6_init_124 : decode cX6_init 124 = .ok (.new 33, 3) := by decide +kernel
theorem dX6_init_127 : decode cX6_init 127 = .ok (.dup, 1) := by decide +kernel
theorem dX6_init_128 : decode cX6_init 128 = .ok (.invokespecial 60, 3) := by decide +kernel
theorem dX6_init_131 : decode cX6_init 131 = .ok (.aastore, 1) := by decide +kernel
theorem dX6_init_132 : decode cX6_init 132 = .ok (.iinc 1 1, 3) := by decide +kernel
theorem dX6_init_135 : decode cX6_init 135 = .ok (.goto (-22), 3) := by decide +kernel
theorem dX6_init_138 : decode cX6_init 138 = .ok (.iconst 0, 1) := by decide +kernel
theorem dX6_init_139 : decode cX6_init 139 = .ok (.istore_n 1, 1) := by decide +kernel
theorem dX6_init_140 : decode cX6_init 140 = .ok (.iload_n 1, 1) := by decide +kernel
theorem dX6_init_141 : decode cX6_init 141 = .ok (.bipush 8, 2) := by decide +kernel
theorem dX6_init_143 : decode cX6_init 143 = .ok (.if_icmp .ge 22, 3) := by decide +kernel
theorem dX6_init_146 : decode cX6_init 146 = .ok (.aload_n 0, 1) := by decide +kernel
theorem dX6_init_147 : decode cX6_init 147 = .ok (.getfield 44, 3) := by decide +kernel
theorem dX6_init_150 : decode cX6_init 150 = .ok (.iload_n 1, 1) := by decide +kernel
theorem dX6_init_151 : decode cX6_init 151 = .ok (.new 42, 3) := by decide +kernel
theorem dX6_init_154 : decode cX6_init 154 = .ok (.dup, 1) := by decide +kernel
theorem dX6_init_155 : decode cX6_init 155 = .ok (.invokespecial 61, 3) := by decide +kernel
theorem dX6_init_158 : decode cX6_init 158 = .ok (.aastore, 1) := by decide +kernel
theorem dX6_init_159 : decode cX6_init 159 = .ok (.iinc 1 1, 3) := by decide +kernel
theorem dX6_init_162 : decode cX6_init 162 = .ok (.goto (-22), 3) := by decide +kernel
theorem dX6_init_165 : decode cX6_init 165 = .ok (.return_, 1) := by decide +kernel
theorem dX6_measureClimbs_0 : decode cX6_measureClimbs 0 = .ok (.iconst 1, 1) := by decide +kernel
theorem dX6_measureClimbs_1 : decode cX6_measureClimbs 1 = .ok (.istore_n 1, 1) := by decide +kernel
theorem dX6_measureClimbs_2 : decode cX6_measureClimbs 2 = .ok (.iload_n 1, 1) := by decide +kernel
theorem dX6_measureClimbs_3 : decode cX6_measureClimbs 3 = .ok (.bipush 41, 2) := by decide +kernel
theorem dX6_measureClimbs_5 : decode cX6_measureClimbs 5 = .ok (.if_icmp .ge 66, 3) := by decide +kernel
theorem dX6_measureClimbs_8 : decode cX6_measureClimbs 8 = .ok (.aload_n 0, 1) := by decide +kernel
theorem dX6_measureClimbs_9 : decode cX6_measureClimbs 9 = .ok (.getfield 9, 3) := by decide +kernel
theorem dX6_measureClimbs_12 : decode cX6_measureClimbs 12 = .ok (.iload_n 1, 1) := by decide +kernel
theorem dX6_measureClimbs_13 : decode cX6_measureClimbs 13 = .ok (.iaload, 1) := by decide +kernel
theorem dX6_measureClimbs_14 : decode cX6_measureClimbs 14 = .ok (.aload_n 0, 1) := by decide +kernel
theorem dX6_measureClimbs_15 : decode cX6_measureClimbs 15 = .ok (.getfield 9, 3) := by decide +kernel
theorem dX6_measureClimbs_18 : decode cX6_measureClimbs 18 = .ok (.iload_n 1, 1) := by decide +kernel
theorem dX6_measureClimbs_19 : decode cX6_measureClimbs 19 = .ok (.iconst 1, 1) := by decide +kernel
theorem dX6_measureClimbs_20 : decode cX6_measureClimbs 20 = .ok (.isub, 1) := by decide +kernel
theorem dX6_measureClimbs_21 : decode cX6_measureClimbs 21 = .ok (.iaload, 1) := by decide +kernel
theorem dX6_measureClimbs_22 : decode cX6_measureClimbs 22 = .ok (.isub, 1) := by decide +kernel
theorem dX6_measureClimbs_23 : decode cX6_measureClimbs 23 = .ok (.istore_n 2, 1) := by decide +kernel
theorem dX6_measureClimbs_24 : decode cX6_measureClimbs 24 = .ok (.aload_n 0, 1) := by decide +kernel
theorem dX6_measureClimbs_25 : decode cX6_measureClimbs 25 = .ok (.getfield 15, 3) := by decide +kernel
theorem dX6_measureClimbs_28 : decode cX6_measureClimbs 28 = .ok (.iload_n 1, 1) := by decide +kernel
theorem dX6_measureClimbs_29 : decode cX6_measureClimbs 29 = .ok (.aload_n 0, 1) := by decide +kernel
theorem dX6_measureClimbs_30 : decode cX6_measureClimbs 30 = .ok (.getfield 15, 3) := by decide +kernel
theorem dX6_measureClimbs_33 : decode cX6_measureClimbs 33 = .ok (.iload_n 1, 1) := by decide +kernel
theorem dX6_measureClimbs_34 : decode cX6_measureClimbs 34 = .ok (.iconst 1, 1) := by decide +kernel
theorem dX6_measureClimbs_35 : decode cX6_measureClimbs 35 = .ok (.isub, 1) := by decide +kernel
theorem dX6_measureClimbs_36 : decode cX6_measureClimbs 36 = .ok (.iaload, 1) := by decide +kernel
theorem dX6_measureClimbs_37 : decode cX6_measureClimbs 37 = .ok (.iconst 0, 1) := by decide +kernel
theorem dX6_measureClimbs_38 : decode cX6_measureClimbs 38 = .ok (.iload_n 2, 1) := by decide +kernel
theorem dX6_measureClimbs_39 : decode cX6_measureClimbs 39 = .ok (.invokestatic 62, 3) := by decide +kernel
theorem dX6_measureClimbs_42 : decode cX6_measureClimbs 42 = .ok (.iadd, 1) := by decide +kernel
theorem dX6_measureClimbs_43 : decode cX6_measureClimbs 43 = .ok (.iastore, 1) := by decide +kernel
theorem dX6_measureClimbs_44 : decode cX6_measureClimbs 44 = .ok (.aload_n 0, 1) := by decide +kernel
theorem dX6_measureClimbs_45 : decode cX6_measureClimbs 45 = .ok (.getfield 18, 3) := by decide +kernel
theorem dX6_measureClimbs_48 : decode cX6_measureClimbs 48 = .ok (.iload_n 1, 1) := by decide +kernel
theorem dX6_measureClimbs_49 : decode cX6_measureClimbs 49 = .ok (.aload_n 0, 1) := by decide +kernel
theorem dX6_measureClimbs_50 : decode cX6_measureClimbs 50 = .ok (.getfield 18, 3) := by decide +kernel
theorem dX6_measureClimbs_53 : decode cX6_measureClimbs 53 = .ok (.iload_n 1, 1) := by decide +kernel
theorem dX6_measureClimbs_54 : decode cX6_measureClimbs 54 = .ok (.iconst 1, 1) := by decide +kernel
theorem dX6_measureClimbs_55 : decode cX6_measureClimbs 55 = .ok (.isub, 1) := by decide +kernel
theorem dX6_measureClimbs_56 : decode cX6_measureClimbs 56 = .ok (.iaload, 1) := by decide +kernel
theorem dX6_measureClimbs_57 : decode cX6_measureClimbs 57 = .ok (.iconst 0, 1) := by decide +kernel
theorem dX6_measureClimbs_58 : decode cX6_measureClimbs 58 = .ok (.iload_n 2, 1) := by decide +kernel
theorem dX6_measureClimbs_59 : decode cX6_measureClimbs 59 = .ok (.ineg, 1) := by decide +kernel
theorem dX6_measureClimbs_60 : decode cX6_measureClimbs 60 = .ok (.invokestatic 62, 3) := by decide +kernel
theorem dX6_measureClimbs_63 : decode cX6_measureClimbs 63 = .ok (.iadd, 1) := by decide +kernel
theorem dX6_measureClimbs_64 : decode cX6_measureClimbs 64 = .ok (.iastore, 1) := by decide +kernel
theorem dX6_measureClimbs_65 : decode cX6_measureClimbs 65 = .ok (.iinc 1 1, 3) := by decide +kernel
theorem dX6_measureClimbs_68 : decode cX6_measureClimbs 68 = .ok (.goto (-66), 3) := by decide +kernel
theorem dX6_measureClimbs_71 : decode cX6_measureClimbs 71 = .ok (.return_, 1) := by decide +kernel
theorem dX6_walkSeconds_0 : decode cX6_walkSeconds 0 = .ok (.iload_n 1, 1) := by decide +kernel
theorem dX6_walkSeconds_1 : decode cX6_walkSeconds 1 = .ok (.iload_n 2, 1) := by decide +kernel
theorem dX6_walkSeconds_2 : decode cX6_walkSeconds 2 = .ok (.if_icmp .ge 19, 3) := by decide +kernel
theorem dX6_walkSeconds_5 : decode cX6_walkSeconds 5 = .ok (.aload_n 0, 1) := by decide +kernel
theorem dX6_walkSeconds_6 : decode cX6_walkSeconds 6 = .ok (.getfield 15, 3) := by decide +kernel
theorem dX6_walkSeconds_9 : decode cX6_walkSeconds 9 = .ok (.iload_n 2, 1) := by decide +kernel
theorem dX6_walkSeconds_10 : decode cX6_walkSeconds 10 = .ok (.iaload, 1) := by decide +kernel
theorem dX6_walkSeconds_11 : decode cX6_walkSeconds 11 = .ok (.aload_n 0, 1) := by decide +kernel
theorem dX6_walkSeconds_12 : decode cX6_walkSeconds 12 = .ok (.getfield 15, 3) := by decide +kernel
theorem dX6_walkSeconds_15 : decode cX6_walkSeconds 15 = .ok (.iload_n 1, 1) := by decide +kernel
theorem dX6_walkSeconds_16 : decode cX6_walkSeconds 16 = .ok (.iaload, 1) := by decide +kernel
theorem dX6_walkSeconds_17 : decode cX6_walkSeconds 17 = .ok (.isub, 1) := by decide +kernel
theorem dX6_walkSeconds_18 : decode cX6_walkSeconds 18 = .ok (.goto 16, 3) := by decide +kernel
theorem dX6_walkSeconds_21 : decode cX6_walkSeconds 21 = .ok (.aload_n 0, 1) := by decide +kernel
theorem dX6_walkSeconds_22 : decode cX6_walkSeconds 22 = .ok (.getfield 18, 3) := by decide +kernel
theorem dX6_walkSeconds_25 : decode cX6_walkSeconds 25 = .ok (.iload_n 1, 1) := by decide +kernel
theorem dX6_walkSeconds_26 : decode cX6_walkSeconds 26 = .ok (.iaload, 1) := by decide +kernel
theorem dX6_walkSeconds_27 : decode cX6_walkSeconds 27 = .ok (.aload_n 0, 1) := by decide +kernel
theorem dX6_walkSeconds_28 : decode cX6_walkSeconds 28 = .ok (.getfield 18, 3) := by decide +kernel
theorem dX6_walkSeconds_31 : decode cX6_walkSeconds 31 = .ok (.iload_n 2, 1) := by decide +kernel
theorem dX6_walkSeconds_32 : decode cX6_walkSeconds 32 = .ok (.iaload, 1) := by decide +kernel
theorem dX6_walkSeconds_33 : decode cX6_walkSeconds 33 = .ok (.isub, 1) := by decide +kernel
theorem dX6_walkSeconds_34 : decode cX6_walkSeconds 34 = .ok (.istore 4, 2) := by decide +kernel
theorem dX6_walkSeconds_36 : decode cX6_walkSeconds 36 = .ok (.iload_n 2, 1) := by decide +kernel
theorem dX6_walkSeconds_37 : decode cX6_walkSeconds 37 = .ok (.iload_n 1, 1) := by decide +kernel
theorem dX6_walkSeconds_38 : decode cX6_walkSeconds 38 = .ok (.isub, 1) := by decide +kernel
theorem dX6_walkSeconds_39 : decode cX6_walkSeconds 39 = .ok (.invokestatic 68, 3) := by decide +kernel
theorem dX6_walkSeconds_42 : decode cX6_walkSeconds 42 = .ok (.aload_n 0, 1) := by decide +kernel
theorem dX6_walkSeconds_43 : decode cX6_walkSeconds 43 = .ok (.getfield 23, 3) := by decide +kernel
theorem dX6_walkSeconds_46 : decode cX6_walkSeconds 46 = .ok (.iload_n 3, 1) := by decide +kernel
theorem dX6_walkSeconds_47 : decode cX6_walkSeconds 47 = .ok (.aaload, 1) := by decide +kernel
theorem dX6_walkSeconds_48 : decode cX6_walkSeconds 48 = .ok (.iconst 0, 1) := by decide +kernel
theorem dX6_walkSeconds_49 : decode cX6_walkSeconds 49 = .ok (.iaload, 1) := by decide +kernel
theorem dX6_walkSeconds_50 : decode cX6_walkSeconds 50 = .ok (.imul, 1) := by decide +kernel
theorem dX6_walkSeconds_51 : decode cX6_walkSeconds 51 = .ok (.iload 4, 2) := by decide +kernel
theorem dX6_walkSeconds_53 : decode cX6_walkSeconds 53 = .ok (.aload_n 0, 1) := by decide +kernel
theorem dX6_walkSeconds_54 : decode cX6_walkSeconds 54 = .ok (.getfield 23, 3) := by decide +kernel
theorem dX6_walkSeconds_57 : decode cX6_walkSeconds 57 = .ok (.iload_n 3, 1) := by decide +kernel
theorem dX6_walkSeconds_58 : decode cX6_walkSeconds 58 = .ok (.aaload, 1) := by decide +kernel
theorem dX6_walkSeconds_59 : decode cX6_walkSeconds 59 = .ok (.iconst 1, 1) := by decide +kernel
theorem dX6_walkSeconds_60 : decode cX6_walkSeconds 60 = .ok (.iaload, 1) := by decide +kernel
theorem dX6_walkSeconds_61 : decode cX6_walkSeconds 61 = .ok (.imul, 1) := by decide +kernel
theorem dX6_walkSeconds_62 : decode cX6_walkSeconds 62 = .ok (.iadd, 1) := by decide +kernel
theorem dX6_walkSeconds_63 : decode cX6_walkSeconds 63 = .ok (.ireturn, 1) := by decide +kernel
theorem dX6_openSet_0 : decode cX6_openSet 0 = .ok (.iconst 0, 1) := by decide +kernel
theorem dX6_openSet_1 : decode cX6_openSet 1 = .ok (.istore_n 1, 1) := by decide +kernel
theorem dX6_openSet_2 : decode cX6_openSet 2 = .ok (.iconst 0, 1) := by decide +kernel
theorem dX6_openSet_3 : decode cX6_openSet 3 = .ok (.istore_n 2, 1) := by decide +kernel
theorem dX6_openSet_4 : decode cX6_openSet 4 = .ok (.iload_n 2, 1) := by decide +kernel
theorem dX6_openSet_5 : decode cX6_openSet 5 = .ok (.aload_n 0, 1) := by decide +kernel
theorem dX6_openSet_6 : decode cX6_openSet 6 = .ok (.getfield 39, 3) := by decide +kernel
theorem dX6_openSet_9 : decode cX6_openSet 9 = .ok (.if_icmp .ge 26, 3) := by decide +kernel
theorem dX6_openSet_12 : decode cX6_openSet 12 = .ok (.iload_n 1, 1) := by decide +kernel
theorem dX6_openSet_13 : decode cX6_openSet 13 = .ok (.aload_n 0, 1) := by decide +kernel
theorem dX6_openSet_14 : decode cX6_openSet 14 = .ok (.getfield 35, 3) := by decide +kernel
theorem dX6_openSet_17 : decode cX6_openSet 17 = .ok (.iload_n 2, 1) := by decide +kernel
theorem dX6_openSet_18 : decode cX6_openSet 18 = .ok (.aaload, 1) := by decide +kernel
theorem dX6_openSet_19 : decode cX6_openSet 19 = .ok (.getfield 72, 3) := by decide +kernel
theorem dX6_openSet_22 : decode cX6_openSet 22 = .ok (.invokestatic 76, 3) := by decide +kernel
theorem dX6_openSet_25 : decode cX6_openSet 25 = .ok (.iload_n 2, 1) := by decide +kernel
theorem dX6_openSet_26 : decode cX6_openSet 26 = .ok (.ishl, 1) := by decide +kernel
theorem dX6_openSet_27 : decode cX6_openSet 27 = .ok (.ior, 1) := by decide +kernel
theorem dX6_openSet_28 : decode cX6_openSet 28 = .ok (.istore_n 1, 1) := by decide +kernel
theorem dX6_openSet_29 : decode cX6_openSet 29 = .ok (.iinc 2 1, 3) := by decide +kernel
theorem dX6_openSet_32 : decode cX6_openSet 32 = .ok (.goto (-28), 3) := by decide +kernel
theorem dX6_openSet_35 : decode cX6_openSet 35 = .ok (.iload_n 1, 1) := by decide +kernel
theorem dX6_openSet_36 : decode cX6_openSet 36 = .ok (.ireturn, 1) := by decide +kernel
theorem dX6_setCount_0 : decode cX6_setCount 0 = .ok (.iconst 1, 1) := by decide +kernel
theorem dX6_setCount_1 : decode cX6_setCount 1 = .ok (.aload_n 0, 1) := by decide +kernel
theorem dX6_setCount_2 : decode cX6_setCount 2 = .ok (.getfield 39, 3) := by decide +kernel
theorem dX6_setCount_5 : decode cX6_setCount 5 = .ok (.ishl, 1) := by decide +kernel
theorem dX6_setCount_6 : decode cX6_setCount 6 = .ok (.ireturn, 1) := by decide +kernel
theorem dX6_peopleBut_0 : decode cX6_peopleBut 0 = .ok (.iconst 0, 1) := by decide +kernel
theorem dX6_peopleBut_1 : decode cX6_peopleBut 1 = .ok (.istore_n 2, 1) := by decide +kernel
theorem dX6_peopleBut_2 : decode cX6_peopleBut 2 = .ok (.iconst 0, 1) := by decide +kernel
theorem dX6_peopleBut_3 : decode cX6_peopleBut 3 = .ok (.istore_n 3, 1) := by decide +kernel
theorem dX6_peopleBut_4 : decode cX6_peopleBut 4 = .ok (.iload_n 3, 1) := by decide +kernel
theorem dX6_peopleBut_5 : decode cX6_peopleBut 5 = .ok (.aload_n 0, 1) := by decide +kernel
theorem dX6_peopleBut_6 : decode cX6_peopleBut 6 = .ok (.getfield 48, 3) := by decide +kernel
theorem dX6_peopleBut_9 : decode cX6_peopleBut 9 = .ok (.if_icmp .ge 33, 3) := by decide +kernel
theorem dX6_peopleBut_12 : decode cX6_peopleBut 12 = .ok (.iload_n 2, 1) := by decide +kernel
theorem dX6_peopleBut_13 : decode cX6_peopleBut 13 = .ok (.iload_n 1, 1) := by decide +kernel
theorem dX6_peopleBut_14 : decode cX6_peopleBut 14 = .ok (.iconst 1, 1) := by decide +kernel
theorem dX6_peopleBut_15 : decode cX6_peopleBut 15 = .ok (.iload_n 3, 1) := by decide +kernel
theorem dX6_peopleBut_16 : decode cX6_peopleBut 16 = .ok (.ishl, 1) := by decide +kernel
theorem dX6_peopleBut_17 : decode cX6_peopleBut 17 = .ok (.iand, 1) := by decide +kernel
theorem dX6_peopleBut_18 : decode cX6_peopleBut 18 = .ok (.ifCond .ne 15, 3) := by decide +kernel
theorem dX6_peopleBut_21 : decode cX6_peopleBut 21 = .ok (.aload_n 0, 1) := by decide +kernel
theorem dX6_peopleBut_22 : decode cX6_peopleBut 22 = .ok (.getfield 44, 3) := by decide +kernel
theorem dX6_peopleBut_25 : decode cX6_peopleBut 25 = .ok (.iload_n 3, 1) := by decide +kernel
theorem dX6_peopleBut_26 : decode cX6_peopleBut 26 = .ok (.aaload, 1) := by decide +kernel
theorem dX6_peopleBut_27 : decode cX6_peopleBut 27 = .ok (.getfield 80, 3) := by decide +kernel
theorem dX6_peopleBut_30 : decode cX6_peopleBut 30 = .ok (.goto 4, 3) := by decide +kernel
theorem dX6_peopleBut_33 : decode cX6_peopleBut 33 = .ok (.iconst 0, 1) := by decide +kernel
theorem dX6_peopleBut_34 : decode cX6_peopleBut 34 = .ok (.iadd, 1) := by decide +kernel
theorem dX6_peopleBut_35 : decode cX6_peopleBut 35 = .ok (.istore_n 2, 1) := by decide +kernel
theorem dX6_peopleBut_36 : decode cX6_peopleBut 36 = .ok (.iinc 3 1, 3) := by decide +kernel
theorem dX6_peopleBut_39 : decode cX6_peopleBut 39 = .ok (.goto (-35), 3) := by decide +kernel
theorem dX6_peopleBut_42 : decode cX6_peopleBut 42 = .ok (.iload_n 2, 1) := by decide +kernel
theorem dX6_peopleBut_43 : decode cX6_peopleBut 43 = .ok (.ireturn, 1) := by decide +kernel
theorem dX7_init_0 : decode cX7_init 0 = .ok (.aload_n 0, 1) := by decide +kernel
theorem dX7_init_1 : decode cX7_init 1 = .ok (.invokespecial 1, 3) := by decide +kernel
theorem dX7_init_4 : decode cX7_init 4 = .ok (.return_, 1) := by decide +kernel
theorem dX7_begin_0 : decode cX7_begin 0 = .ok (.aload_n 0, 1) := by decide +kernel
theorem dX7_begin_1 : decode cX7_begin 1 = .ok (.iload_n 1, 1) := by decide +kernel
theorem dX7_begin_2 : decode cX7_begin 2 = .ok (.putfield 7, 3) := by decide +kernel
theorem dX7_begin_5 : decode cX7_begin 5 = .ok (.aload_n 0, 1) := by decide +kernel
theorem dX7_begin_6 : decode cX7_begin 6 = .ok (.iload_n 2, 1) := by decide +kernel
theorem dX7_begin_7 : decode cX7_begin 7 = .ok (.putfield 13, 3) := by decide +kernel
theorem dX7_begin_10 : decode cX7_begin 10 = .ok (.aload_n 0, 1) := by decide +kernel
theorem dX7_begin_11 : decode cX7_begin 11 = .ok (.iload_n 3, 1) := by decide +kernel
theorem dX7_begin_12 : decode cX7_begin 12 = .ok (.putfield 16, 3) := by decide +kernel
theorem dX7_begin_15 : decode cX7_begin 15 = .ok (.aload_n 0, 1) := by decide +kernel
theorem dX7_begin_16 : decode cX7_begin 16 = .ok (.iload 4, 2) := by decide +kernel
theorem dX7_begin_18 : decode cX7_begin 18 = .ok (.putfield 19, 3) := by decide +kernel
theorem dX7_begin_21 : decode cX7_begin 21 = .ok (.return_, 1) := by decide +kernel
theorem dX8_init_0 : decode cX8_init 0 = .ok (.aload_n 0, 1) := by decide +kernel
theorem dX8_init_1 : decode cX8_init 1 = .ok (.invokespecial 3, 3) := by decide +kernel
theorem dX8_init_4 : decode cX8_init 4 = .ok (.aload_n 0, 1) := by decide +kernel
theorem dX8_init_5 : decode cX8_init 5 = .ok (.bipush 8, 2) := by decide +kernel
theorem dX8_init_7 : decode cX8_init 7 = .ok (.newarray .int, 2) := by decide +kernel
theorem dX8_init_9 : decode cX8_init 9 = .ok (.putfield 9, 3) := by decide +kernel
theorem dX8_init_12 : decode cX8_init 12 = .ok (.aload_n 0, 1) := by decide +kernel
theorem dX8_init_13 : decode cX8_init 13 = .ok (.bipush 8, 2) := by decide +kernel
theorem dX8_init_15 : decode cX8_init 15 = .ok (.newarray .int, 2) := by decide +kernel
theorem dX8_init_17 : decode cX8_init 17 = .ok (.putfield 15, 3) := by decide +kernel
theorem dX8_init_20 : decode cX8_init 20 = .ok (.aload_n 0, 1) := by decide +kernel
theorem dX8_init_21 : decode cX8_init 21 = .ok (.bipush 8, 2) := by decide +kernel
theorem dX8_init_23 : decode cX8_init 23 = .ok (.newarray .int, 2) := by decide +kernel
theorem dX8_init_25 : decode cX8_init 25 = .ok (.putfield 18, 3) := by decide +kernel
theorem dX8_init_28 : decode cX8_init 28 = .ok (.aload_n 0, 1) := by decide +kernel
theorem dX8_init_29 : decode cX8_init 29 = .ok (.bipush 8, 2) := by decide +kernel
theorem dX8_init_31 : decode cX8_init 31 = .ok (.bipush 8, 2) := by decide +kernel
theorem dX8_init_33 : decode cX8_init 33 = .ok (.multianewarray 21 2, 4) := by decide +kernel
theorem dX8_init_37 : decode cX8_init 37 = .ok (.putfield 23, 3) := by decide +kernel
theorem dX8_init_40 : decode cX8_init 40 = .ok (.aload_n 0, 1) := by decide +kernel
theorem dX8_init_41 : decode cX8_init 41 = .ok (.bipush 8, 2) := by decide +kernel
theorem dX8_init_43 : decode cX8_init 43 = .ok (.bipush 8, 2) := by decide +kernel
theorem dX8_init_45 : decode cX8_init 45 = .ok (.multianewarray 21 2, 4) := by decide +kernel
theorem dX8_init_49 : decode cX8_init 49 = .ok (.putfield 26, 3) := by decide +kernel
theorem dX8_init_52 : decode cX8_init 52 = .ok (.aload_n 0, 1) := by decide +kernel
theorem dX8_init_53 : decode cX8_init 53 = .ok (.bipush 8, 2) := by decide +kernel
theorem dX8_init_55 : decode cX8_init 55 = .ok (.newarray .int, 2) := by decide +kernel
theorem dX8_init_57 : decode cX8_init 57 = .ok (.putfield 29, 3) := by decide +kernel
theorem dX8_init_60 : decode cX8_init 60 = .ok (.aload_n 0, 1) := by decide +kernel
theorem dX8_init_61 : decode cX8_init 61 = .ok (.iconst 0, 1) := by decide +kernel
theorem dX8_init_62 : decode cX8_init 62 = .ok (.putfield 32, 3) := by decide +kernel
theorem dX8_init_65 : decode cX8_init 65 = .ok (.aload_n 0, 1) := by decide +kernel
theorem dX8_init_66 : decode cX8_init 66 = .ok (.iconst 2, 1) := by decide +kernel
theorem dX8_init_67 : decode cX8_init 67 = .ok (.bipush 42, 2) := by decide +kernel
theorem dX8_init_69 : decode cX8_init 69 = .ok (.multianewarray 21 2, 4) := by decide +kernel
theorem dX8_init_73 : decode cX8_init 73 = .ok (.putfield 36, 3) := by decide +kernel
theorem dX8_init_76 : decode cX8_init 76 = .ok (.aload_n 0, 1) := by decide +kernel
theorem dX8_init_77 : decode cX8_init 77 = .ok (.bipush 8, 2) := by decide +kernel
theorem dX8_init_79 : decode cX8_init 79 = .ok (.bipush 8, 2) := by decide +kernel
theorem dX8_init_81 : decode cX8_init 81 = .ok (.multianewarray 21 2, 4) := by decide +kernel
theorem dX8_init_85 : decode cX8_init 85 = .ok (.putfield 39, 3) := by decide +kernel
theorem dX8_init_88 : decode cX8_init 88 = .ok (.aload_n 0, 1) := by decide +kernel
theorem dX8_init_89 : decode cX8_init 89 = .ok (.bipush 8, 2) := by decide +kernel
theorem dX8_init_91 : decode cX8_init 91 = .ok (.bipush 8, 2) := by decide +kernel
theorem dX8_init_93 : decode cX8_init 93 = .ok (.multianewarray 21 2, 4) := by decide +kernel
theorem dX8_init_97 : decode cX8_init 97 = .ok (.putfield 42, 3) := by decide +kernel
theorem dX8_init_100 : decode cX8_init 100 = .ok (.aload_n 0, 1) := by decide +kernel
theorem dX8_init_101 : decode cX8_init 101 = .ok (.bipush 8, 2) := by decide +kernel
theorem dX8_init_103 : decode cX8_init 103 = .ok (.newarray .int, 2) := by decide +kernel
theorem dX8_init_105 : decode cX8_init 105 = .ok (.putfield 45, 3) := by decide +kernel
theorem dX8_init_108 : decode cX8_init 108 = .ok (.aload_n 0, 1) := by decide +kernel
theorem dX8_init_109 : decode cX8_init 109 = .ok (.bipush 8, 2) := by decide +kernel
theorem dX8_init_111 : decode cX8_init 111 = .ok (.newarray .int, 2) := by decide +kernel
theorem dX8_init_113 : decode cX8_init 113 = .ok (.putfield 48, 3) := by decide +kernel
theorem dX8_init_116 : decode cX8_init 116 = .ok (.aload_n 0, 1) := by decide +kernel
theorem dX8_init_117 : decode cX8_init 117 = .ok (.bipush 8, 2) := by decide +kernel
theorem dX8_init_119 : decode cX8_init 119 = .ok (.newarray .int, 2) := by decide +kernel
theorem dX8_init_121 : decode cX8_init 121 = .ok (.putfield 51, 3) := by decide +kernel
theorem dX8_init_124 : decode cX8_init 124 = .ok (.aload_n 0, 1) := by decide +kernel
theorem dX8_init_125 : decode cX8_init 125 = .ok (.bipush 8, 2) := by decide +kernel
theorem dX8_init_127 : decode cX8_init 127 = .ok (.newarray .int, 2) := by decide +kernel
theorem dX8_init_129 : decode cX8_init 129 = .ok (.putfield 54, 3) := by decide +kernel
theorem dX8_init_132 : decode cX8_init 132 = .ok (.aload_n 0, 1) := by decide +kernel
theorem dX8_init_133 : decode cX8_init 133 = .ok (.bipush 8, 2) := by decide +kernel
theorem dX8_init_135 : decode cX8_init 135 = .ok (.newarray .int, 2) := by decide +kernel
theorem dX8_init_137 : decode cX8_init 137 = .ok (.putfield 57, 3) := by decide +kernel
theorem dX8_init_140 : decode cX8_init 140 = .ok (.aload_n 0, 1) := by decide +kernel
theorem dX8_init_141 : decode cX8_init 141 = .ok (.bipush 8, 2) := by decide +kernel
theorem dX8_init_143 : decode cX8_init 143 = .ok (.newarray .int, 2) := by decide +kernel
theorem dX8_init_145 : decode cX8_init 145 = .ok (.putfield 60, 3) := by decide +kernel
theorem dX8_init_148 : decode cX8_init 148 = .ok (.aload_n 0, 1) := by decide +kernel
theorem dX8_init_149 : decode cX8_init 149 = .ok (.aload_n 1, 1) := by decide +kernel
theorem dX8_init_150 : decode cX8_init 150 = .ok (.putfield 63, 3) := by decide +kernel
theorem dX8_init_153 : decode cX8_init 153 = .ok (.return_, 1) := by decide +kernel
theorem dX8_measure_0 : decode cX8_measure 0 = .ok (.iconst 0, 1) := by decide +kernel
theorem dX8_measure_1 : decode cX8_measure 1 = .ok (.istore_n 1, 1) := by decide +kernel
theorem dX8_measure_2 : decode cX8_measure 2 = .ok (.iload_n 1, 1) := by decide +kernel
theorem dX8_measure_3 : decode cX8_measure 3 = .ok (.aload_n 0, 1) := by decide +kernel
theorem dX8_measure_4 : decode cX8_measure 4 = .ok (.getfield 63, 3) := by decide +kernel
theorem dX8_measure_7 : decode cX8_measure 7 = .ok (.getfield 67, 3) := by decide +kernel
theorem dX8_measure_10 : decode cX8_measure 10 = .ok (.if_icmp .ge 69, 3) := by decide +kernel
theorem dX8_measure_13 : decode cX8_measure 13 = .ok (.aload_n 0, 1) := by decide +kernel
theorem dX8_measure_14 : decode cX8_measure 14 = .ok (.getfield 9, 3) := by decide +kernel
theorem dX8_measure_17 : decode cX8_measure 17 = .ok (.iload_n 1, 1) := by decide +kernel
theorem dX8_measure_18 : decode cX8_measure 18 = .ok (.aload_n 0, 1) := by decide +kernel
theorem dX8_measure_19 : decode cX8_measure 19 = .ok (.getfield 63, 3) := by decide +kernel
theorem dX8_measure_22 : decode cX8_measure 22 = .ok (.getfield 72, 3) := by decide +kernel
theorem dX8_measure_25 : decode cX8_measure 25 = .ok (.iload_n 1, 1) := by decide +kernel
theorem dX8_measure_26 : decode cX8_measure 26 = .ok (.aaload, 1) := by decide +kernel
theorem dX8_measure_27 : decode cX8_measure 27 = .ok (.aload_n 0, 1) := by decide +kernel
theorem dX8_measure_28 : decode cX8_measure 28 = .ok (.getfield 63, 3) := by decide +kernel
theorem dX8_measure_31 : decode cX8_measure 31 = .ok (.getfield 72, 3) := by decide +kernel
theorem dX8_measure_34 : decode cX8_measure 34 = .ok (.iload_n 1, 1) := by decide +kernel
theorem dX8_measure_35 : decode cX8_measure 35 = .ok (.aaload, 1) := by decide +kernel
theorem dX8_measure_36 : decode cX8_measure 36 = .ok (.getfield 76, 3) := by decide +kernel
theorem dX8_measure_39 : decode cX8_measure 39 = .ok (.invokevirtual 81, 3) := by decide +kernel
theorem dX8_measure_42 : decode cX8_measure 42 = .ok (.iastore, 1) := by decide +kernel
theorem dX8_measure_43 : decode cX8_measure 43 = .ok (.aload_n 0, 1) := by decide +kernel
theorem dX8_measure_44 : decode cX8_measure 44 = .ok (.getfield 15, 3) := by decide +kernel
theorem dX8_measure_47 : decode cX8_measure 47 = .ok (.iload_n 1, 1) := by decide +kernel
theorem dX8_measure_48 : decode cX8_measure 48 = .ok (.aload_n 0, 1) := by decide +kernel
theorem dX8_measure_49 : decode cX8_measure 49 = .ok (.getfield 63, 3) := by decide +kernel
theorem dX8_measure_52 : decode cX8_measure 52 = .ok (.getfield 72, 3) := by decide +kernel
theorem dX8_measure_55 : decode cX8_measure 55 = .ok (.iload_n 1, 1) := by decide +kernel
theorem dX8_measure_56 : decode cX8_measure 56 = .ok (.aaload, 1) := by decide +kernel
theorem dX8_measure_57 : decode cX8_measure 57 = .ok (.aload_n 0, 1) := by decide +kernel
theorem dX8_measure_58 : decode cX8_measure 58 = .ok (.getfield 63, 3) := by decide +kernel
theorem dX8_measure_61 : decode cX8_measure 61 = .ok (.getfield 72, 3) := by decide +kernel
theorem dX8_measure_64 : decode cX8_measure 64 = .ok (.iload_n 1, 1) := by decide +kernel
theorem dX8_measure_65 : decode cX8_measure 65 = .ok (.aaload, 1) := by decide +kernel
theorem dX8_measure_66 : decode cX8_measure 66 = .ok (.getfield 85, 3) := by decide +kernel
theorem dX8_measure_69 : decode cX8_measure 69 = .ok (.invokevirtual 88, 3) := by decide +kernel
theorem dX8_measure_72 : decode cX8_measure 72 = .ok (.iastore, 1) := by decide +kernel
theorem dX8_measure_73 : decode cX8_measure 73 = .ok (.iinc 1 1, 3) := by decide +kernel
theorem dX8_measure_76 : decode cX8_measure 76 = .ok (.goto (-74), 3) := by decide +kernel
theorem dX8_measure_79 : decode cX8_measure 79 = .ok (.iconst 0, 1) := by decide +kernel
theorem dX8_measure_80 : decode cX8_measure 80 = .ok (.istore_n 1, 1) := by decide +kernel
theorem dX8_measure_81 : decode cX8_measure 81 = .ok (.iload_n 1, 1) := by decide +kernel
theorem dX8_measure_82 : decode cX8_measure 82 = .ok (.aload_n 0, 1) := by decide +kernel
theorem dX8_measure_83 : decode cX8_measure 83 = .ok (.getfield 63, 3) := by decide +kernel
theorem dX8_measure_86 : decode cX8_measure 86 = .ok (.getfield 91, 3) := by decide +kernel
theorem dX8_measure_89 : decode cX8_measure 89 = .ok (.if_icmp .ge 133, 3) := by decide +kernel
theorem dX8_measure_92 : decode cX8_measure 92 = .ok (.aload_n 0, 1) := by decide +kernel
theorem dX8_measure_93 : decode cX8_measure 93 = .ok (.getfield 63, 3) := by decide +kernel
theorem dX8_measure_96 : decode cX8_measure 96 = .ok (.getfield 94, 3) := by decide +kernel
theorem dX8_measure_99 : decode cX8_measure 99 = .ok (.iload_n 1, 1) := by decide +kernel
theorem dX8_measure_100 : decode cX8_measure 100 = .ok (.aaload, 1) := by decide +kernel
theorem dX8_measure_101 : decode cX8_measure 101 = .ok (.astore_n 2, 1) := by decide +kernel
theorem dX8_measure_102 : decode cX8_measure 102 = .ok (.aload_n 0, 1) := by decide +kernel
theorem dX8_measure_103 : decode cX8_measure 103 = .ok (.getfield 18, 3) := by decide +kernel
theorem dX8_measure_106 : decode cX8_measure 106 = .ok (.iload_n 1, 1) := by decide +kernel
theorem dX8_measure_107 : decode cX8_measure 107 = .ok (.aload_n 0, 1) := by decide +kernel
theorem dX8_measure_108 : decode cX8_measure 108 = .ok (.getfield 63, 3) := by decide +kernel
theorem dX8_measure_111 : decode cX8_measure 111 = .ok (.aload_n 2, 1) := by decide +kernel
theorem dX8_measure_112 : decode cX8_measure 112 = .ok (.getfield 98, 3) := by decide +kernel
theorem dX8_measure_115 : decode cX8_measure 115 = .ok (.aload_n 2, 1) := by decide +kernel
theorem dX8_measure_116 : decode cX8_measure 116 = .ok (.getfield 103, 3) := by decide +kernel
theorem dX8_measure_119 : decode cX8_measure 119 = .ok (.aload_n 2, 1) := by decide +kernel
theorem dX8_measure_120 : decode cX8_measure 120 = .ok (.getfield 106, 3) := by decide +kernel
theorem dX8_measure_123 : decode cX8_measure 123 = .ok (.invokevirtual 109, 3) := by decide +kernel
theorem dX8_measure_126 : decode cX8_measure 126 = .ok (.iastore, 1) := by decide +kernel
theorem dX8_measure_127 : decode cX8_measure 127 = .ok (.iconst 0, 1) := by decide +kernel
theorem dX8_measure_128 : decode cX8_measure 128 = .ok (.istore_n 3, 1) := by decide +kernel
theorem dX8_measure_129 : decode cX8_measure 129 = .ok (.iload_n 3, 1) := by decide +kernel
theorem dX8_measure_130 : decode cX8_measure 130 = .ok (.aload_n 0, 1) := by decide +kernel
theorem dX8_measure_131 : decode cX8_measure 131 = .ok (.getfield 63, 3) := by decide +kernel
theorem dX8_measure_134 : decode cX8_measure 134 = .ok (.getfield 67, 3) := by decide +kernel
theorem dX8_measure_137 : decode cX8_measure 137 = .ok (.if_icmp .ge 79, 3) := by decide +kernel
theorem dX8_measure_140 : decode cX8_measure 140 = .ok (.aload_n 0, 1) := by decide +kernel
theorem dX8_measure_141 : decode cX8_measure 141 = .ok (.getfield 23, 3) := by decide +kernel
theorem dX8_measure_144 : decode cX8_measure 144 = .ok (.iload_n 1, 1) := by decide +kernel
theorem dX8_measure_145 : decode cX8_measure 145 = .ok (.aaload, 1) := by decide +kernel
theorem dX8_measure_146 : decode cX8_measure 146 = .ok (.iload_n 3, 1) := by decide +kernel
theorem dX8_measure_147 : decode cX8_measure 147 = .ok (.aload_n 0, 1) := by decide +kernel
theorem dX8_measure_148 : decode cX8_measure 148 = .ok (.getfield 63, 3) := by decide +kernel
theorem dX8_measure_151 : decode cX8_measure 151 = .ok (.aload_n 2, 1) := by decide +kernel
theorem dX8_measure_152 : decode cX8_measure 152 = .ok (.getfield 98, 3) := by decide +kernel
theorem dX8_measure_155 : decode cX8_measure 155 = .ok (.aload_n 0, 1) := by decide +kernel
theorem dX8_measure_156 : decode cX8_measure 156 = .ok (.getfield 63, 3) := by decide +kernel
theorem dX8_measure_159 : decode cX8_measure 159 = .ok (.getfield 72, 3) := by decide +kernel
theorem dX8_measure_162 : decode cX8_measure 162 = .ok (.iload_n 3, 1) := by decide +kernel
theorem dX8_measure_163 : decode cX8_measure 163 = .ok (.aaload, 1) := by decide +kernel
theorem dX8_measure_164 : decode cX8_measure 164 = .ok (.getfield 113, 3) := by decide +kernel
theorem dX8_measure_167 : decode cX8_measure 167 = .ok (.aload_n 2, 1) := by decide +kernel
theorem dX8_measure_168 : decode cX8_measure 168 = .ok (.getfield 106, 3) := by decide +kernel
theorem dX8_measure_171 : decode cX8_measure 171 = .ok (.invokevirtual 109, 3) := by decide +kernel
theorem dX8_measure_174 : decode cX8_measure 174 = .ok (.iastore, 1) := by decide +kernel
theorem dX8_measure_175 : decode cX8_measure 175 = .ok (.aload_n 0, 1) := by decide +kernel
theorem dX8_measure_176 : decode cX8_measure 176 = .ok (.getfield 26, 3) := by decide +kernel
theorem dX8_measure_179 : decode cX8_measure 179 = .ok (.iload_n 1, 1) := by decide +kernel
theorem dX8_measure_180 : decode cX8_measure 180 = .ok (.aaload, 1) := by decide +kernel
theorem dX8_measure_181 : decode cX8_measure 181 = .ok (.iload_n 3, 1) := by decide +kernel
theorem dX8_measure_182 : decode cX8_measure 182 = .ok (.aload_n 0, 1) := by decide +kernel
theorem dX8_measure_183 : decode cX8_measure 183 = .ok (.getfield 63, 3) := by decide +kernel
theorem dX8_measure_186 : decode cX8_measure 186 = .ok (.aload_n 0, 1) := by decide +kernel
theorem dX8_measure_187 : decode cX8_measure 187 = .ok (.getfield 63, 3) := by decide +kernel
theorem dX8_measure_190 : decode cX8_measure 190 = .ok (.getfield 72, 3) := by decide +kernel
theorem dX8_measure_193 : decode cX8_measure 193 = .ok (.iload_n 3, 1) := by decide +kernel
theorem dX8_measure_194 : decode cX8_measure 194 = .ok (.aaload, 1) := by decide +kernel
theorem dX8_measure_195 : decode cX8_measure 195 = .ok (.getfield 113, 3) := by decide +kernel
theorem dX8_measure_198 : decode cX8_measure 198 = .ok (.aload_n 2, 1) := by decide +kernel
theorem dX8_measure_199 : decode cX8_measure 199 = .ok (.getfield 103, 3) := by decide +kernel
theorem dX8_measure_202 : decode cX8_measure 202 = .ok (.aload_n 2, 1) := by decide +kernel
theorem dX8_measure_203 : decode cX8_measure 203 = .ok (.getfield 106, 3) := by decide +kernel
theorem dX8_measure_206 : decode cX8_measure 206 = .ok (.invokevirtual 109, 3) := by decide +kernel
theorem dX8_measure_209 : decode cX8_measure 209 = .ok (.iastore, 1) := by decide +kernel
theorem dX8_measure_210 : decode cX8_measure 210 = .ok (.iinc 3 1, 3) := by decide +kernel
theorem dX8_measure_213 : decode cX8_measure 213 = .ok (.goto (-84), 3) := by decide +kernel
theorem dX8_measure_216 : decode cX8_measure 216 = .ok (.iinc 1 1, 3) := by decide +kernel
theorem dX8_measure_219 : decode cX8_measure 219 = .ok (.goto (-138), 3) := by decide +kernel
theorem dX8_measure_222 : decode cX8_measure 222 = .ok (.return_, 1) := by decide +kernel
theorem dX8_look_0 : decode cX8_look 0 = .ok (.aload_n 0, 1) := by decide +kernel
theorem dX8_look_1 : decode cX8_look 1 = .ok (.iconst 0, 1) := by decide +kernel
theorem dX8_look_2 : decode cX8_look 2 = .ok (.putfield 32, 3) := by decide +kernel
theorem dX8_look_5 : decode cX8_look 5 = .ok (.iconst 0, 1) := by decide +kernel
theorem dX8_look_6 : decode cX8_look 6 = .ok (.istore_n 3, 1) := by decide +kernel
theorem dX8_look_7 : decode cX8_look 7 = .ok (.iload_n 3, 1) := by decide +kernel
theorem dX8_look_8 : decode cX8_look 8 = .ok (.aload_n 0, 1) := by decide +kernel
theorem dX8_look_9 : decode cX8_look 9 = .ok (.getfield 63, 3) := by decide +kernel
theorem dX8_look_12 : decode cX8_look 12 = .ok (.getfield 67, 3) := by decide +kernel
theorem dX8_look_15 : decode cX8_look 15 = .ok (.if_icmp .ge 37, 3) := by decide +kernel
theorem dX8_look_18 : decode cX8_look 18 = .ok (.iload_n 1, 1) := by decide +kernel
theorem dX8_look_19 : decode cX8_look 19 = .ok (.iconst 1, 1) := by decide +kernel
theorem dX8_look_20 : decode cX8_look 20 = .ok (.iload_n 3, 1) := by decide +kernel
theorem dX8_look_21 : decode cX8_look 21 = .ok (.ishl, 1) := by decide +kernel
theorem dX8_look_22 : decode cX8_look 22 = .ok (.iand, 1) := by decide +kernel
theorem dX8_look_23 : decode cX8_look 23 = .ok (.ifCond .eq 23, 3) := by decide +kernel
theorem dX8_look_26 : decode cX8_look 26 = .ok (.aload_n 0, 1) := by decide +kernel
theorem dX8_look_27 : decode cX8_look 27 = .ok (.getfield 29, 3) := by decide +kernel
theorem dX8_look_30 : decode cX8_look 30 = .ok (.aload_n 0, 1) := by decide +kernel
theorem dX8_look_31 : decode cX8_look 31 = .ok (.getfield 32, 3) := by decide +kernel
theorem dX8_look_34 : decode cX8_look 34 = .ok (.iload_n 3, 1) := by decide +kernel
theorem dX8_look_35 : decode cX8_look 35 = .ok (.iastore, 1) := by decide +kernel
theorem dX8_look_36 : decode cX8_look 36 = .ok (.aload_n 0, 1) := by decide +kernel
theorem dX8_look_37 : decode cX8_look 37 = .ok (.dup, 1) := by decide +kernel
theorem dX8_look_38 : decode cX8_look 38 = .ok (.getfield 32, 3) := by decide +kernel
theorem dX8_look_41 : decode cX8_look 41 = .ok (.iconst 1, 1) := by decide +kernel
theorem dX8_look_42 : decode cX8_look 42 = .ok (.iadd, 1) := by decide +kernel
theorem dX8_look_43 : decode cX8_look 43 = .ok (.putfield 32, 3) := by decide +kernel
theorem dX8_look_46 : decode cX8_look 46 = .ok (.iinc 3 1, 3) := by decide +kernel
theorem dX8_look_49 : decode cX8_look 49 = .ok (.goto (-42), 3) := by decide +kernel
theorem dX8_look_52 : decode cX8_look 52 = .ok (.aload_n 0, 1) := by decide +kernel
theorem dX8_look_53 : decode cX8_look 53 = .ok (.iconst 0, 1) := by decide +kernel
theorem dX8_look_54 : decode cX8_look 54 = .ok (.invokevirtual 116, 3) := by decide +kernel
theorem dX8_look_57 : decode cX8_look 57 = .ok (.aload_n 0, 1) := by decide +kernel
theorem dX8_look_58 : decode cX8_look 58 = .ok (.iconst 1, 1) := by decide +kernel
theorem dX8_look_59 : decode cX8_look 59 = .ok (.invokevirtual 116, 3) := by decide +kernel
theorem dX8_look_62 : decode cX8_look 62 = .ok (.iconst 0, 1) := by decide +kernel
theorem dX8_look_63 : decode cX8_look 63 = .ok (.istore_n 3, 1) := by decide +kernel
theorem dX8_look_64 : decode cX8_look 64 = .ok (.iload_n 3, 1) := by decide +kernel
theorem dX8_look_65 : decode cX8_look 65 = .ok (.aload_n 0, 1) := by decide +kernel
theorem dX8_look_66 : decode cX8_look 66 = .ok (.getfield 32, 3) := by decide +kernel
theorem dX8_look_69 : decode cX8_look 69 = .ok (.if_icmp .ge 47, 3) := by decide +kernel
theorem dX8_look_72 : decode cX8_look 72 = .ok (.iload_n 3, 1) := by decide +kernel
theorem dX8_look_73 : decode cX8_look 73 = .ok (.iconst 1, 1) := by decide +kernel
theorem dX8_look_74 : decode cX8_look 74 = .ok (.iadd, 1) := by decide +kernel
theorem dX8_look_75 : decode cX8_look 75 = .ok (.istore 4, 2) := by decide +kernel
theorem dX8_look_77 : decode cX8_look 77 = .ok (.iload 4, 2) := by decide +kernel
theorem dX8_look_79 : decode cX8_look 79 = .ok (.aload_n 0, 1) := by decide +kernel
theorem dX8_look_80 : decode cX8_look 80 = .ok (.getfield 32, 3) := by decide +kernel
theorem dX8_look_83 : decode cX8_look 83 = .ok (.if_icmp .ge 27, 3) := by decide +kernel
theorem dX8_look_86 : decode cX8_look 86 = .ok (.aload_n 0, 1) := by decide +kernel
theorem dX8_look_87 : decode cX8_look 87 = .ok (.aload_n 0, 1) := by decide +kernel
theorem dX8_look_88 : decode cX8_look 88 = .ok (.getfield 29, 3) := by decide +kernel
theorem dX8_look_91 : decode cX8_look 91 = .ok (.iload_n 3, 1) := by decide +kernel
theorem dX8_look_92 : decode cX8_look 92 = .ok (.iaload, 1) := by decide +kernel
theorem dX8_look_93 : decode cX8_look 93 = .ok (.aload_n 0, 1) := by decide +kernel
theorem dX8_look_94 : decode cX8_look 94 = .ok (.getfield 29, 3) := by decide +kernel
theorem dX8_look_97 : decode cX8_look 97 = .ok (.iload 4, 2) := by decide +kernel
theorem dX8_look_99 : decode cX8_look 99 = .ok (.iaload, 1) := by decide +kernel
theorem dX8_look_100 : decode cX8_look 100 = .ok (.iload_n 2, 1) := by decide +kernel
theorem dX8_look_101 : decode cX8_look 101 = .ok (.invokevirtual 120, 3) := by decide +kernel
theorem dX8_look_104 : decode cX8_look 104 = .ok (.iinc 4 1, 3) := by decide +kernel
theorem dX8_look_107 : decode cX8_look 107 = .ok (.goto (-30), 3) := by decide +kernel
theorem dX8_look_110 : decode cX8_look 110 = .ok (.iinc 3 1, 3) := by decide +kernel
theorem dX8_look_113 : decode cX8_look 113 = .ok (.goto (-49), 3) := by decide +kernel
theorem dX8_look_116 : decode cX8_look 116 = .ok (.iconst 0, 1) := by decide +kernel
theorem dX8_look_117 : decode cX8_look 117 = .ok (.istore_n 3, 1) := by decide +kernel
theorem dX8_look_118 : decode cX8_look 118 = .ok (.iload_n 3, 1) := by decide +kernel
theorem dX8_look_119 : decode cX8_look 119 = .ok (.aload_n 0, 1) := by decide +kernel
theorem dX8_look_120 : decode cX8_look 120 = .ok (.getfield 63, 3) := by decide +kernel
theorem dX8_look_123 : decode cX8_look 123 = .ok (.getfield 91, 3) := by decide +kernel
theorem dX8_look_126 : decode cX8_look 126 = .ok (.if_icmp .ge 14, 3) := by decide +kernel
theorem dX8_look_129 : decode cX8_look 129 = .ok (.aload_n 0, 1) := by decide +kernel
theorem dX8_look_130 : decode cX8_look 130 = .ok (.iload_n 3, 1) := by decide +kernel
theorem dX8_look_131 : decode cX8_look 131 = .ok (.invokevirtual 124, 3) := by decide +kernel
theorem dX8_look_134 : decode cX8_look 134 = .ok (.iinc 3 1, 3) := by decide +kernel
theorem dX8_look_137 : decode cX8_look 137 = .ok (.goto (-19), 3) := by decide +kernel
theorem dX8_look_140 : decode cX8_look 140 = .ok (.return_, 1) := by decide +kernel
theorem dX8_addUpStanding_0 : decode cX8_addUpStanding 0 = .ok (.aload_n 0, 1) := by decide +kernel
theorem dX8_addUpStanding_1 : decode cX8_addUpStanding 1 = .ok (.getfield 36, 3) := by decide +kernel
theorem dX8_addUpStanding_4 : decode cX8_addUpStanding 4 = .ok (.iload_n 1, 1) := by decide +kernel
theorem dX8_addUpStanding_5 : decode cX8_addUpStanding 5 = .ok (.aaload, 1) := by decide +kernel
theorem dX8_addUpStanding_6 : decode cX8_addUpStanding 6 = .ok (.astore_n 2, 1) := by decide +kernel
theorem dX8_addUpStanding_7 : decode cX8_addUpStanding 7 = .ok (.aload_n 2, 1) := by decide +kernel
theorem dX8_addUpStanding_8 : decode cX8_addUpStanding 8 = .ok (.iconst 0, 1) := by decide +kernel
theorem dX8_addUpStanding_9 : decode cX8_addUpStanding 9 = .ok (.invokestatic 127, 3) := by decide +kernel
theorem dX8_addUpStanding_12 : decode cX8_addUpStanding 12 = .ok (.iconst 0, 1) := by decide +kernel
theorem dX8_addUpStanding_13 : decode cX8_addUpStanding 13 = .ok (.istore_n 3, 1) := by decide +kernel
theorem dX8_addUpStanding_14 : decode cX8_addUpStanding 14 = .ok (.iload_n 3, 1) := by decide +kernel
theorem dX8_addUpStanding_15 : decode cX8_addUpStanding 15 = .ok (.aload_n 0, 1) := by decide +kernel
theorem dX8_addUpStanding_16 : decode cX8_addUpStanding 16 = .ok (.getfield 32, 3) := by decide +kernel
theorem dX8_addUpStanding_19 : decode cX8_addUpStanding 19 = .ok (.if_icmp .ge 58, 3) := by decide +kernel
theorem dX8_addUpStanding_22 : decode cX8_addUpStanding 22 = .ok (.aload_n 0, 1) := by decide +kernel
theorem dX8_addUpStanding_23 : decode cX8_addUpStanding 23 = .ok (.getfield 29, 3) := by decide +kernel
theorem dX8_addUpStanding_26 : decode cX8_addUpStanding 26 = .ok (.iload_n 3, 1) := by decide +kernel
theorem dX8_addUpStanding_27 : decode cX8_addUpStanding 27 = .ok (.iaload, 1) := by decide +kernel
theorem dX8_addUpStanding_28 : decode cX8_addUpStanding 28 = .ok (.istore 4, 2) := by decide +kernel
theorem dX8_addUpStanding_30 : decode cX8_addUpStanding 30 = .ok (.aload_n 0, 1) := by decide +kernel
theorem dX8_addUpStanding_31 : decode cX8_addUpStanding 31 = .ok (.getfield 9, 3) := by decide +kernel
theorem dX8_addUpStanding_34 : decode cX8_addUpStanding 34 = .ok (.iload 4, 2) := by decide +kernel
theorem dX8_addUpStanding_36 : decode cX8_addUpStanding 36 = .ok (.iaload, 1) := by decide +kernel
theorem dX8_addUpStanding_37 : decode cX8_addUpStanding 37 = .ok (.iconst 1, 1) := by decide +kernel
theorem dX8_addUpStanding_38 : decode cX8_addUpStanding 38 = .ok (.iload_n 1, 1) := by decide +kernel
theorem dX8_addUpStanding_39 : decode cX8_addUpStanding 39 = .ok (.ishl, 1) := by decide +kernel
theorem dX8_addUpStanding_40 : decode cX8_addUpStanding 40 = .ok (.iand, 1) := by decide +kernel
theorem dX8_addUpStanding_41 : decode cX8_addUpStanding 41 = .ok (.ifCond .eq 30, 3) := by decide +kernel
theorem dX8_addUpStanding_44 : decode cX8_addUpStanding 44 = .ok (.aload_n 2, 1) := by decide +kernel
theorem dX8_addUpStanding_45 : decode cX8_addUpStanding 45 = .ok (.aload_n 0, 1) := by decide +kernel
theorem dX8_addUpStanding_46 : decode cX8_addUpStanding 46 = .ok (.getfield 63, 3) := by decide +kernel
theorem dX8_addUpStanding_49 : decode cX8_addUpStanding 49 = .ok (.getfield 72, 3) := by decide +kernel
theorem dX8_addUpStanding_52 : decode cX8_addUpStanding 52 = .ok (.iload 4, 2) := by decide +kernel
theorem dX8_addUpStanding_54 : decode cX8_addUpStanding 54 = .ok (.aaload, 1) := by decide +kernel
theorem dX8_addUpStanding_55 : decode cX8_addUpStanding 55 = .ok (.getfield 113, 3) := by decide +kernel
theorem dX8_addUpStanding_58 : decode cX8_addUpStanding 58 = .ok (.iconst 1, 1) := by decide +kernel
theorem dX8_addUpStanding_59 : decode cX8_addUpStanding 59 = .ok (.iadd, 1) := by decide +kernel
theorem dX8_addUpStanding_60 : decode cX8_addUpStanding 60 = .ok (.dup2, 1) := by decide +kernel
theorem dX8_addUpStanding_61 : decode cX8_addUpStanding 61 = .ok (.iaload, 1) := by decide +kernel
theorem dX8_addUpStanding_62 : decode cX8_addUpStanding 62 = .ok (.aload_n 0, 1) := by decide +kernel
theorem dX8_addUpStanding_63 : decode cX8_addUpStanding 63 = .ok (.getfield 15, 3) := by decide +kernel
theorem dX8_addUpStanding_66 : decode cX8_addUpStanding 66 = .ok (.iload 4, 2) := by decide +kernel
theorem dX8_addUpStanding_68 : decode cX8_addUpStanding 68 = .ok (.iaload, 1) := by decide +kernel
theorem dX8_addUpStanding_69 : decode cX8_addUpStanding 69 = .ok (.iadd, 1) := by decide +kernel
theorem dX8_addUpStanding_70 : decode cX8_addUpStanding 70 = .ok (.iastore, 1) := by decide +kernel
theorem dX8_addUpStanding_71 : decode cX8_addUpStanding 71 = .ok (.iinc 3 1, 3) := by decide +kernel
theorem dX8_addUpStanding_74 : decode cX8_addUpStanding 74 = .ok (.goto (-60), 3) := by decide +kernel
theorem dX8_addUpStanding_77 : decode cX8_addUpStanding 77 = .ok (.iconst 1, 1) := by decide +kernel
theorem dX8_addUpStanding_78 : decode cX8_addUpStanding 78 = .ok (.istore_n 3, 1) := by decide +kernel
theorem dX8_addUpStanding_79 : decode cX8_addUpStanding 79 = .ok (.iload_n 3, 1) := by decide +kernel
theorem dX8_addUpStanding_80 : decode cX8_addUpStanding 80 = .ok (.bipush 41, 2) := by decide +kernel
theorem dX8_addUpStanding_82 : decode cX8_addUpStanding 82 = .ok (.if_icmp .gt 20, 3) := by decide +kernel
theorem dX8_addUpStanding_85 : decode cX8_addUpStanding 85 = .ok (.aload_n 2, 1) := by decide +kernel
theorem dX8_addUpStanding_86 : decode cX8_addUpStanding 86 = .ok (.iload_n 3, 1) := by decide +kernel
theorem dX8_addUpStanding_87 : decode cX8_addUpStanding 87 = .ok (.dup2, 1) := by decide +kernel
theorem dX8_addUpStanding_88 : decode cX8_addUpStanding 88 = .ok (.iaload, 1) := by decide +kernel
theorem dX8_addUpStanding_89 : decode cX8_addUpStanding 89 = .ok (.aload_n 2, 1) := by decide +kernel
theorem dX8_addUpStanding_90 : decode cX8_addUpStanding 90 = .ok (.iload_n 3, 1) := by decide +kernel
theorem dX8_addUpStanding_91 : decode cX8_addUpStanding 91 = .ok (.iconst 1, 1) := by decide +kernel
theorem dX8_addUpStanding_92 : decode cX8_addUpStanding 92 = .ok (.isub, 1) := by decide +kernel
theorem dX8_addUpStanding_93 : decode cX8_addUpStanding 93 = .ok (.iaload, 1) := by decide +kernel
theorem dX8_addUpStanding_94 : decode cX8_addUpStanding 94 = .ok (.iadd, 1) := by decide +kernel
theorem dX8_addUpStanding_95 : decode cX8_addUpStanding 95 = .ok (.iastore, 1) := by decide +kernel
theorem dX8_addUpStanding_96 : decode cX8_addUpStanding 96 = .ok (.iinc 3 1, 3) := by decide +kernel
theorem dX8_addUpStanding_99 : decode cX8_addUpStanding 99 = .ok (.goto (-20), 3) := by decide +kernel
theorem dX8_addUpStanding_102 : decode cX8_addUpStanding 102 = .ok (.return_, 1) := by decide +kernel
theorem dX8_ride_0 : decode cX8_ride 0 = .ok (.aload_n 0, 1) := by decide +kernel
theorem dX8_ride_1 : decode cX8_ride 1 = .ok (.getfield 9, 3) := by decide +kernel
theorem dX8_ride_4 : decode cX8_ride 4 = .ok (.iload_n 1, 1) := by decide +kernel
theorem dX8_ride_5 : decode cX8_ride 5 = .ok (.iaload, 1) := by decide +kernel
theorem dX8_ride_6 : decode cX8_ride 6 = .ok (.aload_n 0, 1) := by decide +kernel
theorem dX8_ride_7 : decode cX8_ride 7 = .ok (.getfield 9, 3) := by decide +kernel
theorem dX8_ride_10 : decode cX8_ride 10 = .ok (.iload_n 2, 1) := by decide +kernel
theorem dX8_ride_11 : decode cX8_ride 11 = .ok (.iaload, 1) := by decide +kernel
theorem dX8_ride_12 : decode cX8_ride 12 = .ok (.iand, 1) := by decide +kernel
theorem dX8_ride_13 : decode cX8_ride 13 = .ok (.istore 4, 2) := by decide +kernel
theorem dX8_ride_15 : decode cX8_ride 15 = .ok (.iconst (-1), 1) := by decide +kernel
theorem dX8_ride_16 : decode cX8_ride 16 = .ok (.istore 5, 2) := by decide +kernel
theorem dX8_ride_18 : decode cX8_ride 18 = .ok (.iconst 0, 1) := by decide +kernel
theorem dX8_ride_19 : decode cX8_ride 19 = .ok (.istore 6, 2) := by decide +kernel
theorem dX8_ride_21 : decode cX8_ride 21 = .ok (.iload 4, 2) := by decide +kernel
theorem dX8_ride_23 : decode cX8_ride 23 = .ok (.iconst 3, 1) := by decide +kernel
theorem dX8_ride_24 : decode cX8_ride 24 = .ok (.if_icmp .ne 30, 3) := by decide +kernel
theorem dX8_ride_27 : decode cX8_ride 27 = .ok (.iload_n 3, 1) := by decide +kernel
theorem dX8_ride_28 : decode cX8_ride 28 = .ok (.iconst 2, 1) := by decide +kernel
theorem dX8_ride_29 : decode cX8_ride 29 = .ok (.idiv, 1) := by decide +kernel
theorem dX8_ride_30 : decode cX8_ride 30 = .ok (.istore 5, 2) := by decide +kernel
theorem dX8_ride_32 : decode cX8_ride 32 = .ok (.aload_n 0, 1) := by decide +kernel
theorem dX8_ride_33 : decode cX8_ride 33 = .ok (.iconst 0, 1) := by decide +kernel
theorem dX8_ride_34 : decode cX8_ride 34 = .ok (.iload_n 1, 1) := by decide +kernel
theorem dX8_ride_35 : decode cX8_ride 35 = .ok (.iload_n 2, 1) := by decide +kernel
theorem dX8_ride_36 : decode cX8_ride 36 = .ok (.invokevirtual 133, 3) := by decide +kernel
theorem dX8_ride_39 : decode cX8_ride 39 = .ok (.aload_n 0, 1) := by decide +kernel
theorem dX8_ride_40 : decode cX8_ride 40 = .ok (.iconst 1, 1) := by decide +kernel
theorem dX8_ride_41 : decode cX8_ride 41 = .ok (.iload_n 1, 1) := by decide +kernel
theorem dX8_ride_42 : decode cX8_ride 42 = .ok (.iload_n 2, 1) := by decide +kernel
theorem dX8_ride_43 : decode cX8_ride 43 = .ok (.invokevirtual 133, 3) := by decide +kernel
theorem dX8_ride_46 : decode cX8_ride 46 = .ok (.iadd, 1) := by decide +kernel
theorem dX8_ride_47 : decode cX8_ride 47 = .ok (.iconst 2, 1) := by decide +kernel
theorem dX8_ride_48 : decode cX8_ride 48 = .ok (.idiv, 1) := by decide +kernel
theorem dX8_ride_49 : decode cX8_ride 49 = .ok (.istore 6, 2) := by decide +kernel
theorem dX8_ride_51 : decode cX8_ride 51 = .ok (.goto 30, 3) := by decide +kernel
theorem dX8_ride_54 : decode cX8_ride 54 = .ok (.iload 4, 2) := by decide +kernel
theorem dX8_ride_56 : decode cX8_ride 56 = .ok (.ifCond .eq 25, 3) := by decide +kernel
theorem dX8_ride_59 : decode cX8_ride 59 = .ok (.iload_n 3, 1) := by decide +kernel
theorem dX8_ride_60 : decode cX8_ride 60 = .ok (.istore 5, 2) := by decide +kernel
theorem dX8_ride_62 : decode cX8_ride 62 = .ok (.aload_n 0, 1) := by decide +kernel
theorem dX8_ride_63 : decode cX8_ride 63 = .ok (.iload 4, 2) := by decide +kernel
theorem dX8_ride_65 : decode cX8_ride 65 = .ok (.iconst 1, 1) := by decide +kernel
theorem dX8_ride_66 : decode cX8_ride 66 = .ok (.if_icmp .ne 7, 3) := by decide +kernel
theorem dX8_ride_69 : decode cX8_ride 69 = .ok (.iconst 0, 1) := by decide +kernel
theorem dX8_ride_70 : decode cX8_ride 70 = .ok (.goto 4, 3) := by decide +kernel
theorem dX8_ride_73 : decode cX8_ride 73 = .ok (.iconst 1, 1) := by decide +kernel
theorem dX8_ride_74 : decode cX8_ride 74 = .ok (.iload_n 1, 1) := by decide +kernel
theorem dX8_ride_75 : decode cX8_ride 75 = .ok (.iload_n 2, 1) := by decide +kernel
theorem dX8_ride_76 : decode cX8_ride 76 = .ok (.invokevirtual 133, 3) := by decide +kernel
theorem dX8_ride_79 : decode cX8_ride 79 = .ok (.istore 6, 2) := by decide +kernel
theorem dX8_ride_81 : decode cX8_ride 81 = .ok (.aload_n 0, 1) := by decide +kernel
theorem dX8_ride_82 : decode cX8_ride 82 = .ok (.getfield 39, 3) := by decide +kernel
theorem dX8_ride_85 : decode cX8_ride 85 = .ok (.iload_n 1, 1) := by decide +kernel
theorem dX8_ride_86 : decode cX8_ride 86 = .ok (.aaload, 1) := by decide +kernel
theorem dX8_ride_87 : decode cX8_ride 87 = .ok (.iload_n 2, 1) := by decide +kernel
theorem dX8_ride_88 : decode cX8_ride 88 = .ok (.iload 5, 2) := by decide +kernel
theorem dX8_ride_90 : decode cX8_ride 90 = .ok (.iastore, 1) := by decide +kernel
theorem dX8_ride_91 : decode cX8_ride 91 = .ok (.aload_n 0, 1) := by decide +kernel
theorem dX8_ride_92 : decode cX8_ride 92 = .ok (.getfield 39, 3) := by decide +kernel
theorem dX8_ride_95 : decode cX8_ride 95 = .ok (.iload_n 2, 1) := by decide +kernel
theorem dX8_ride_96 : decode cX8_ride 96 = .ok (.aaload, 1) := by decide +kernel
theorem dX8_ride_97 : decode cX8_ride 97 = .ok (.iload_n 1, 1) := by decide +kernel
theorem dX8_ride_98 : decode cX8_ride 98 = .ok (.iload 5, 2) := by decide +kernel
theorem dX8_ride_100 : decode cX8_ride 100 = .ok (.iastore, 1) := by decide +kernel
theorem dX8_ride_101 : decode cX8_ride 101 = .ok (.aload_n 0, 1) := by decide +kernel
theorem dX8_ride_102 : decode cX8_ride 102 = .ok (.getfield 42, 3) := by decide +kernel
theorem dX8_ride_105 : decode cX8_ride 105 = .ok (.iload_n 1, 1) := by decide +kernel
theorem dX8_ride_106 : decode cX8_ride 106 = .ok (.aaload, 1) := by decide +kernel
theorem dX8_ride_107 : decode cX8_ride 107 = .ok (.iload_n 2, 1) := by decide +kernel
theorem dX8_ride_108 : decode cX8_ride 108 = .ok (.iload 6, 2) := by decide +kernel
theorem dX8_ride_110 : decode cX8_ride 110 = .ok (.iastore, 1) := by decide +kernel
theorem dX8_ride_111 : decode cX8_ride 111 = .ok (.aload_n 0, 1) := by decide +kernel
theorem dX8_ride_112 : decode cX8_ride 112 = .ok (.getfield 42, 3) := by decide +kernel
theorem dX8_ride_115 : decode cX8_ride 115 = .ok (.iload_n 2, 1) := by decide +kernel
theorem dX8_ride_116 : decode cX8_ride 116 = .ok (.aaload, 1) := by decide +kernel
theorem dX8_ride_117 : decode cX8_ride 117 = .ok (.iload_n 1, 1) := by decide +kernel
theorem dX8_ride_118 : decode cX8_ride 118 = .ok (.iload 6, 2) := by decide +kernel
theorem dX8_ride_120 : decode cX8_ride 120 = .ok (.iastore, 1) := by decide +kernel
theorem dX8_ride_121 : decode cX8_ride 121 = .ok (.return_, 1) := by decide +kernel
theorem dX8_carTime_0 : decode cX8_carTime 0 = .ok (.aload_n 0, 1) := by decide +kernel
theorem dX8_carTime_1 : decode cX8_carTime 1 = .ok (.getfield 63, 3) := by decide +kernel
theorem dX8_carTime_4 : decode cX8_carTime 4 = .ok (.getfield 72, 3) := by decide +kernel
theorem dX8_carTime_7 : decode cX8_carTime 7 = .ok (.iload_n 2, 1) := by decide +kernel
theorem dX8_carTime_8 : decode cX8_carTime 8 = .ok (.aaload, 1) := by decide +kernel
theorem dX8_carTime_9 : decode cX8_carTime 9 = .ok (.getfield 113, 3) := by decide +kernel
theorem dX8_carTime_12 : decode cX8_carTime 12 = .ok (.aload_n 0, 1) := by decide +kernel
theorem dX8_carTime_13 : decode cX8_carTime 13 = .ok (.getfield 63, 3) := by decide +kernel
theorem dX8_carTime_16 : decode cX8_carTime 16 = .ok (.getfield 72, 3) := by decide +kernel
theorem dX8_carTime_19 : decode cX8_carTime 19 = .ok (.iload_n 3, 1) := by decide +kernel
theorem dX8_carTime_20 : decode cX8_carTime 20 = .ok (.aaload, 1) := by decide +kernel
theorem dX8_carTime_21 : decode cX8_carTime 21 = .ok (.getfield 113, 3) := by decide +kernel
theorem dX8_carTime_24 : decode cX8_carTime 24 = .ok (.invokestatic 136, 3) := by decide +kernel
theorem dX8_carTime_27 : decode cX8_carTime 27 = .ok (.istore 4, 2) := by decide +kernel
theorem dX8_carTime_29 : decode cX8_carTime 29 = .ok (.aload_n 0, 1) := by decide +kernel
theorem dX8_carTime_30 : decode cX8_carTime 30 = .ok (.getfield 63, 3) := by decide +kernel
theorem dX8_carTime_33 : decode cX8_carTime 33 = .ok (.getfield 72, 3) := by decide +kernel
theorem dX8_carTime_36 : decode cX8_carTime 36 = .ok (.iload_n 2, 1) := by decide +kernel
theorem dX8_carTime_37 : decode cX8_carTime 37 = .ok (.aaload, 1) := by decide +kernel
theorem dX8_carTime_38 : decode cX8_carTime 38 = .ok (.getfield 113, 3) := by decide +kernel
theorem dX8_carTime_41 : decode cX8_carTime 41 = .ok (.aload_n 0, 1) := by decide +kernel
theorem dX8_carTime_42 : decode cX8_carTime 42 = .ok (.getfield 63, 3) := by decide +kernel
theorem dX8_carTime_45 : decode cX8_carTime 45 = .ok (.getfield 72, 3) := by decide +kernel
theorem dX8_carTime_48 : decode cX8_carTime 48 = .ok (.iload_n 3, 1) := by decide +kernel
theorem dX8_carTime_49 : decode cX8_carTime 49 = .ok (.aaload, 1) := by decide +kernel
theorem dX8_carTime_50 : decode cX8_carTime 50 = .ok (.getfield 113, 3) := by decide +kernel
theorem dX8_carTime_53 : decode cX8_carTime 53 = .ok (.invokestatic 142, 3) := by decide +kernel
theorem dX8_carTime_56 : decode cX8_carTime 56 = .ok (.istore 5, 2) := by decide +kernel
theorem dX8_carTime_58 : decode cX8_carTime 58 = .ok (.iload 4, 2) := by decide +kernel
theorem dX8_carTime_60 : decode cX8_carTime 60 = .ok (.iload 5, 2) := by decide +kernel
theorem dX8_carTime_62 : decode cX8_carTime 62 = .ok (.if_icmp .ne 5, 3) := by decide +kernel
theorem dX8_carTime_65 : decode cX8_carTime 65 = .ok (.iconst 0, 1) := by decide +kernel
theorem dX8_carTime_66 : decode cX8_carTime 66 = .ok (.ireturn, 1) := by decide +kernel
theorem dX8_carTime_67 : decode cX8_carTime 67 = .ok (.iload 5, 2) := by decide +kernel
theorem dX8_carTime_69 : decode cX8_carTime 69 = .ok (.iload 4, 2) := by decide +kernel
theorem dX8_carTime_71 : decode cX8_carTime 71 = .ok (.isub, 1) := by decide +kernel
theorem dX8_carTime_72 : decode cX8_carTime 72 = .ok (.aload_n 0, 1) := by decide +kernel
theorem dX8_carTime_73 : decode cX8_carTime 73 = .ok (.getfield 63, 3) := by decide +kernel
theorem dX8_carTime_76 : decode cX8_carTime 76 = .ok (.getfield 145, 3) := by decide +kernel
theorem dX8_carTime_79 : decode cX8_carTime 79 = .ok (.imul, 1) := by decide +kernel
theorem dX8_carTime_80 : decode cX8_carTime 80 = .ok (.aload_n 0, 1) := by decide +kernel
theorem dX8_carTime_81 : decode cX8_carTime 81 = .ok (.getfield 36, 3) := by decide +kernel
theorem dX8_carTime_84 : decode cX8_carTime 84 = .ok (.iload_n 1, 1) := by decide +kernel
theorem dX8_carTime_85 : decode cX8_carTime 85 = .ok (.aaload, 1) := by decide +kernel
theorem dX8_carTime_86 : decode cX8_carTime 86 = .ok (.iload 5, 2) := by decide +kernel
theorem dX8_carTime_88 : decode cX8_carTime 88 = .ok (.iaload, 1) := by decide +kernel
theorem dX8_carTime_89 : decode cX8_carTime 89 = .ok (.iadd, 1) := by decide +kernel
theorem dX8_carTime_90 : decode cX8_carTime 90 = .ok (.aload_n 0, 1) := by decide +kernel
theorem dX8_carTime_91 : decode cX8_carTime 91 = .ok (.getfield 36, 3) := by decide +kernel
theorem dX8_carTime_94 : decode cX8_carTime 94 = .ok (.iload_n 1, 1) := by decide +kernel
theorem dX8_carTime_95 : decode cX8_carTime 95 = .ok (.aaload, 1) := by decide +kernel
theorem dX8_carTime_96 : decode cX8_carTime 96 = .ok (.iload 4, 2) := by decide +kernel
theorem dX8_carTime_98 : decode cX8_carTime 98 = .ok (.iconst 1, 1) := by decide +kernel
theorem dX8_carTime_99 : decode cX8_carTime 99 = .ok (.iadd, 1) := by decide +kernel
theorem dX8_carTime_100 : decode cX8_carTime 100 = .ok (.iaload, 1) := by decide +kernel
theorem dX8_carTime_101 : decode cX8_carTime 101 = .ok (.isub, 1) := by decide +kernel
theorem dX8_carTime_102 : decode cX8_carTime 102 = .ok (.ireturn, 1) := by decide +kernel
theorem dX8_findBest_0 : decode cX8_findBest 0 = .ok (.aload_n 0, 1) := by decide +kernel
theorem dX8_findBest_1 : decode cX8_findBest 1 = .ok (.getfield 63, 3) := by decide +kernel
theorem dX8_findBest_4 : decode cX8_findBest 4 = .ok (.getfield 148, 3) := by decide +kernel
theorem dX8_findBest_7 : decode cX8_findBest 7 = .ok (.aload_n 0, 1) := by decide +kernel
theorem dX8_findBest_8 : decode cX8_findBest 8 = .ok (.getfield 63, 3) := by decide +kernel
theorem dX8_findBest_11 : decode cX8_findBest 11 = .ok (.getfield 94, 3) := by decide +kernel
theorem dX8_findBest_14 : decode cX8_findBest 14 = .ok (.iload_n 1, 1) := by decide +kernel
theorem dX8_findBest_15 : decode cX8_findBest 15 = .ok (.aaload, 1) := by decide +kernel
theorem dX8_findBest_16 : decode cX8_findBest 16 = .ok (.getfield 106, 3) := by decide +kernel
theorem dX8_findBest_19 : decode cX8_findBest 19 = .ok (.aaload, 1) := by decide +kernel
theorem dX8_findBest_20 : decode cX8_findBest 20 = .ok (.astore_n 2, 1) := by decide +kernel
theorem dX8_findBest_21 : decode cX8_findBest 21 = .ok (.aload_n 0, 1) := by decide +kernel
theorem dX8_findBest_22 : decode cX8_findBest 22 = .ok (.getfield 45, 3) := by decide +kernel
theorem dX8_findBest_25 : decode cX8_findBest 25 = .ok (.iload_n 1, 1) := by decide +kernel
theorem dX8_findBest_26 : decode cX8_findBest 26 = .ok (.aload_n 0, 1) := by decide +kernel
theorem dX8_findBest_27 : decode cX8_findBest 27 = .ok (.getfield 18, 3) := by decide +kernel
theorem dX8_findBest_30 : decode cX8_findBest 30 = .ok (.iload_n 1, 1) := by decide +kernel
theorem dX8_findBest_31 : decode cX8_findBest 31 = .ok (.iaload, 1) := by decide +kernel
theorem dX8_findBest_32 : decode cX8_findBest 32 = .ok (.aload_n 2, 1) := by decide +kernel
theorem dX8_findBest_33 : decode cX8_findBest 33 = .ok (.iconst 2, 1) := by decide +kernel
theorem dX8_findBest_34 : decode cX8_findBest 34 = .ok (.iaload, 1) := by decide +kernel
theorem dX8_findBest_35 : decode cX8_findBest 35 = .ok (.imul, 1) := by decide +kernel
theorem dX8_findBest_36 : decode cX8_findBest 36 = .ok (.iastore, 1) := by decide +kernel
theorem dX8_findBest_37 : decode cX8_findBest 37 = .ok (.aload_n 0, 1) := by decide +kernel
theorem dX8_findBest_38 : decode cX8_findBest 38 = .ok (.getfield 48, 3) := by decide +kernel
theorem dX8_findBest_41 : decode cX8_findBest 41 = .ok (.iload_n 1, 1) := by decide +kernel
theorem dX8_findBest_42 : decode cX8_findBest 42 = .ok (.iconst (-1), 1) := by decide +kernel
theorem dX8_findBest_43 : decode cX8_findBest 43 = .ok (.iastore, 1) := by decide +kernel
theorem dX8_findBest_44 : decode cX8_findBest 44 = .ok (.aload_n 0, 1) := by decide +kernel
theorem dX8_findBest_45 : decode cX8_findBest 45 = .ok (.getfield 51, 3) := by decide +kernel
theorem dX8_findBest_48 : decode cX8_findBest 48 = .ok (.iload_n 1, 1) := by decide +kernel
theorem dX8_findBest_49 : decode cX8_findBest 49 = .ok (.iconst (-1), 1) := by decide +kernel
theorem dX8_findBest_50 : decode cX8_findBest 50 = .ok (.iastore, 1) := by decide +kernel
theorem dX8_findBest_51 : decode cX8_findBest 51 = .ok (.iconst 0, 1) := by decide +kernel
theorem dX8_findBest_52 : decode cX8_findBest 52 = .ok (.istore_n 3, 1) := by decide +kernel
theorem dX8_findBest_53 : decode cX8_findBest 53 = .ok (.iload_n 3, 1) := by decide +kernel
theorem dX8_findBest_54 : decode cX8_findBest 54 = .ok (.aload_n 0, 1) := by decide +kernel
theorem dX8_findBest_55 : decode cX8_findBest 55 = .ok (.getfield 32, 3) := by decide +kernel
theorem dX8_findBest_58 : decode cX8_findBest 58 = .ok (.if_icmp .ge 158, 3) := by decide +kernel
theorem dX8_findBest_61 : decode cX8_findBest 61 = .ok (.aload_n 0, 1) := by decide +kernel
theorem dX8_findBest_62 : decode cX8_findBest 62 = .ok (.getfield 29, 3) := by decide +kernel
theorem dX8_findBest_65 : decode cX8_findBest 65 = .ok (.iload_n 3, 1) := by decide +kernel
theorem dX8_findBest_66 : decode cX8_findBest 66 = .ok (.iaload, 1) := by decide +kernel
theorem dX8_findBest_67 : decode cX8_findBest 67 = .ok (.istore 4, 2) := by decide +kernel
theorem dX8_findBest_69 : decode cX8_findBest 69 = .ok (.iconst 0, 1) := by decide +kernel
theorem dX8_findBest_70 : decode cX8_findBest 70 = .ok (.istore 5, 2) := by decide +kernel
theorem dX8_findBest_72 : decode cX8_findBest 72 = .ok (.iload 5, 2) := by decide +kernel
theorem dX8_findBest_74 : decode cX8_findBest 74 = .ok (.aload_n 0, 1) := by decide +kernel
theorem dX8_findBest_75 : decode cX8_findBest 75 = .ok (.getfield 32, 3) := by decide +kernel
theorem dX8_findBest_78 : decode cX8_findBest 78 = .ok (.if_icmp .ge 132, 3) := by decide +kernel
theorem dX8_findBest_81 : decode cX8_findBest 81 = .ok (.aload_n 0, 1) := by decide +kernel
theorem dX8_findBest_82 : decode cX8_findBest 82 = .ok (.getfield 29, 3) := by decide +kernel
theorem dX8_findBest_85 : decode cX8_findBest 85 = .ok (.iload 5, 2) := by decide +kernel
theorem dX8_findBest_87 : decode cX8_findBest 87 = .ok (.iaload, 1) := by decide +kernel
theorem dX8_findBest_88 : decode cX8_findBest 88 = .ok (.istore 6, 2) := by decide +kernel
theorem dX8_findBest_90 : decode cX8_findBest 90 = .ok (.iload 4, 2) := by decide +kernel
theorem dX8_findBest_92 : decode cX8_findBest 92 = .ok (.iload 6, 2) := by decide +kernel
theorem dX8_findBest_94 : decode cX8_findBest 94 = .ok (.if_icmp .eq 110, 3) := by decide +kernel
theorem dX8_findBest_97 : decode cX8_findBest 97 = .ok (.aload_n 0, 1) := by decide +kernel
theorem dX8_findBest_98 : decode cX8_findBest 98 = .ok (.getfield 39, 3) := by decide +kernel
theorem dX8_findBest_101 : decode cX8_findBest 101 = .ok (.iload 4, 2) := by decide +kernel
theorem dX8_findBest_103 : decode cX8_findBest 103 = .ok (.aaload, 1) := by decide +kernel
theorem dX8_findBest_104 : decode cX8_findBest 104 = .ok (.iload 6, 2) := by decide +kernel
theorem dX8_findBest_106 : decode cX8_findBest 106 = .ok (.iaload, 1) := by decide +kernel
theorem dX8_findBest_107 : decode cX8_findBest 107 = .ok (.iconst (-1), 1) := by decide +kernel
theorem dX8_findBest_108 : decode cX8_findBest 108 = .ok (.if_icmp .ne 6, 3) := by decide +kernel
theorem dX8_findBest_111 : decode cX8_findBest 111 = .ok (.goto 93, 3) := by decide +kernel
theorem dX8_findBest_114 : decode cX8_findBest 114 = .ok (.aload_n 0, 1) := by decide +kernel
theorem dX8_findBest_115 : decode cX8_findBest 115 = .ok (.getfield 23, 3) := by decide +kernel
theorem dX8_findBest_118 : decode cX8_findBest 118 = .ok (.iload_n 1, 1) := by decide +kernel
theorem dX8_findBest_119 : decode cX8_findBest 119 = .ok (.aaload, 1) := by decide +kernel
theorem dX8_findBest_120 : decode cX8_findBest 120 = .ok (.iload 4, 2) := by decide +kernel
theorem dX8_findBest_122 : decode cX8_findBest 122 = .ok (.iaload, 1) := by decide +kernel
theorem dX8_findBest_123 : decode cX8_findBest 123 = .ok (.aload_n 0, 1) := by decide +kernel
theorem dX8_findBest_124 : decode cX8_findBest 124 = .ok (.getfield 26, 3) := by decide +kernel
theorem dX8_findBest_127 : decode cX8_findBest 127 = .ok (.iload_n 1, 1) := by decide +kernel
theorem dX8_findBest_128 : decode cX8_findBest 128 = .ok (.aaload, 1) := by decide +kernel
theorem dX8_findBest_129 : decode cX8_findBest 129 = .ok (.iload 6, 2) := by decide +kernel
theorem dX8_findBest_131 : decode cX8_findBest 131 = .ok (.iaload, 1) := by decide +kernel
theorem dX8_findBest_132 : decode cX8_findBest 132 = .ok (.iadd, 1) := by decide +kernel
theorem dX8_findBest_133 : decode cX8_findBest 133 = .ok (.aload_n 2, 1) := by decide +kernel
theorem dX8_findBest_134 : decode cX8_findBest 134 = .ok (.iconst 2, 1) := by decide +kernel
theorem dX8_findBest_135 : decode cX8_findBest 135 = .ok (.iaload, 1) := by decide +kernel
theorem dX8_findBest_136 : decode cX8_findBest 136 = .ok (.imul, 1) := by decide +kernel
theorem dX8_findBest_137 : decode cX8_findBest 137 = .ok (.aload_n 0, 1) := by decide +kernel
theorem dX8_findBest_138 : decode cX8_findBest 138 = .ok (.getfield 39, 3) := by decide +kernel
theorem dX8_findBest_141 : decode cX8_findBest 141 = .ok (.iload 4, 2) := by decide +kernel
theorem dX8_findBest_143 : decode cX8_findBest 143 = .ok (.aaload, 1) := by decide +kernel
theorem dX8_findBest_144 : decode cX8_findBest 144 = .ok (.iload 6, 2) := by decide +kernel
theorem dX8_findBest_146 : decode cX8_findBest 146 = .ok (.iaload, 1) := by decide +kernel
theorem dX8_findBest_147 : decode cX8_findBest 147 = .ok (.aload_n 2, 1) := by decide +kernel
theorem dX8_findBest_148 : decode cX8_findBest 148 = .ok (.iconst 3, 1) := by decide +kernel
theorem dX8_findBest_149 : decode cX8_findBest 149 = .ok (.iaload, 1) := by decide +kernel
theorem dX8_findBest_150 : decode cX8_findBest 150 = .ok (.imul, 1) := by decide +kernel
theorem dX8_findBest_151 : decode cX8_findBest 151 = .ok (.iadd, 1) := by decide +kernel
theorem dX8_findBest_152 : decode cX8_findBest 152 = .ok (.aload_n 0, 1) := by decide +kernel
theorem dX8_findBest_153 : decode cX8_findBest 153 = .ok (.getfield 42, 3) := by decide +kernel
theorem dX8_findBest_156 : decode cX8_findBest 156 = .ok (.iload 4, 2) := by decide +kernel
theorem dX8_findBest_158 : decode cX8_findBest 158 = .ok (.aaload, 1) := by decide +kernel
theorem dX8_findBest_159 : decode cX8_findBest 159 = .ok (.iload 6, 2) := by decide +kernel
theorem dX8_findBest_161 : decode cX8_findBest 161 = .ok (.iaload, 1) := by decide +kernel
theorem dX8_findBest_162 : decode cX8_findBest 162 = .ok (.aload_n 2, 1) := by decide +kernel
theorem dX8_findBest_163 : decode cX8_findBest 163 = .ok (.iconst 4, 1) := by decide +kernel
theorem dX8_findBest_164 : decode cX8_findBest 164 = .ok (.iaload, 1) := by decide +kernel
theorem dX8_findBest_165 : decode cX8_findBest 165 = .ok (.imul, 1) := by decide +kernel
theorem dX8_findBest_166 : decode cX8_findBest 166 = .ok (.iadd, 1) := by decide +kernel
theorem dX8_findBest_167 : decode cX8_findBest 167 = .ok (.istore 7, 2) := by decide +kernel
theorem dX8_findBest_169 : decode cX8_findBest 169 = .ok (.iload 7, 2) := by decide +kernel
theorem dX8_findBest_171 : decode cX8_findBest 171 = .ok (.aload_n 0, 1) := by decide +kernel
theorem dX8_findBest_172 : decode cX8_findBest 172 = .ok (.getfield 45, 3) := by decide +kernel
theorem dX8_findBest_175 : decode cX8_findBest 175 = .ok (.iload_n 1, 1) := by decide +kernel
theorem dX8_findBest_176 : decode cX8_findBest 176 = .ok (.iaload, 1) := by decide +kernel
theorem dX8_findBest_177 : decode cX8_findBest 177 = .ok (.if_icmp .ge 27, 3) := by decide +kernel
theorem dX8_findBest_180 : decode cX8_findBest 180 = .ok (.aload_n 0, 1) := by decide +kernel
theorem dX8_findBest_181 : decode cX8_findBest 181 = .ok (.getfield 45, 3) := by decide +kernel
theorem dX8_findBest_184 : decode cX8_findBest 184 = .ok (.iload_n 1, 1) := by decide +kernel
theorem dX8_findBest_185 : decode cX8_findBest 185 = .ok (.iload 7, 2) := by decide +kernel
theorem dX8_findBest_187 : decode cX8_findBest 187 = .ok (.iastore, 1) := by decide +kernel
theorem dX8_findBest_188 : decode cX8_findBest 188 = .ok (.aload_n 0, 1) := by decide +kernel
theorem dX8_findBest_189 : decode cX8_findBest 189 = .ok (.getfield 48, 3) := by decide +kernel
theorem dX8_findBest_192 : decode cX8_findBest 192 = .ok (.iload_n 1, 1) := by decide +kernel
theorem dX8_findBest_193 : decode cX8_findBest 193 = .ok (.iload 4, 2) := by decide +kernel
theorem dX8_findBest_195 : decode cX8_findBest 195 = .ok (.iastore, 1) := by decide +kernel
theorem dX8_findBest_196 : decode cX8_findBest 196 = .ok (.aload_n 0, 1) := by decide +kernel
theorem dX8_findBest_197 : decode cX8_findBest 197 = .ok (.getfield 51, 3) := by decide +kernel
theorem dX8_findBest_200 : decode cX8_findBest 200 = .ok (.iload_n 1, 1) := by decide +kernel
theorem dX8_findBest_201 : decode cX8_findBest 201 = .ok (.iload 6, 2) := by decide +kernel
theorem dX8_findBest_203 : decode cX8_findBest 203 = .ok (.iastore, 1) := by decide +kernel
theorem dX8_findBest_204 : decode cX8_findBest 204 = .ok (.iinc 5 1, 3) := by decide +kernel
theorem dX8_findBest_207 : decode cX8_findBest 207 = .ok (.goto (-135), 3) := by decide +kernel
theorem dX8_findBest_210 : decode cX8_findBest 210 = .ok (.iinc 3 1, 3) := by decide +kernel
theorem dX8_findBest_213 : decode cX8_findBest 213 = .ok (.goto (-160), 3) := by decide +kernel
theorem dX8_findBest_216 : decode cX8_findBest 216 = .ok (.aload_n 0, 1) := by decide +kernel
theorem dX8_findBest_217 : decode cX8_findBest 217 = .ok (.iload_n 1, 1) := by decide +kernel
theorem dX8_findBest_218 : decode cX8_findBest 218 = .ok (.aload_n 0, 1) := by decide +kernel
theorem dX8_findBest_219 : decode cX8_findBest 219 = .ok (.getfield 48, 3) := by decide +kernel
theorem dX8_findBest_222 : decode cX8_findBest 222 = .ok (.iload_n 1, 1) := by decide +kernel
theorem dX8_findBest_223 : decode cX8_findBest 223 = .ok (.iaload, 1) := by decide +kernel
theorem dX8_findBest_224 : decode cX8_findBest 224 = .ok (.aload_n 0, 1) := by decide +kernel
theorem dX8_findBest_225 : decode cX8_findBest 225 = .ok (.getfield 51, 3) := by decide +kernel
theorem dX8_findBest_228 : decode cX8_findBest 228 = .ok (.iload_n 1, 1) := by decide +kernel
theorem dX8_findBest_229 : decode cX8_findBest 229 = .ok (.iaload, 1) := by decide +kernel
theorem dX8_findBest_230 : decode cX8_findBest 230 = .ok (.invokevirtual 151, 3) := by decide +kernel
theorem dX8_findBest_233 : decode cX8_findBest 233 = .ok (.return_, 1) := by decide +kernel
theorem dX8_tellBest_0 : decode cX8_tellBest 0 = .ok (.iload_n 2, 1) := by decide +kernel
theorem dX8_tellBest_1 : decode cX8_tellBest 1 = .ok (.iconst (-1), 1) := by decide +kernel
theorem dX8_tellBest_2 : decode cX8_tellBest 2 = .ok (.if_icmp .eq 12, 3) := by decide +kernel
theorem dX8_tellBest_5 : decode cX8_tellBest 5 = .ok (.iload_n 3, 1) := by decide +kernel
theorem dX8_tellBest_6 : decode cX8_tellBest 6 = .ok (.iconst (-1), 1) := by decide +kernel
theorem dX8_tellBest_7 : decode cX8_tellBest 7 = .ok (.if_icmp .eq 7, 3) := by decide +kernel
theorem dX8_tellBest_10 : decode cX8_tellBest 10 = .ok (.iconst 1, 1) := by decide +kernel
theorem dX8_tellBest_11 : decode cX8_tellBest 11 = .ok (.goto 4, 3) := by decide +kernel
theorem dX8_tellBest_14 : decode cX8_tellBest 14 = .ok (.iconst 0, 1) := by decide +kernel
theorem dX8_tellBest_15 : decode cX8_tellBest 15 = .ok (.istore 4, 2) := by decide +kernel
theorem dX8_tellBest_17 : decode cX8_tellBest 17 = .ok (.aload_n 0, 1) := by decide +kernel
theorem dX8_tellBest_18 : decode cX8_tellBest 18 = .ok (.getfield 54, 3) := by decide +kernel
theorem dX8_tellBest_21 : decode cX8_tellBest 21 = .ok (.iload_n 1, 1) := by decide +kernel
theorem dX8_tellBest_22 : decode cX8_tellBest 22 = .ok (.iload 4, 2) := by decide +kernel
theorem dX8_tellBest_24 : decode cX8_tellBest 24 = .ok (.ifCond .eq 23, 3) := by decide +kernel
theorem dX8_tellBest_27 : decode cX8_tellBest 27 = .ok (.aload_n 0, 1) := by decide +kernel
theorem dX8_tellBest_28 : decode cX8_tellBest 28 = .ok (.getfield 23, 3) := by decide +kernel
theorem dX8_tellBest_31 : decode cX8_tellBest 31 = .ok (.iload_n 1, 1) := by decide +kernel
theorem dX8_tellBest_32 : decode cX8_tellBest 32 = .ok (.aaload, 1) := by decide +kernel
theorem dX8_tellBest_33 : decode cX8_tellBest 33 = .ok (.iload_n 2, 1) := by decide +kernel
theorem dX8_tellBest_34 : decode cX8_tellBest 34 = .ok (.iaload, 1) := by decide +kernel
theorem dX8_tellBest_35 : decode cX8_tellBest 35 = .ok (.aload_n 0, 1) := by decide +kernel
theorem dX8_tellBest_36 : decode cX8_tellBest 36 = .ok (.getfield 26, 3) := by decide +kernel
theorem dX8_tellBest_39 : decode cX8_tellBest 39 = .ok (.iload_n 1, 1) := by decide +kernel
theorem dX8_tellBest_40 : decode cX8_tellBest 40 = .ok (.aaload, 1) := by decide +kernel
theorem dX8_tellBest_41 : decode cX8_tellBest 41 = .ok (.iload_n 3, 1) := by decide +kernel
theorem dX8_tellBest_42 : decode cX8_tellBest 42 = .ok (.iaload, 1) := by decide +kernel
theorem dX8_tellBest_43 : decode cX8_tellBest 43 = .ok (.iadd, 1) := by decide +kernel
theorem dX8_tellBest_44 : decode cX8_tellBest 44 = .ok (.goto 9, 3) := by decide +kernel
theorem dX8_tellBest_47 : decode cX8_tellBest 47 = .ok (.aload_n 0, 1) := by decide +kernel
theorem dX8_tellBest_48 : decode cX8_tellBest 48 = .ok (.getfield 18, 3) := by decide +kernel
theorem dX8_tellBest_51 : decode cX8_tellBest 51 = .ok (.iload_n 1, 1) := by decide +kernel
theorem dX8_tellBest_52 : decode cX8_tellBest 52 = .ok (.iaload, 1) := by decide +kernel
theorem dX8_tellBest_53 : decode cX8_tellBest 53 = .ok (.iastore, 1) := by decide +kernel
theorem dX8_tellBest_54 : decode cX8_tellBest 54 = .ok (.aload_n 0, 1) := by decide +kernel
theorem dX8_tellBest_55 : decode cX8_tellBest 55 = .ok (.getfield 57, 3) := by decide +kernel
theorem dX8_tellBest_58 : decode cX8_tellBest 58 = .ok (.iload_n 1, 1) := by decide +kernel
theorem dX8_tellBest_59 : decode cX8_tellBest 59 = .ok (.iload 4, 2) := by decide +kernel
theorem dX8_tellBest_61 : decode cX8_tellBest 61 = .ok (.ifCond .eq 14, 3) := by decide +kernel
theorem dX8_tellBest_64 : decode cX8_tellBest 64 = .ok (.aload_n 0, 1) := by decide +kernel
theorem dX8_tellBest_65 : decode cX8_tellBest 65 = .ok (.getfield 39, 3) := by decide +kernel
theorem dX8_tellBest_68 : decode cX8_tellBest 68 = .ok (.iload_n 2, 1) := by decide +kernel
theorem dX8_tellBest_69 : decode cX8_tellBest 69 = .ok (.aaload, 1) := by decide +kernel
theorem dX8_tellBest_70 : decode cX8_tellBest 70 = .ok (.iload_n 3, 1) := by decide +kernel
theorem dX8_tellBest_71 : decode cX8_tellBest 71 = .ok (.iaload, 1) := by decide +kernel
theorem dX8_tellBest_72 : decode cX8_tellBest 72 = .ok (.goto 4, 3) := by decide +kernel
theorem dX8_tellBest_75 : decode cX8_tellBest 75 = .ok (.iconst 0, 1) := by decide +kernel
theorem dX8_tellBest_76 : decode cX8_tellBest 76 = .ok (.iastore, 1) := by decide +kernel
theorem dX8_tellBest_77 : decode cX8_tellBest 77 = .ok (.aload_n 0, 1) := by decide +kernel
theorem dX8_tellBest_78 : decode cX8_tellBest 78 = .ok (.getfield 60, 3) := by decide +kernel
theorem dX8_tellBest_81 : decode cX8_tellBest 81 = .ok (.iload_n 1, 1) := by decide +kernel
theorem dX8_tellBest_82 : decode cX8_tellBest 82 = .ok (.iload 4, 2) := by decide +kernel
theorem dX8_tellBest_84 : decode cX8_tellBest 84 = .ok (.ifCond .eq 14, 3) := by decide +kernel
theorem dX8_tellBest_87 : decode cX8_tellBest 87 = .ok (.aload_n 0, 1) := by decide +kernel
theorem dX8_tellBest_88 : decode cX8_tellBest 88 = .ok (.getfield 42, 3) := by decide +kernel
theorem dX8_tellBest_91 : decode cX8_tellBest 91 = .ok (.iload_n 2, 1) := by decide +kernel
theorem dX8_tellBest_92 : decode cX8_tellBest 92 = .ok (.aaload, 1) := by decide +kernel
theorem dX8_tellBest_93 : decode cX8_tellBest 93 = .ok (.iload_n 3, 1) := by decide +kernel
theorem dX8_tellBest_94 : decode cX8_tellBest 94 = .ok (.iaload, 1) := by decide +kernel
theorem dX8_tellBest_95 : decode cX8_tellBest 95 = .ok (.goto 4, 3) := by decide +kernel
theorem dX8_tellBest_98 : decode cX8_tellBest 98 = .ok (.iconst 0, 1) := by decide +kernel
theorem dX8_tellBest_99 : decode cX8_tellBest 99 = .ok (.iastore, 1) := by decide +kernel
theorem dX8_tellBest_100 : decode cX8_tellBest 100 = .ok (.return_, 1) := by decide +kernel
theorem dX8_total_0 : decode cX8_total 0 = .ok (.lconst 0, 1) := by decide +kernel
theorem dX8_total_1 : decode cX8_total 1 = .ok (.lstore_n 1, 1) := by decide +kernel
theorem dX8_total_2 : decode cX8_total 2 = .ok (.iconst 0, 1) := by decide +kernel
theorem dX8_total_3 : decode cX8_total 3 = .ok (.istore_n 3, 1) := by decide +kernel
theorem dX8_total_4 : decode cX8_total 4 = .ok (.iload_n 3, 1) := by decide +kernel
theorem dX8_total_5 : decode cX8_total 5 = .ok (.aload_n 0, 1) := by decide +kernel
theorem dX8_total_6 : decode cX8_total 6 = .ok (.getfield 63, 3) := by decide +kernel
theorem dX8_total_9 : decode cX8_total 9 = .ok (.getfield 91, 3) := by decide +kernel
theorem dX8_total_12 : decode cX8_total 12 = .ok (.if_icmp .ge 33, 3) := by decide +kernel
theorem dX8_total_15 : decode cX8_total 15 = .ok (.lload_n 1, 1) := by decide +kernel
theorem dX8_total_16 : decode cX8_total 16 = .ok (.aload_n 0, 1) := by decide +kernel
theorem dX8_total_17 : decode cX8_total 17 = .ok (.getfield 63, 3) := by decide +kernel
theorem dX8_total_20 : decode cX8_total 20 = .ok (.getfield 94, 3) := by decide +kernel
theorem dX8_total_23 : decode cX8_total 23 = .ok (.iload_n 3, 1) := by decide +kernel
theorem dX8_total_24 : decode cX8_total 24 = .ok (.aaload, 1) := by decide +kernel
theorem dX8_total_25 : decode cX8_total 25 = .ok (.getfield 154, 3) := by decide +kernel
theorem dX8_total_28 : decode cX8_total 28 = .ok (.i2l, 1) := by decide +kernel
theorem dX8_total_29 : decode cX8_total 29 = .ok (.aload_n 0, 1) := by decide +kernel
theorem dX8_total_30 : decode cX8_total 30 = .ok (.getfield 45, 3) := by decide +kernel
theorem dX8_total_33 : decode cX8_total 33 = .ok (.iload_n 3, 1) := by decide +kernel
theorem dX8_total_34 : decode cX8_total 34 = .ok (.iaload, 1) := by decide +kernel
theorem dX8_total_35 : decode cX8_total 35 = .ok (.i2l, 1) := by decide +kernel
theorem dX8_total_36 : decode cX8_total 36 = .ok (.lmul, 1) := by decide +kernel
theorem dX8_total_37 : decode cX8_total 37 = .ok (.ladd, 1) := by decide +kernel
theorem dX8_total_38 : decode cX8_total 38 = .ok (.lstore_n 1, 1) := by decide +kernel
theorem dX8_total_39 : decode cX8_total 39 = .ok (.iinc 3 1, 3) := by decide +kernel
theorem dX8_total_42 : decode cX8_total 42 = .ok (.goto (-38), 3) := by decide +kernel
theorem dX8_total_45 : decode cX8_total 45 = .ok (.lload_n 1, 1) := by decide +kernel
theorem dX8_total_46 : decode cX8_total 46 = .ok (.lreturn, 1) := by decide +kernel
theorem dX8_dearest_0 : decode cX8_dearest 0 = .ok (.iconst (-1), 1) := by decide +kernel
theorem dX8_dearest_1 : decode cX8_dearest 1 = .ok (.istore_n 1, 1) := by decide +kernel
theorem dX8_dearest_2 : decode cX8_dearest 2 = .ok (.iconst 0, 1) := by decide +kernel
theorem dX8_dearest_3 : decode cX8_dearest 3 = .ok (.istore_n 2, 1) := by decide +kernel
theorem dX8_dearest_4 : decode cX8_dearest 4 = .ok (.iload_n 2, 1) := by decide +kernel
theorem dX8_dearest_5 : decode cX8_dearest 5 = .ok (.aload_n 0, 1) := by decide +kernel
theorem dX8_dearest_6 : decode cX8_dearest 6 = .ok (.getfield 63, 3) := by decide +kernel
theorem dX8_dearest_9 : decode cX8_dearest 9 = .ok (.getfield 91, 3) := by decide +kernel
theorem dX8_dearest_12 : decode cX8_dearest 12 = .ok (.if_icmp .ge 30, 3) := by decide +kernel
theorem dX8_dearest_15 : decode cX8_dearest 15 = .ok (.iload_n 1, 1) := by decide +kernel
theorem dX8_dearest_16 : decode cX8_dearest 16 = .ok (.ifCond .lt 18, 3) := by decide +kernel
theorem dX8_dearest_19 : decode cX8_dearest 19 = .ok (.aload_n 0, 1) := by decide +kernel
theorem dX8_dearest_20 : decode cX8_dearest 20 = .ok (.getfield 45, 3) := by decide +kernel
theorem dX8_dearest_23 : decode cX8_dearest 23 = .ok (.iload_n 2, 1) := by decide +kernel
theorem dX8_dearest_24 : decode cX8_dearest 24 = .ok (.iaload, 1) := by decide +kernel
theorem dX8_dearest_25 : decode cX8_dearest 25 = .ok (.aload_n 0, 1) := by decide +kernel
theorem dX8_dearest_26 : decode cX8_dearest 26 = .ok (.getfield 45, 3) := by decide +kernel
theorem dX8_dearest_29 : decode cX8_dearest 29 = .ok (.iload_n 1, 1) := by decide +kernel
theorem dX8_dearest_30 : decode cX8_dearest 30 = .ok (.iaload, 1) := by decide +kernel
theorem dX8_dearest_31 : decode cX8_dearest 31 = .ok (.if_icmp .le 5, 3) := by decide +kernel
theorem dX8_dearest_34 : decode cX8_dearest 34 = .ok (.iload_n 2, 1) := by decide +kernel
theorem dX8_dearest_35 : decode cX8_dearest 35 = .ok (.istore_n 1, 1) := by decide +kernel
theorem dX8_dearest_36 : decode cX8_dearest 36 = .ok (.iinc 2 1, 3) := by decide +kernel
theorem dX8_dearest_39 : decode cX8_dearest 39 = .ok (.goto (-35), 3) := by decide +kernel
theorem dX8_dearest_42 : decode cX8_dearest 42 = .ok (.iload_n 1, 1) := by decide +kernel
theorem dX8_dearest_43 : decode cX8_dearest 43 = .ok (.ireturn, 1) := by decide +kernel
theorem dX8_dearestCost_0 : decode cX8_dearestCost 0 = .ok (.aload_n 0, 1) := by decide +kernel
theorem dX8_dearestCost_1 : decode cX8_dearestCost 1 = .ok (.invokevirtual 157, 3) := by decide +kernel
theorem dX8_dearestCost_4 : decode cX8_dearestCost 4 = .ok (.istore_n 1, 1) := by decide +kernel
theorem dX8_dearestCost_5 : decode cX8_dearestCost 5 = .ok (.iload_n 1, 1) := by decide +kernel
theorem dX8_dearestCost_6 : decode cX8_dearestCost 6 = .ok (.ifCond .ge 7, 3) := by decide +kernel
theorem dX8_dearestCost_9 : decode cX8_dearestCost 9 = .ok (.iconst 0, 1) := by decide +kernel
theorem dX8_dearestCost_10 : decode cX8_dearestCost 10 = .ok (.goto 9, 3) := by decide +kernel
theorem dX8_dearestCost_13 : decode cX8_dearestCost 13 = .ok (.aload_n 0, 1) := by decide +kernel
theorem dX8_dearestCost_14 : decode cX8_dearestCost 14 = .ok (.getfield 45, 3) := by decide +kernel
theorem dX8_dearestCost_17 : decode cX8_dearestCost 17 = .ok (.iload_n 1, 1) := by decide +kernel
theorem dX8_dearestCost_18 : decode cX8_dearestCost 18 = .ok (.iaload, 1) := by decide +kernel
theorem dX8_dearestCost_19 : decode cX8_dearestCost 19 = .ok (.ireturn, 1) := by decide +kernel
theorem dX8_usersOf_0 : decode cX8_usersOf 0 = .ok (.iconst 0, 1) := by decide +kernel
theorem dX8_usersOf_1 : decode cX8_usersOf 1 = .ok (.istore_n 2, 1) := by decide +kernel
theorem dX8_usersOf_2 : decode cX8_usersOf 2 = .ok (.iconst 0, 1) := by decide +kernel
theorem dX8_usersOf_3 : decode cX8_usersOf 3 = .ok (.istore_n 3, 1) := by decide +kernel
theorem dX8_usersOf_4 : decode cX8_usersOf 4 = .ok (.iload_n 3, 1) := by decide +kernel
theorem dX8_usersOf_5 : decode cX8_usersOf 5 = .ok (.aload_n 0, 1) := by decide +kernel
theorem dX8_usersOf_6 : decode cX8_usersOf 6 = .ok (.getfield 63, 3) := by decide +kernel
theorem dX8_usersOf_9 : decode cX8_usersOf 9 = .ok (.getfield 91, 3) := by decide +kernel
theorem dX8_usersOf_12 : decode cX8_usersOf 12 = .ok (.if_icmp .ge 44, 3) := by decide +kernel
theorem dX8_usersOf_15 : decode cX8_usersOf 15 = .ok (.aload_n 0, 1) := by decide +kernel
theorem dX8_usersOf_16 : decode cX8_usersOf 16 = .ok (.getfield 48, 3) := by decide +kernel
theorem dX8_usersOf_19 : decode cX8_usersOf 19 = .ok (.iload_n 3, 1) := by decide +kernel
theorem dX8_usersOf_20 : decode cX8_usersOf 20 = .ok (.iaload, 1) := by decide +kernel
theorem dX8_usersOf_21 : decode cX8_usersOf 21 = .ok (.iload_n 1, 1) := by decide +kernel
theorem dX8_usersOf_22 : decode cX8_usersOf 22 = .ok (.if_icmp .eq 13, 3) := by decide +kernel
theorem dX8_usersOf_25 : decode cX8_usersOf 25 = .ok (.aload_n 0, 1) := by decide +kernel
theorem dX8_usersOf_26 : decode cX8_usersOf 26 = .ok (.getfield 51, 3) := by decide +kernel
theorem dX8_usersOf_29 : decode cX8_usersOf 29 = .ok (.iload_n 3, 1) := by decide +kernel
theorem dX8_usersOf_30 : decode cX8_usersOf 30 = .ok (.iaload, 1) := by decide +kernel
theorem dX8_usersOf_31 : decode cX8_usersOf 31 = .ok (.iload_n 1, 1) := by decide +kernel
theorem dX8_usersOf_32 : decode cX8_usersOf 32 = .ok (.if_icmp .ne 18, 3) := by decide +kernel
theorem dX8_usersOf_35 : decode cX8_usersOf 35 = .ok (.iload_n 2, 1) := by decide +kernel
theorem dX8_usersOf_36 : decode cX8_usersOf 36 = .ok (.aload_n 0, 1) := by decide +kernel
theorem dX8_usersOf_37 : decode cX8_usersOf 37 = .ok (.getfield 63, 3) := by decide +kernel
theorem dX8_usersOf_40 : decode cX8_usersOf 40 = .ok (.getfield 94, 3) := by decide +kernel
theorem dX8_usersOf_43 : decode cX8_usersOf 43 = .ok (.iload_n 3, 1) := by decide +kernel
theorem dX8_usersOf_44 : decode cX8_usersOf 44 = .ok (.aaload, 1) := by decide +kernel
theorem dX8_usersOf_45 : decode cX8_usersOf 45 = .ok (.getfield 154, 3) := by decide +kernel
theorem dX8_usersOf_48 : decode cX8_usersOf 48 = .ok (.iadd, 1) := by decide +kernel
theorem dX8_usersOf_49 : decode cX8_usersOf 49 = .ok (.istore_n 2, 1) := by decide +kernel
theorem dX8_usersOf_50 : decode cX8_usersOf 50 = .ok (.iinc 3 1, 3) := by decide +kernel
theorem dX8_usersOf_53 : decode cX8_usersOf 53 = .ok (.goto (-49), 3) := by decide +kernel
theorem dX8_usersOf_56 : decode cX8_usersOf 56 = .ok (.iload_n 2, 1) := by decide +kernel
theorem dX8_usersOf_57 : decode cX8_usersOf 57 = .ok (.ireturn, 1) := by decide +kernel
theorem dX9_init_0 : decode cX9_init 0 = .ok (.aload_n 0, 1) := by decide +kernel
theorem dX9_init_1 : decode cX9_init 1 = .ok (.invokespecial 1, 3) := by decide +kernel
theorem dX9_init_4 : decode cX9_init 4 = .ok (.aload_n 0, 1) := by decide +kernel
theorem dX9_init_5 : decode cX9_init 5 = .ok (.new 7, 3) := by decide +kernel
theorem dX9_init_8 : decode cX9_init 8 = .ok (.dup, 1) := by decide +kernel
theorem dX9_init_9 : decode cX9_init 9 = .ok (.invokespecial 9, 3) := by decide +kernel
theorem dX9_init_12 : decode cX9_init 12 = .ok (.putfield 10, 3) := by decide +kernel
theorem dX9_init_15 : decode cX9_init 15 = .ok (.aload_n 0, 1) := by decide +kernel
theorem dX9_init_16 : decode cX9_init 16 = .ok (.new 16, 3) := by decide +kernel
theorem dX9_init_19 : decode cX9_init 19 = .ok (.dup, 1) := by decide +kernel
theorem dX9_init_20 : decode cX9_init 20 = .ok (.aload_n 0, 1) := by decide +kernel
theorem dX9_init_21 : decode cX9_init 21 = .ok (.getfield 10, 3) := by decide +kernel
theorem dX9_init_24 : decode cX9_init 24 = .ok (.invokespecial 18, 3) := by decide +kernel
theorem dX9_init_27 : decode cX9_init 27 = .ok (.putfield 21, 3) := by decide +kernel
theorem dX9_init_30 : decode cX9_init 30 = .ok (.aload_n 0, 1) := by decide +kernel
theorem dX9_init_31 : decode cX9_init 31 = .ok (.new 25, 3) := by decide +kernel
theorem dX9_init_34 : decode cX9_init 34 = .ok (.dup, 1) := by decide +kernel
theorem dX9_init_35 : decode cX9_init 35 = .ok (.invokespecial 27, 3) := by decide +kernel
theorem dX9_init_38 : decode cX9_init 38 = .ok (.putfield 28, 3) := by decide +kernel
theorem dX9_init_41 : decode cX9_init 41 = .ok (.aload_n 0, 1) := by decide +kernel
theorem dX9_init_42 : decode cX9_init 42 = .ok (.new 32, 3) := by decide +kernel
theorem dX9_init_45 : decode cX9_init 45 = .ok (.dup, 1) := by decide +kernel
theorem dX9_init_46 : decode cX9_init 46 = .ok (.aload_n 0, 1) := by decide +kernel
theorem dX9_init_47 : decode cX9_init 47 = .ok (.getfield 28, 3) := by decide +kernel
theorem dX9_init_50 : decode cX9_init 50 = .ok (.invokespecial 34, 3) := by decide +kernel
theorem dX9_init_53 : decode cX9_init 53 = .ok (.putfield 37, 3) := by decide +kernel
theorem dX9_init_56 : decode cX9_init 56 = .ok (.aload_n 0, 1) := by decide +kernel
theorem dX9_init_57 : decode cX9_init 57 = .ok (.bipush 6, 2) := by decide +kernel
theorem dX9_init_59 : decode cX9_init 59 = .ok (.anewarray 41, 3) := by decide +kernel
theorem dX9_init_62 : decode cX9_init 62 = .ok (.putfield 43, 3) := by decide +kernel
theorem dX9_init_65 : decode cX9_init 65 = .ok (.aload_n 0, 1) := by decide +kernel
theorem dX9_init_66 : decode cX9_init 66 = .ok (.iconst 1, 1) := by decide +kernel
theorem dX9_init_67 : decode cX9_init 67 = .ok (.putfield 47, 3) := by decide +kernel
theorem dX9_init_70 : decode cX9_init 70 = .ok (.aload_n 0, 1) := by decide +kernel
theorem dX9_init_71 : decode cX9_init 71 = .ok (.iconst 0, 1) := by decide +kernel
theorem dX9_init_72 : decode cX9_init 72 = .ok (.putfield 51, 3) := by decide +kernel
theorem dX9_init_75 : decode cX9_init 75 = .ok (.aload_n 0, 1) := by decide +kernel
theorem dX9_init_76 : decode cX9_init 76 = .ok (.new 54, 3) := by decide +kernel
theorem dX9_init_79 : decode cX9_init 79 = .ok (.dup, 1) := by decide +kernel
theorem dX9_init_80 : decode cX9_init 80 = .ok (.invokespecial 56, 3) := by decide +kernel
theorem dX9_init_83 : decode cX9_init 83 = .ok (.putfield 57, 3) := by decide +kernel
theorem dX9_init_86 : decode cX9_init 86 = .ok (.aload_n 0, 1) := by decide +kernel
theorem dX9_init_87 : decode cX9_init 87 = .ok (.iconst 4, 1) := by decide +kernel
theorem dX9_init_88 : decode cX9_init 88 = .ok (.anewarray 61, 3) := by decide +kernel
theorem dX9_init_91 : decode cX9_init 91 = .ok (.putfield 63, 3) := by decide +kernel
theorem dX9_init_94 : decode cX9_init 94 = .ok (.aload_n 0, 1) := by decide +kernel
theorem dX9_init_95 : decode cX9_init 95 = .ok (.bipush 6, 2) := by decide +kernel
theorem dX9_init_97 : decode cX9_init 97 = .ok (.newarray .int, 2) := by decide +kernel
theorem dX9_init_99 : decode cX9_init 99 = .ok (.putfield 67, 3) := by decide +kernel
theorem dX9_init_102 : decode cX9_init 102 = .ok (.aload_n 0, 1) := by decide +kernel
theorem dX9_init_103 : decode cX9_init 103 = .ok (.bipush 8, 2) := by decide +kernel
theorem dX9_init_105 : decode cX9_init 105 = .ok (.newarray .int, 2) := by decide +kernel
theorem dX9_init_107 : decode cX9_init 107 = .ok (.putfield 71, 3) := by decide +kernel
theorem dX9_init_110 : decode cX9_init 110 = .ok (.aload_n 0, 1) := by decide +kernel
theorem dX9_init_111 : decode cX9_init 111 = .ok (.bipush 21, 2) := by decide +kernel
theorem dX9_init_113 : decode cX9_init 113 = .ok (.newarray .int, 2) := by decide +kernel
theorem dX9_init_115 : decode cX9_init 115 = .ok (.putfield 74, 3) := by decide +kernel
theorem dX9_init_118 : decode cX9_init 118 = .ok (.aload_n 0, 1) := by decide +kernel
theorem dX9_init_119 : decode cX9_init 119 = .ok (.bipush 8, 2) := by decide +kernel
theorem dX9_init_121 : decode cX9_init 121 = .ok (.newarray .int, 2) := by decide +kernel
theorem dX9_init_123 : decode cX9_init 123 = .ok (.putfield 77, 3) := by decide +kernel
theorem dX9_init_126 : decode cX9_init 126 = .ok (.aload_n 0, 1) := by decide +kernel
theorem dX9_init_127 : decode cX9_init 127 = .ok (.bipush 12, 2) := by decide +kernel
theorem dX9_init_129 : decode cX9_init 129 = .ok (.newarray .int, 2) := by decide +kernel
theorem dX9_init_131 : decode cX9_init 131 = .ok (.putfield 80, 3) := by decide +kernel
theorem dX9_init_134 : decode cX9_init 134 = .ok (.aload_n 0, 1) := by decide +kernel
theorem dX9_init_135 : decode cX9_init 135 = .ok (.bipush 8, 2) := by decide +kernel
theorem dX9_init_137 : decode cX9_init 137 = .ok (.newarray .int, 2) := by decide +kernel
theorem dX9_init_139 : decode cX9_init 139 = .ok (.putfield 83, 3) := by decide +kernel
theorem dX9_init_142 : decode cX9_init 142 = .ok (.iconst 0, 1) := by decide +kernel
theorem dX9_init_143 : decode cX9_init 143 = .ok (.istore_n 1, 1) := by decide +kernel
theorem dX9_init_144 : decode cX9_init 144 = .ok (.iload_n 1, 1) := by decide +kernel
theorem dX9_init_145 : decode cX9_init 145 = .ok (.bipush 6, 2) := by decide +kernel
theorem dX9_init_147 : decode cX9_init 147 = .ok (.if_icmp .ge 22, 3) := by decide +kernel
theorem dX9_init_150 : decode cX9_init 150 = .ok (.aload_n 0, 1) := by decide +kernel
theorem dX9_init_151 : decode cX9_init 151 = .ok (.getfield 43, 3) := by decide +kernel
theorem dX9_init_154 : decode cX9_init 154 = .ok (.iload_n 1, 1) := by decide +kernel
theorem dX9_init_155 : decode cX9_init 155 = .ok (.new 41, 3) := by decide +kernel
theorem dX9_init_158 : decode cX9_init 158 = .ok (.dup, 1) := by decide +kernel
theorem dX9_init_159 : decode cX9_init 159 = .ok (.invokespecial 86, 3) := by decide +kernel
theorem dX9_init_162 : decode cX9_init 162 = .ok (.aastore, 1) := by decide +kernel
theorem dX9_init_163 : decode cX9_init 163 = .ok (.iinc 1 1, 3) := by decide +kernel
theorem dX9_init_166 : decode cX9_init 166 = .ok (.goto (-22), 3) := by decide +kernel
theorem dX9_init_169 : decode cX9_init 169 = .ok (.iconst 0, 1) := by decide +kernel
theorem dX9_init_170 : decode cX9_init 170 = .ok (.istore_n 1, 1) := by decide +kernel
theorem dX9_init_171 : decode cX9_init 171 = .ok (.iload_n 1, 1) := by decide +kernel
theorem dX9_init_172 : decode cX9_init 172 = .ok (.iconst 4, 1) := by decide +kernel
theorem dX9_init_173 : decode cX9_init 173 = .ok (.if_icmp .ge 22, 3) := by decide +kernel
theorem dX9_init_176 : decode cX9_init 176 = .ok (.aload_n 0, 1) := by decide +kernel
theorem dX9_init_177 : decode cX9_init 177 = .ok (.getfield 63, 3) := by decide +kernel
theorem dX9_init_180 : decode cX9_init 180 = .ok (.iload_n 1, 1) := by decide +kernel
theorem dX9_init_181 : decode cX9_init 181 = .ok (.new 61, 3) := by decide +kernel
theorem dX9_init_184 : decode cX9_init 184 = .ok (.dup, 1) := by decide +kernel
theorem dX9_init_185 : decode cX9_init 185 = .ok (.invokespecial 87, 3) := by decide +kernel
theorem dX9_init_188 : decode cX9_init 188 = .ok (.aastore, 1) := by decide +kernel
theorem dX9_init_189 : decode cX9_init 189 = .ok (.iinc 1 1, 3) := by decide +kernel
theorem dX9_init_192 : decode cX9_init 192 = .ok (.goto (-21), 3) := by decide +kernel
theorem dX9_init_195 : decode cX9_init 195 = .ok (.iconst 0, 1) := by decide +kernel
theorem dX9_init_196 : decode cX9_init 196 = .ok (.istore_n 1, 1) := by decide +kernel
theorem dX9_init_197 : decode cX9_init 197 = .ok (.iload_n 1, 1) := by decide +kernel
theorem dX9_init_198 : decode cX9_init 198 = .ok (.ldc 88, 2) := by decide +kernel
theorem dX9_init_200 : decode cX9_init 200 = .ok (.invokevirtual 90, 3) := by decide +kernel
theorem dX9_init_203 : decode cX9_init 203 = .ok (.if_icmp .ge 22, 3) := by decide +kernel
theorem dX9_init_206 : decode cX9_init 206 = .ok (.aload_n 0, 1) := by decide +kernel
theorem dX9_init_207 : decode cX9_init 207 = .ok (.getfield 28, 3) := by decide +kernel
theorem dX9_init_210 : decode cX9_init 210 = .ok (.ldc 88, 2) := by decide +kernel
theorem dX9_init_212 : decode cX9_init 212 = .ok (.iload_n 1, 1) := by decide +kernel
theorem dX9_init_213 : decode cX9_init 213 = .ok (.invokevirtual 96, 3) := by decide +kernel
theorem dX9_init_216 : decode cX9_init 216 = .ok (.invokevirtual 100, 3) := by decide +kernel
theorem dX9_init_219 : decode cX9_init 219 = .ok (.iinc 1 1, 3) := by decide +kernel
theorem dX9_init_222 : decode cX9_init 222 = .ok (.goto (-25), 3) := by decide +kernel
theorem dX9_init_225 : decode cX9_init 225 = .ok (.aload_n 0, 1) := by decide +kernel
theorem dX9_init_226 : decode cX9_init 226 = .ok (.getfield 37, 3) := by decide +kernel
theorem dX9_init_229 : decode cX9_init 229 = .ok (.aload_n 0, 1) := by decide +kernel
theorem dX9_init_230 : decode cX9_init 230 = .ok (.getfield 43, 3) := by decide +kernel
theorem dX9_init_233 : decode cX9_init 233 = .ok (.iconst 0, 1) := by decide +kernel
theorem dX9_init_234 : decode cX9_init 234 = .ok (.aaload, 1) := by decide +kernel
theorem dX9_init_235 : decode cX9_init 235 = .ok (.invokevirtual 104, 3) := by decide +kernel
theorem dX9_init_238 : decode cX9_init 238 = .ok (.pop, 1) := by decide +kernel
theorem dX9_init_239 : decode cX9_init 239 = .ok (.aload_n 0, 1) := by decide +kernel
theorem dX9_init_240 : decode cX9_init 240 = .ok (.getfield 28, 3) := by decide +kernel
theorem dX9_init_243 : decode cX9_init 243 = .ok (.iconst 0, 1) := by decide +kernel
theorem dX9_init_244 : decode cX9_init 244 = .ok (.putfield 108, 3) := by decide +kernel
theorem dX9_init_247 : decode cX9_init 247 = .ok (.return_, 1) := by decide +kernel
theorem dX9_road_0 : decode cX9_road 0 = .ok (.iload_n 1, 1) := by decide +kernel
theorem dX9_road_1 : decode cX9_road 1 = .ok (.iconst 0, 1) := by decide +kernel
theorem dX9_road_2 : decode cX9_road 2 = .ok (.bipush 40, 2) := by decide +kernel
theorem dX9_road_4 : decode cX9_road 4 = .ok (.invokestatic 111, 3) := by decide +kernel
theorem dX9_road_7 : decode cX9_road 7 = .ok (.ifCond .ne 5, 3) := by decide +kernel
theorem dX9_road_10 : decode cX9_road 10 = .ok (.iconst (-1), 1) := by decide +kernel
theorem dX9_road_11 : decode cX9_road 11 = .ok (.ireturn, 1) := by decide +kernel
theorem dX9_road_12 : decode cX9_road 12 = .ok (.iload_n 2, 1) := by decide +kernel
theorem dX9_road_13 : decode cX9_road 13 = .ok (.iconst 0, 1) := by decide +kernel
theorem dX9_road_14 : decode cX9_road 14 = .ok (.bipush 9, 2) := by decide +kernel
theorem dX9_road_16 : decode cX9_road 16 = .ok (.invokestatic 111, 3) := by decide +kernel
theorem dX9_road_19 : decode cX9_road 19 = .ok (.ifCond .ne 6, 3) := by decide +kernel
theorem dX9_road_22 : decode cX9_road 22 = .ok (.bipush (-2), 2) := by decide +kernel
theorem dX9_road_24 : decode cX9_road 24 = .ok (.ireturn, 1) := by decide +kernel
theorem dX9_road_25 : decode cX9_road 25 = .ok (.aload_n 0, 1) := by decide +kernel
theorem dX9_road_26 : decode cX9_road 26 = .ok (.getfield 10, 3) := by decide +kernel
theorem dX9_road_29 : decode cX9_road 29 = .ok (.getfield 115, 3) := by decide +kernel
theorem dX9_road_32 : decode cX9_road 32 = .ok (.iload_n 1, 1) := by decide +kernel
theorem dX9_road_33 : decode cX9_road 33 = .ok (.iaload, 1) := by decide +kernel
theorem dX9_road_34 : decode cX9_road 34 = .ok (.istore_n 3, 1) := by decide +kernel
theorem dX9_road_35 : decode cX9_road 35 = .ok (.aload_n 0, 1) := by decide +kernel
theorem dX9_road_36 : decode cX9_road 36 = .ok (.getfield 10, 3) := by decide +kernel
theorem dX9_road_39 : decode cX9_road 39 = .ok (.getfield 115, 3) := by decide +kernel
theorem dX9_road_42 : decode cX9_road 42 = .ok (.iload_n 1, 1) := by decide +kernel
theorem dX9_road_43 : decode cX9_road 43 = .ok (.iload_n 2, 1) := by decide +kernel
theorem dX9_road_44 : decode cX9_road 44 = .ok (.iastore, 1) := by decide +kernel
theorem dX9_road_45 : decode cX9_road 45 = .ok (.aload_n 0, 1) := by decide +kernel
theorem dX9_road_46 : decode cX9_road 46 = .ok (.getfield 10, 3) := by decide +kernel
theorem dX9_road_49 : decode cX9_road 49 = .ok (.invokevirtual 118, 3) := by decide +kernel
theorem dX9_road_52 : decode cX9_road 52 = .ok (.iload_n 3, 1) := by decide +kernel
theorem dX9_road_53 : decode cX9_road 53 = .ok (.ireturn, 1) := by decide +kernel
theorem dX9_sort_0 : decode cX9_sort 0 = .ok (.iload_n 1, 1) := by decide +kernel
theorem dX9_sort_1 : decode cX9_sort 1 = .ok (.invokestatic 121, 3) := by decide +kernel
theorem dX9_sort_4 : decode cX9_sort 4 = .ok (.ifCond .ne 5, 3) := by decide +kernel
theorem dX9_sort_7 : decode cX9_sort 7 = .ok (.iconst (-1), 1) := by decide +kernel
theorem dX9_sort_8 : decode cX9_sort 8 = .ok (.ireturn, 1) := by decide +kernel
theorem dX9_sort_9 : decode cX9_sort 9 = .ok (.iload_n 2, 1) := by decide +kernel
theorem dX9_sort_10 : decode cX9_sort 10 = .ok (.iconst 0, 1) := by decide +kernel
theorem dX9_sort_11 : decode cX9_sort 11 = .ok (.iconst 5, 1) := by decide +kernel
theorem dX9_sort_12 : decode cX9_sort 12 = .ok (.invokestatic 111, 3) := by decide +kernel
theorem dX9_sort_15 : decode cX9_sort 15 = .ok (.ifCond .eq 20, 3) := by decide +kernel
theorem dX9_sort_18 : decode cX9_sort 18 = .ok (.iload_n 3, 1) := by decide +kernel
theorem dX9_sort_19 : decode cX9_sort 19 = .ok (.getstatic 125, 3) := by decide +kernel
theorem dX9_sort_22 : decode cX9_sort 22 = .ok (.iload_n 2, 1) := by decide +kernel
theorem dX9_sort_23 : decode cX9_sort 23 = .ok (.iaload, 1) := by decide +kernel
theorem dX9_sort_24 : decode cX9_sort 24 = .ok (.getstatic 128, 3) := by decide +kernel
theorem dX9_sort_27 : decode cX9_sort 27 = .ok (.iload_n 2, 1) := by decide +kernel
theorem dX9_sort_28 : decode cX9_sort 28 = .ok (.iaload, 1) := by decide +kernel
theorem dX9_sort_29 : decode cX9_sort 29 = .ok (.invokestatic 111, 3) := by decide +kernel
theorem dX9_sort_32 : decode cX9_sort 32 = .ok (.ifCond .ne 6, 3) := by decide +kernel
theorem dX9_sort_35 : decode cX9_sort 35 = .ok (.bipush (-2), 2) := by decide +kernel
theorem dX9_sort_37 : decode cX9_sort 37 = .ok (.ireturn, 1) := by decide +kernel
theorem dX9_sort_38 : decode cX9_sort 38 = .ok (.aload_n 0, 1) := by decide +kernel
theorem dX9_sort_39 : decode cX9_sort 39 = .ok (.getfield 10, 3) := by decide +kernel
theorem dX9_sort_42 : decode cX9_sort 42 = .ok (.getfield 131, 3) := by decide +kernel
theorem dX9_sort_45 : decode cX9_sort 45 = .ok (.iload_n 1, 1) := by decide +kernel
theorem dX9_sort_46 : decode cX9_sort 46 = .ok (.aaload, 1) := by decide +kernel
theorem dX9_sort_47 : decode cX9_sort 47 = .ok (.iload_n 2, 1) := by decide +kernel
theorem dX9_sort_48 : decode cX9_sort 48 = .ok (.iaload, 1) := by decide +kernel
theorem dX9_sort_49 : decode cX9_sort 49 = .ok (.istore 4, 2) := by decide +kernel
theorem dX9_sort_51 : decode cX9_sort 51 = .ok (.aload_n 0, 1) := by decide +kernel
theorem dX9_sort_52 : decode cX9_sort 52 = .ok (.getfield 10, 3) := by decide +kernel
theorem dX9_sort_55 : decode cX9_sort 55 = .ok (.getfield 131, 3) := by decide +kernel
theorem dX9_sort_58 : decode cX9_sort 58 = .ok (.iload_n 1, 1) := by decide +kernel
theorem dX9_sort_59 : decode cX9_sort 59 = .ok (.aaload, 1) := by decide +kernel
theorem dX9_sort_60 : decode cX9_sort 60 = .ok (.iload_n 2, 1) := by decide +kernel
theorem dX9_sort_61 : decode cX9_sort 61 = .ok (.iload_n 3, 1) := by decide +kernel
theorem dX9_sort_62 : decode cX9_sort 62 = .ok (.iastore, 1) := by decide +kernel
theorem dX9_sort_63 : decode cX9_sort 63 = .ok (.iload 4, 2) := by decide +kernel
theorem dX9_sort_65 : decode cX9_sort 65 = .ok (.ireturn, 1) := by decide +kernel
theorem dX9_car_0 : decode cX9_car 0 = .ok (.iload_n 1, 1) := by decide +kernel
theorem dX9_car_1 : decode cX9_car 1 = .ok (.ifCond .ne 33, 3) := by decide +kernel
theorem dX9_car_4 : decode cX9_car 4 = .ok (.iload_n 2, 1) := by decide +kernel
theorem dX9_car_5 : decode cX9_car 5 = .ok (.iconst 1, 1) := by decide +kernel
theorem dX9_car_6 : decode cX9_car 6 = .ok (.sipush 3600, 3) := by decide +kernel
theorem dX9_car_9 : decode cX9_car 9 = .ok (.invokestatic 111, 3) := by decide +kernel
theorem dX9_car_12 : decode cX9_car 12 = .ok (.ifCond .eq 22, 3) := by decide +kernel
theorem dX9_car_15 : decode cX9_car 15 = .ok (.aload_n 0, 1) := by decide +kernel
theorem dX9_car_16 : decode cX9_car 16 = .ok (.getfield 10, 3) := by decide +kernel
theorem dX9_car_19 : decode cX9_car 19 = .ok (.getfield 135, 3) := by decide +kernel
theorem dX9_car_22 : decode cX9_car 22 = .ok (.istore_n 3, 1) := by decide +kernel
theorem dX9_car_23 : decode cX9_car 23 = .ok (.aload_n 0, 1) := by decide +kernel
theorem dX9_car_24 : decode cX9_car 24 = .ok (.getfield 10, 3) := by decide +kernel
theorem dX9_car_27 : decode cX9_car 27 = .ok (.iload_n 2, 1) := by decide +kernel
theorem dX9_car_28 : decode cX9_car 28 = .ok (.putfield 135, 3) := by decide +kernel
theorem dX9_car_31 : decode cX9_car 31 = .ok (.goto 40, 3) := by decide +kernel
theorem dX9_car_34 : decode cX9_car 34 = .ok (.iload_n 1, 1) := by decide +kernel
theorem dX9_car_35 : decode cX9_car 35 = .ok (.iconst 1, 1) := by decide +kernel
theorem dX9_car_36 : decode cX9_car 36 = .ok (.if_icmp .ne 32, 3) := by decide +kernel
theorem dX9_car_39 : decode cX9_car 39 = .ok (.iload_n 2, 1) := by decide +kernel
theorem dX9_car_40 : decode cX9_car 40 = .ok (.iconst 1, 1) := by decide +kernel
theorem dX9_car_41 : decode cX9_car 41 = .ok (.bipush 60, 2) := by decide +kernel
theorem dX9_car_43 : decode cX9_car 43 = .ok (.invokestatic 111, 3) := by decide +kernel
theorem dX9_car_46 : decode cX9_car 46 = .ok (.ifCond .eq 22, 3) := by decide +kernel
theorem dX9_car_49 : decode cX9_car 49 = .ok (.aload_n 0, 1) := by decide +kernel
theorem dX9_car_50 : decode cX9_car 50 = .ok (.getfield 10, 3) := by decide +kernel
theorem dX9_car_53 : decode cX9_car 53 = .ok (.getfield 138, 3) := by decide +kernel
theorem dX9_car_56 : decode cX9_car 56 = .ok (.istore_n 3, 1) := by decide +kernel
theorem dX9_car_57 : decode cX9_car 57 = .ok (.aload_n 0, 1) := by decide +kernel
theorem dX9_car_58 : decode cX9_car 58 = .ok (.getfield 10, 3) := by decide +kernel
theorem dX9_car_61 : decode cX9_car 61 = .ok (.iload_n 2, 1) := by decide +kernel
theorem dX9_car_62 : decode cX9_car 62 = .ok (.putfield 138, 3) := by decide +kernel
theorem dX9_car_65 : decode cX9_car 65 = .ok (.goto 6, 3) := by decide +kernel
theorem dX9_car_68 : decode cX9_car 68 = .ok (.bipush (-2), 2) := by decide +kernel
theorem dX9_car_70 : decode cX9_car 70 = .ok (.istore_n 3, 1) := by decide +kernel
theorem dX9_car_71 : decode cX9_car 71 = .ok (.iload_n 3, 1) := by decide +kernel
theorem dX9_car_72 : decode cX9_car 72 = .ok (.ireturn, 1) := by decide +kernel
theorem dX9_walks_0 : decode cX9_walks 0 = .ok (.iload_n 1, 1) := by decide +kernel
theorem dX9_walks_1 : decode cX9_walks 1 = .ok (.invokestatic 141, 3) := by decide +kernel
theorem dX9_walks_4 : decode cX9_walks 4 = .ok (.ifCond .eq 10, 3) := by decide +kernel
theorem dX9_walks_7 : decode cX9_walks 7 = .ok (.iload_n 2, 1) := by decide +kernel
theorem dX9_walks_8 : decode cX9_walks 8 = .ok (.invokestatic 141, 3) := by decide +kernel
theorem dX9_walks_11 : decode cX9_walks 11 = .ok (.ifCond .ne 6, 3) := by decide +kernel
theorem dX9_walks_14 : decode cX9_walks 14 = .ok (.bipush (-5), 2) := by decide +kernel
theorem dX9_walks_16 : decode cX9_walks 16 = .ok (.ireturn, 1) := by decide +kernel
theorem dX9_walks_17 : decode cX9_walks 17 = .ok (.iload_n 3, 1) := by decide +kernel
theorem dX9_walks_18 : decode cX9_walks 18 = .ok (.invokestatic 121, 3) := by decide +kernel
theorem dX9_walks_21 : decode cX9_walks 21 = .ok (.ifCond .ne 6, 3) := by decide +kernel
theorem dX9_walks_24 : decode cX9_walks 24 = .ok (.bipush (-7), 2) := by decide +kernel
theorem dX9_walks_26 : decode cX9_walks 26 = .ok (.ireturn, 1) := by decide +kernel
theorem dX9_walks_27 : decode cX9_walks 27 = .ok (.aload_n 0, 1) := by decide +kernel
theorem dX9_walks_28 : decode cX9_walks 28 = .ok (.getfield 10, 3) := by decide +kernel
theorem dX9_walks_31 : decode cX9_walks 31 = .ok (.iload_n 1, 1) := by decide +kernel
theorem dX9_walks_32 : decode cX9_walks 32 = .ok (.iload_n 2, 1) := by decide +kernel
theorem dX9_walks_33 : decode cX9_walks 33 = .ok (.iload_n 3, 1) := by decide +kernel
theorem dX9_walks_34 : decode cX9_walks 34 = .ok (.invokevirtual 144, 3) := by decide +kernel
theorem dX9_walks_37 : decode cX9_walks 37 = .ok (.ireturn, 1) := by decide +kernel
theorem dX9_stop_0 : decode cX9_stop 0 = .ok (.iload_n 1, 1) := by decide +kernel
theorem dX9_stop_1 : decode cX9_stop 1 = .ok (.invokestatic 148, 3) := by decide +kernel
theorem dX9_stop_4 : decode cX9_stop 4 = .ok (.ifCond .eq 31, 3) := by decide +kernel
theorem dX9_stop_7 : decode cX9_stop 7 = .ok (.iload_n 2, 1) := by decide +kernel
theorem dX9_stop_8 : decode cX9_stop 8 = .ok (.invokestatic 141, 3) := by decide +kernel
theorem dX9_stop_11 : decode cX9_stop 11 = .ok (.ifCond .eq 24, 3) := by decide +kernel
theorem dX9_stop_14 : decode cX9_stop 14 = .ok (.iload_n 3, 1) := by decide +kernel
theorem dX9_stop_15 : decode cX9_stop 15 = .ok (.iconst 0, 1) := by decide +kernel
theorem dX9_stop_16 : decode cX9_stop 16 = .ok (.bipush 99, 2) := by decide +kernel
theorem dX9_stop_18 : decode cX9_stop 18 = .ok (.invokestatic 111, 3) := by decide +kernel
theorem dX9_stop_21 : decode cX9_stop 21 = .ok (.ifCond .eq 14, 3) := by decide +kernel
theorem dX9_stop_24 : decode cX9_stop 24 = .ok (.iload 4, 2) := by decide +kernel
theorem dX9_stop_26 : decode cX9_stop 26 = .ok (.iconst 0, 1) := by decide +kernel
theorem dX9_stop_27 : decode cX9_stop 27 = .ok (.bipush 60, 2) := by decide +kernel
theorem dX9_stop_29 : decode cX9_stop 29 = .ok (.invokestatic 111, 3) := by decide +kernel
theorem dX9_stop_32 : decode cX9_stop 32 = .ok (.ifCond .ne 6, 3) := by decide +kernel
theorem dX9_stop_35 : decode cX9_stop 35 = .ok (.bipush (-2), 2) := by decide +kernel
theorem dX9_stop_37 : decode cX9_stop 37 = .ok (.ireturn, 1) := by decide +kernel
theorem dX9_stop_38 : decode cX9_stop 38 = .ok (.aload_n 0, 1) := by decide +kernel
theorem dX9_stop_39 : decode cX9_stop 39 = .ok (.getfield 10, 3) := by decide +kernel
theorem dX9_stop_42 : decode cX9_stop 42 = .ok (.getfield 151, 3) := by decide +kernel
theorem dX9_stop_45 : decode cX9_stop 45 = .ok (.bipush 8, 2) := by decide +kernel
theorem dX9_stop_47 : decode cX9_stop 47 = .ok (.if_icmp .lt 6, 3) := by decide +kernel
theorem dX9_stop_50 : decode cX9_stop 50 = .ok (.bipush (-4), 2) := by decide +kernel
theorem dX9_stop_52 : decode cX9_stop 52 = .ok (.ireturn, 1) := by decide +kernel
theorem dX9_stop_53 : decode cX9_stop 53 = .ok (.aload_n 0, 1) := by decide +kernel
theorem dX9_stop_54 : decode cX9_stop 54 = .ok (.getfield 10, 3) := by decide +kernel
theorem dX9_stop_57 : decode cX9_stop 57 = .ok (.getfield 154, 3) := by decide +kernel
theorem dX9_stop_60 : decode cX9_stop 60 = .ok (.aload_n 0, 1) := by decide +kernel
theorem dX9_stop_61 : decode cX9_stop 61 = .ok (.getfield 10, 3) := by decide +kernel
theorem dX9_stop_64 : decode cX9_stop 64 = .ok (.getfield 151, 3) := by decide +kernel
theorem dX9_stop_67 : decode cX9_stop 67 = .ok (.aaload, 1) := by decide +kernel
theorem dX9_stop_68 : decode cX9_stop 68 = .ok (.iload_n 1, 1) := by decide +kernel
theorem dX9_stop_69 : decode cX9_stop 69 = .ok (.iload_n 2, 1) := by decide +kernel
theorem dX9_stop_70 : decode cX9_stop 70 = .ok (.iload_n 3, 1) := by decide +kernel
theorem dX9_stop_71 : decode cX9_stop 71 = .ok (.iload 4, 2) := by decide +kernel
theorem dX9_stop_73 : decode cX9_stop 73 = .ok (.invokevirtual 158, 3) := by decide +kernel
theorem dX9_stop_76 : decode cX9_stop 76 = .ok (.aload_n 0, 1) := by decide +kernel
theorem dX9_stop_77 : decode cX9_stop 77 = .ok (.getfield 10, 3) := by decide +kernel
theorem dX9_stop_80 : decode cX9_stop 80 = .ok (.dup, 1) := by decide +kernel
theorem dX9_stop_81 : decode cX9_stop 81 = .ok (.getfield 151, 3) := by decide +kernel
theorem dX9_stop_84 : decode cX9_stop 84 = .ok (.iconst 1, 1) := by decide +kernel
theorem dX9_stop_85 : decode cX9_stop 85 = .ok (.iadd, 1) := by decide +kernel
theorem dX9_stop_86 : decode cX9_stop 86 = .ok (.putfield 151, 3) := by decide +kernel
theorem dX9_stop_89 : decode cX9_stop 89 = .ok (.aload_n 0, 1) := by decide +kernel
theorem dX9_stop_90 : decode cX9_stop 90 = .ok (.getfield 10, 3) := by decide +kernel
theorem dX9_stop_93 : decode cX9_stop 93 = .ok (.getfield 151, 3) := by decide +kernel
theorem dX9_stop_96 : decode cX9_stop 96 = .ok (.iconst 1, 1) := by decide +kernel
theorem dX9_stop_97 : decode cX9_stop 97 = .ok (.isub, 1) := by decide +kernel
theorem dX9_stop_98 : decode cX9_stop 98 = .ok (.ireturn, 1) := by decide +kernel
theorem dX9_open_0 : decode cX9_open 0 = .ok (.aload_n 0, 1) := by decide +kernel
theorem dX9_open_1 : decode cX9_open 1 = .ok (.iload_n 1, 1) := by decide +kernel
theorem dX9_open_2 : decode cX9_open 2 = .ok (.invokevirtual 164, 3) := by decide +kernel
theorem dX9_open_5 : decode cX9_open 5 = .ok (.ifCond .ne 5, 3) := by decide +kernel
theorem dX9_open_8 : decode cX9_open 8 = .ok (.iconst (-1), 1) := by decide +kernel
theorem dX9_open_9 : decode cX9_open 9 = .ok (.ireturn, 1) := by decide +kernel
theorem dX9_open_10 : decode cX9_open 10 = .ok (.iload_n 2, 1) := by decide +kernel
theorem dX9_open_11 : decode cX9_open 11 = .ok (.iconst 0, 1) := by decide +kernel
theorem dX9_open_12 : decode cX9_open 12 = .ok (.iconst 1, 1) := by decide +kernel
theorem dX9_open_13 : decode cX9_open 13 = .ok (.invokestatic 111, 3) := by decide +kernel
theorem dX9_open_16 : decode cX9_open 16 = .ok (.ifCond .ne 6, 3) := by decide +kernel
theorem dX9_open_19 : decode cX9_open 19 = .ok (.bipush (-2), 2) := by decide +kernel
theorem dX9_open_21 : decode cX9_open 21 = .ok (.ireturn, 1) := by decide +kernel
theorem dX9_open_22 : decode cX9_open 22 = .ok (.aload_n 0, 1) := by decide +kernel
theorem dX9_open_23 : decode cX9_open 23 = .ok (.getfield 10, 3) := by decide +kernel
theorem dX9_open_26 : decode cX9_open 26 = .ok (.getfield 154, 3) := by decide +kernel
theorem dX9_open_29 : decode cX9_open 29 = .ok (.iload_n 1, 1) := by decide +kernel
theorem dX9_open_30 : decode cX9_open 30 = .ok (.aaload, 1) := by decide +kernel
theorem dX9_open_31 : decode cX9_open 31 = .ok (.getfield 167, 3) := by decide +kernel
theorem dX9_open_34 : decode cX9_open 34 = .ok (.invokestatic 171, 3) := by decide +kernel
theorem dX9_open_37 : decode cX9_open 37 = .ok (.istore_n 3, 1) := by decide +kernel
theorem dX9_open_38 : decode cX9_open 38 = .ok (.aload_n 0, 1) := by decide +kernel
theorem dX9_open_39 : decode cX9_open 39 = .ok (.getfield 10, 3) := by decide +kernel
theorem dX9_open_42 : decode cX9_open 42 = .ok (.getfield 154, 3) := by decide +kernel
theorem dX9_open_45 : decode cX9_open 45 = .ok (.iload_n 1, 1) := by decide +kernel
theorem dX9_open_46 : decode cX9_open 46 = .ok (.aaload, 1) := by decide +kernel
theorem dX9_open_47 : decode cX9_open 47 = .ok (.iload_n 2, 1) := by decide +kernel
theorem dX9_open_48 : decode cX9_open 48 = .ok (.iconst 1, 1) := by decide +kernel
theorem dX9_open_49 : decode cX9_open 49 = .ok (.if_icmp .ne 7, 3) := by decide +kernel
theorem dX9_open_52 : decode cX9_open 52 = .ok (.iconst 1, 1) := by decide +kernel
theorem dX9_open_53 : decode cX9_open 53 = .ok (.goto 4, 3) := by decide +kernel
theorem dX9_open_56 : decode cX9_open 56 = .ok (.iconst 0, 1) := by decide +kernel
theorem dX9_open_57 : decode cX9_open 57 = .ok (.putfield 167, 3) := by decide +kernel
theorem dX9_open_60 : decode cX9_open 60 = .ok (.iload_n 3, 1) := by decide +kernel
theorem dX9_open_61 : decode cX9_open 61 = .ok (.ireturn, 1) := by decide +kernel
theorem dX9_want_0 : decode cX9_want 0 = .ok (.aload_n 0, 1) := by decide +kernel
theorem dX9_want_1 : decode cX9_want 1 = .ok (.iload_n 1, 1) := by decide +kernel
theorem dX9_want_2 : decode cX9_want 2 = .ok (.invokevirtual 164, 3) := by decide +kernel
theorem dX9_want_5 : decode cX9_want 5 = .ok (.ifCond .ne 5, 3) := by decide +kernel
theorem dX9_want_8 : decode cX9_want 8 = .ok (.iconst (-1), 1) := by decide +kernel
theorem dX9_want_9 : decode cX9_want 9 = .ok (.ireturn, 1) := by decide +kernel
theorem dX9_want_10 : decode cX9_want 10 = .ok (.iload_n 2, 1) := by decide +kernel
theorem dX9_want_11 : decode cX9_want 11 = .ok (.iconst 0, 1) := by decide +kernel
theorem dX9_want_12 : decode cX9_want 12 = .ok (.bipush 10, 2) := by decide +kernel
theorem dX9_want_14 : decode cX9_want 14 = .ok (.invokestatic 111, 3) := by decide +kernel
theorem dX9_want_17 : decode cX9_want 17 = .ok (.ifCond .ne 6, 3) := by decide +kernel
theorem dX9_want_20 : decode cX9_want 20 = .ok (.bipush (-2), 2) := by decide +kernel
theorem dX9_want_22 : decode cX9_want 22 = .ok (.ireturn, 1) := by decide +kernel
theorem dX9_want_23 : decode cX9_want 23 = .ok (.aload_n 0, 1) := by decide +kernel
theorem dX9_want_24 : decode cX9_want 24 = .ok (.getfield 10, 3) := by decide +kernel
theorem dX9_want_27 : decode cX9_want 27 = .ok (.getfield 154, 3) := by decide +kernel
theorem dX9_want_30 : decode cX9_want 30 = .ok (.iload_n 1, 1) := by decide +kernel
theorem dX9_want_31 : decode cX9_want 31 = .ok (.aaload, 1) := by decide +kernel
theorem dX9_want_32 : decode cX9_want 32 = .ok (.getfield 175, 3) := by decide +kernel
theorem dX9_want_35 : decode cX9_want 35 = .ok (.istore_n 3, 1) := by decide +kernel
theorem dX9_want_36 : decode cX9_want 36 = .ok (.aload_n 0, 1) := by decide +kernel
theorem dX9_want_37 : decode cX9_want 37 = .ok (.getfield 10, 3) := by decide +kernel
theorem dX9_want_40 : decode cX9_want 40 = .ok (.getfield 154, 3) := by decide +kernel
theorem dX9_want_43 : decode cX9_want 43 = .ok (.iload_n 1, 1) := by decide +kernel
theorem dX9_want_44 : decode cX9_want 44 = .ok (.aaload, 1) := by decide +kernel
theorem dX9_want_45 : decode cX9_want 45 = .ok (.iload_n 2, 1) := by decide +kernel
theorem dX9_want_46 : decode cX9_want 46 = .ok (.putfield 175, 3) := by decide +kernel
theorem dX9_want_49 : decode cX9_want 49 = .ok (.iload_n 3, 1) := by decide +kernel
theorem dX9_want_50 : decode cX9_want 50 = .ok (.ireturn, 1) := by decide +kernel
theorem dX9_turns_0 : decode cX9_turns 0 = .ok (.aload_n 0, 1) := by decide +kernel
theorem dX9_turns_1 : decode cX9_turns 1 = .ok (.iload_n 1, 1) := by decide +kernel
theorem dX9_turns_2 : decode cX9_turns 2 = .ok (.invokevirtual 164, 3) := by decide +kernel
theorem dX9_turns_5 : decode cX9_turns 5 = .ok (.ifCond .ne 5, 3) := by decide +kernel
theorem dX9_turns_8 : decode cX9_turns 8 = .ok (.iconst (-1), 1) := by decide +kernel
theorem dX9_turns_9 : decode cX9_turns 9 = .ok (.ireturn, 1) := by decide +kernel
theorem dX9_turns_10 : decode cX9_turns 10 = .ok (.iload_n 2, 1) := by decide +kernel
theorem dX9_turns_11 : decode cX9_turns 11 = .ok (.iconst 0, 1) := by decide +kernel
theorem dX9_turns_12 : decode cX9_turns 12 = .ok (.iconst 2, 1) := by decide +kernel
theorem dX9_turns_13 : decode cX9_turns 13 = .ok (.invokestatic 111, 3) := by decide +kernel
theorem dX9_turns_16 : decode cX9_turns 16 = .ok (.ifCond .ne 6, 3) := by decide +kernel
theorem dX9_turns_19 : decode cX9_turns 19 = .ok (.bipush (-2), 2) := by decide +kernel
theorem dX9_turns_21 : decode cX9_turns 21 = .ok (.ireturn, 1) := by decide +kernel
theorem dX9_turns_22 : decode cX9_turns 22 = .ok (.aload_n 0, 1) := by decide +kernel
theorem dX9_turns_23 : decode cX9_turns 23 = .ok (.getfield 10, 3) := by decide +kernel
theorem dX9_turns_26 : decode cX9_turns 26 = .ok (.getfield 154, 3) := by decide +kernel
theorem dX9_turns_29 : decode cX9_turns 29 = .ok (.iload_n 1, 1) := by decide +kernel
theorem dX9_turns_30 : decode cX9_turns 30 = .ok (.aaload, 1) := by decide +kernel
theorem dX9_turns_31 : decode cX9_turns 31 = .ok (.getfield 178, 3) := by decide +kernel
theorem dX9_turns_34 : decode cX9_turns 34 = .ok (.istore_n 3, 1) := by decide +kernel
theorem dX9_turns_35 : decode cX9_turns 35 = .ok (.aload_n 0, 1) := by decide +kernel
theorem dX9_turns_36 : decode cX9_turns 36 = .ok (.getfield 10, 3) := by decide +kernel
theorem dX9_turns_39 : decode cX9_turns 39 = .ok (.getfield 154, 3) := by decide +kernel
theorem dX9_turns_42 : decode cX9_turns 42 = .ok (.iload_n 1, 1) := by decide +kernel
theorem dX9_turns_43 : decode cX9_turns 43 = .ok (.aaload, 1) := by decide +kernel
theorem dX9_turns_44 : decode cX9_turns 44 = .ok (.iload_n 2, 1) := by decide +kernel
theorem dX9_turns_45 : decode cX9_turns 45 = .ok (.putfield 178, 3) := by decide +kernel
theorem dX9_turns_48 : decode cX9_turns 48 = .ok (.iload_n 3, 1) := by decide +kernel
theorem dX9_turns_49 : decode cX9_turns 49 = .ok (.ireturn, 1) := by decide +kernel
theorem dX9_told_0 : decode cX9_told 0 = .ok (.aload_n 0, 1) := by decide +kernel
theorem dX9_told_1 : decode cX9_told 1 = .ok (.iload_n 1, 1) := by decide +kernel
theorem dX9_told_2 : decode cX9_told 2 = .ok (.invokevirtual 164, 3) := by decide +kernel
theorem dX9_told_5 : decode cX9_told 5 = .ok (.ifCond .ne 6, 3) := by decide +kernel
theorem dX9_told_8 : decode cX9_told 8 = .ok (.bipush (-5), 2) := by decide +kernel
theorem dX9_told_10 : decode cX9_told 10 = .ok (.ireturn, 1) := by decide +kernel
theorem dX9_told_11 : decode cX9_told 11 = .ok (.aload_n 0, 1) := by decide +kernel
theorem dX9_told_12 : decode cX9_told 12 = .ok (.getfield 10, 3) := by decide +kernel
theorem dX9_told_15 : decode cX9_told 15 = .ok (.getfield 154, 3) := by decide +kernel
theorem dX9_told_18 : decode cX9_told 18 = .ok (.iload_n 1, 1) := by decide +kernel
theorem dX9_told_19 : decode cX9_told 19 = .ok (.aaload, 1) := by decide +kernel
theorem dX9_told_20 : decode cX9_told 20 = .ok (.astore_n 3, 1) := by decide +kernel
theorem dX9_told_21 : decode cX9_told 21 = .ok (.iload_n 2, 1) := by decide +kernel
theorem dX9_told_22 : decode cX9_told 22 = .ok (.tableswitch 92 0 6 #[42, 47, 52, 61, 69, 74, 83], 42) := by decide +kernel
theorem dX9_told_64 : decode cX9_told 64 = .ok (.aload_n 3, 1) := by decide +kernel
theorem dX9_told_65 : decode cX9_told 65 = .ok (.getfield 181, 3) := by decide +kernel
theorem dX9_told_68 : decode cX9_told 68 = .ok (.ireturn, 1) := by decide +kernel
theorem dX9_told_69 : decode cX9_told 69 = .ok (.aload_n 3, 1) := by decide +kernel
theorem dX9_told_70 : decode cX9_told 70 = .ok (.getfield 184, 3) := by decide +kernel
theorem dX9_told_73 : decode cX9_told 73 = .ok (.ireturn, 1) := by decide +kernel
theorem dX9_told_74 : decode cX9_told 74 = .ok (.aload_n 3, 1) := by decide +kernel
theorem dX9_told_75 : decode cX9_told 75 = .ok (.aload_n 3, 1) := by decide +kernel
theorem dX9_told_76 : decode cX9_told 76 = .ok (.getfield 175, 3) := by decide +kernel
theorem dX9_told_79 : decode cX9_told 79 = .ok (.invokevirtual 187, 3) := by decide +kernel
theorem dX9_told_82 : decode cX9_told 82 = .ok (.ireturn, 1) := by decide +kernel
theorem dX9_told_83 : decode cX9_told 83 = .ok (.aload_n 3, 1) := by decide +kernel
theorem dX9_told_84 : decode cX9_told 84 = .ok (.getfield 167, 3) := by decide +kernel
theorem dX9_told_87 : decode cX9_told 87 = .ok (.invokestatic 171, 3) := by decide +kernel
theorem dX9_told_90 : decode cX9_told 90 = .ok (.ireturn, 1) := by decide +kernel
theorem dX9_told_91 : decode cX9_told 91 = .ok (.aload_n 3, 1) := by decide +kernel
theorem dX9_told_92 : decode cX9_told 92 = .ok (.getfield 175, 3) := by decide +kernel
theorem dX9_told_95 : decode cX9_told 95 = .ok (.ireturn, 1) := by decide +kernel
theorem dX9_told_96 : decode cX9_told 96 = .ok (.aload_n 3, 1) := by decide +kernel
theorem dX9_told_97 : decode cX9_told 97 = .ok (.aload_n 3, 1) := by decide +kernel
theorem dX9_told_98 : decode cX9_told 98 = .ok (.getfield 178, 3) := by decide +kernel
theorem dX9_told_101 : decode cX9_told 101 = .ok (.invokevirtual 191, 3) := by decide +kernel
theorem dX9_told_104 : decode cX9_told 104 = .ok (.ireturn, 1) := by decide +kernel
theorem dX9_told_105 : decode cX9_told 105 = .ok (.aload_n 3, 1) := by decide +kernel
theorem dX9_told_106 : decode cX9_told 106 = .ok (.iconst 1, 1) := by decide +kernel
theorem dX9_told_107 : decode cX9_told 107 = .ok (.invokevirtual 194, 3) := by decide +kernel
theorem dX9_told_110 : decode cX9_told 110 = .ok (.invokestatic 171, 3) := by decide +kernel
theorem dX9_told_113 : decode cX9_told 113 = .ok (.ireturn, 1) := by decide +kernel
