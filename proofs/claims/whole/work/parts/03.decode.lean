theorem dX0_init_0 : decode cX0_init 0 = .ok (.aload_n 0, 1) := by decide +kernel
theorem dX0_init_1 : decode cX0_init 1 = .ok (.invokespecial 3, 3) := by decide +kernel
theorem dX0_init_4 : decode cX0_init 4 = .ok (.aload_n 0, 1) := by decide +kernel
theorem dX0_init_5 : decode cX0_init 5 = .ok (.bipush 44, 2) := by decide +kernel
theorem dX0_init_7 : decode cX0_init 7 = .ok (.newarray .int, 2) := by decide +kernel
theorem dX0_init_9 : decode cX0_init 9 = .ok (.putfield 11, 3) := by decide +kernel
theorem dX0_init_12 : decode cX0_init 12 = .ok (.aload_n 0, 1) := by decide +kernel
theorem dX0_init_13 : decode cX0_init 13 = .ok (.iconst 0, 1) := by decide +kernel
theorem dX0_init_14 : decode cX0_init 14 = .ok (.putfield 15, 3) := by decide +kernel
theorem dX0_init_17 : decode cX0_init 17 = .ok (.aload_n 0, 1) := by decide +kernel
theorem dX0_init_18 : decode cX0_init 18 = .ok (.iconst 0, 1) := by decide +kernel
theorem dX0_init_19 : decode cX0_init 19 = .ok (.putfield 19, 3) := by decide +kernel
theorem dX0_init_22 : decode cX0_init 22 = .ok (.return_, 1) := by decide +kernel
theorem dX0_append_0 : decode cX0_append 0 = .ok (.aload_n 0, 1) := by decide +kernel
theorem dX0_append_1 : decode cX0_append 1 = .ok (.getfield 15, 3) := by decide +kernel
theorem dX0_append_4 : decode cX0_append 4 = .ok (.bipush 44, 2) := by decide +kernel
theorem dX0_append_6 : decode cX0_append 6 = .ok (.if_icmp .lt 5, 3) := by decide +kernel
theorem dX0_append_9 : decode cX0_append 9 = .ok (.iconst 0, 1) := by decide +kernel
theorem dX0_append_10 : decode cX0_append 10 = .ok (.ireturn, 1) := by decide +kernel
theorem dX0_append_11 : decode cX0_append 11 = .ok (.aload_n 0, 1) := by decide +kernel
theorem dX0_append_12 : decode cX0_append 12 = .ok (.getfield 11, 3) := by decide +kernel
theorem dX0_append_15 : decode cX0_append 15 = .ok (.aload_n 0, 1) := by decide +kernel
theorem dX0_append_16 : decode cX0_append 16 = .ok (.getfield 15, 3) := by decide +kernel
theorem dX0_append_19 : decode cX0_append 19 = .ok (.iload_n 1, 1) := by decide +kernel
theorem dX0_append_20 : decode cX0_append 20 = .ok (.iastore, 1) := by decide +kernel
theorem dX0_append_21 : decode cX0_append 21 = .ok (.aload_n 0, 1) := by decide +kernel
theorem dX0_append_22 : decode cX0_append 22 = .ok (.dup, 1) := by decide +kernel
theorem dX0_append_23 : decode cX0_append 23 = .ok (.getfield 15, 3) := by decide +kernel
theorem dX0_append_26 : decode cX0_append 26 = .ok (.iconst 1, 1) := by decide +kernel
theorem dX0_append_27 : decode cX0_append 27 = .ok (.iadd, 1) := by decide +kernel
theorem dX0_append_28 : decode cX0_append 28 = .ok (.putfield 15, 3) := by decide +kernel
theorem dX0_append_31 : decode cX0_append 31 = .ok (.iconst 1, 1) := by decide +kernel
theorem dX0_append_32 : decode cX0_append 32 = .ok (.ireturn, 1) := by decide +kernel
theorem dX0_firstWrong_0 : decode cX0_firstWrong 0 = .ok (.iconst 0, 1) := by decide +kernel
theorem dX0_firstWrong_1 : decode cX0_firstWrong 1 = .ok (.istore_n 1, 1) := by decide +kernel
theorem dX0_firstWrong_2 : decode cX0_firstWrong 2 = .ok (.iconst 0, 1) := by decide +kernel
theorem dX0_firstWrong_3 : decode cX0_firstWrong 3 = .ok (.istore_n 2, 1) := by decide +kernel
theorem dX0_firstWrong_4 : decode cX0_firstWrong 4 = .ok (.aload_n 0, 1) := by decide +kernel
theorem dX0_firstWrong_5 : decode cX0_firstWrong 5 = .ok (.iconst 0, 1) := by decide +kernel
theorem dX0_firstWrong_6 : decode cX0_firstWrong 6 = .ok (.putfield 19, 3) := by decide +kernel
theorem dX0_firstWrong_9 : decode cX0_firstWrong 9 = .ok (.iconst 0, 1) := by decide +kernel
theorem dX0_firstWrong_10 : decode cX0_firstWrong 10 = .ok (.istore_n 3, 1) := by decide +kernel
theorem dX0_firstWrong_11 : decode cX0_firstWrong 11 = .ok (.iload_n 3, 1) := by decide +kernel
theorem dX0_firstWrong_12 : decode cX0_firstWrong 12 = .ok (.aload_n 0, 1) := by decide +kernel
theorem dX0_firstWrong_13 : decode cX0_firstWrong 13 = .ok (.getfield 15, 3) := by decide +kernel
theorem dX0_firstWrong_16 : decode cX0_firstWrong 16 = .ok (.if_icmp .ge 63, 3) := by decide +kernel
theorem dX0_firstWrong_19 : decode cX0_firstWrong 19 = .ok (.iload_n 3, 1) := by decide +kernel
theorem dX0_firstWrong_20 : decode cX0_firstWrong 20 = .ok (.bipush 44, 2) := by decide +kernel
theorem dX0_firstWrong_22 : decode cX0_firstWrong 22 = .ok (.if_icmp .ge 57, 3) := by decide +kernel
theorem dX0_firstWrong_25 : decode cX0_firstWrong 25 = .ok (.aload_n 0, 1) := by decide +kernel
theorem dX0_firstWrong_26 : decode cX0_firstWrong 26 = .ok (.aload_n 0, 1) := by decide +kernel
theorem dX0_firstWrong_27 : decode cX0_firstWrong 27 = .ok (.getfield 19, 3) := by decide +kernel
theorem dX0_firstWrong_30 : decode cX0_firstWrong 30 = .ok (.aload_n 0, 1) := by decide +kernel
theorem dX0_firstWrong_31 : decode cX0_firstWrong 31 = .ok (.getfield 11, 3) := by decide +kernel
theorem dX0_firstWrong_34 : decode cX0_firstWrong 34 = .ok (.iload_n 3, 1) := by decide +kernel
theorem dX0_firstWrong_35 : decode cX0_firstWrong 35 = .ok (.iaload, 1) := by decide +kernel
theorem dX0_firstWrong_36 : decode cX0_firstWrong 36 = .ok (.iload_n 1, 1) := by decide +kernel
theorem dX0_firstWrong_37 : decode cX0_firstWrong 37 = .ok (.iload_n 2, 1) := by decide +kernel
theorem dX0_firstWrong_38 : decode cX0_firstWrong 38 = .ok (.invokestatic 22, 3) := by decide +kernel
theorem dX0_firstWrong_41 : decode cX0_firstWrong 41 = .ok (.putfield 19, 3) := by decide +kernel
theorem dX0_firstWrong_44 : decode cX0_firstWrong 44 = .ok (.aload_n 0, 1) := by decide +kernel
theorem dX0_firstWrong_45 : decode cX0_firstWrong 45 = .ok (.getfield 19, 3) := by decide +kernel
theorem dX0_firstWrong_48 : decode cX0_firstWrong 48 = .ok (.iconst (-1), 1) := by decide +kernel
theorem dX0_firstWrong_49 : decode cX0_firstWrong 49 = .ok (.if_icmp .ne 5, 3) := by decide +kernel
theorem dX0_firstWrong_52 : decode cX0_firstWrong 52 = .ok (.iload_n 3, 1) := by decide +kernel
theorem dX0_firstWrong_53 : decode cX0_firstWrong 53 = .ok (.ireturn, 1) := by decide +kernel
theorem dX0_firstWrong_54 : decode cX0_firstWrong 54 = .ok (.aload_n 0, 1) := by decide +kernel
theorem dX0_firstWrong_55 : decode cX0_firstWrong 55 = .ok (.getfield 19, 3) := by decide +kernel
theorem dX0_firstWrong_58 : decode cX0_firstWrong 58 = .ok (.bipush 7, 2) := by decide +kernel
theorem dX0_firstWrong_60 : decode cX0_firstWrong 60 = .ok (.if_icmp .ne 6, 3) := by decide +kernel
theorem dX0_firstWrong_63 : decode cX0_firstWrong 63 = .ok (.iinc 2 1, 3) := by decide +kernel
theorem dX0_firstWrong_66 : decode cX0_firstWrong 66 = .ok (.aload_n 0, 1) := by decide +kernel
theorem dX0_firstWrong_67 : decode cX0_firstWrong 67 = .ok (.getfield 11, 3) := by decide +kernel
theorem dX0_firstWrong_70 : decode cX0_firstWrong 70 = .ok (.iload_n 3, 1) := by decide +kernel
theorem dX0_firstWrong_71 : decode cX0_firstWrong 71 = .ok (.iaload, 1) := by decide +kernel
theorem dX0_firstWrong_72 : decode cX0_firstWrong 72 = .ok (.istore_n 1, 1) := by decide +kernel
theorem dX0_firstWrong_73 : decode cX0_firstWrong 73 = .ok (.iinc 3 1, 3) := by decide +kernel
theorem dX0_firstWrong_76 : decode cX0_firstWrong 76 = .ok (.goto (-65), 3) := by decide +kernel
theorem dX0_firstWrong_79 : decode cX0_firstWrong 79 = .ok (.aload_n 0, 1) := by decide +kernel
theorem dX0_firstWrong_80 : decode cX0_firstWrong 80 = .ok (.getfield 15, 3) := by decide +kernel
theorem dX0_firstWrong_83 : decode cX0_firstWrong 83 = .ok (.ireturn, 1) := by decide +kernel
theorem dX0_isWhole_0 : decode cX0_isWhole 0 = .ok (.aload_n 0, 1) := by decide +kernel
theorem dX0_isWhole_1 : decode cX0_isWhole 1 = .ok (.invokevirtual 26, 3) := by decide +kernel
theorem dX0_isWhole_4 : decode cX0_isWhole 4 = .ok (.aload_n 0, 1) := by decide +kernel
theorem dX0_isWhole_5 : decode cX0_isWhole 5 = .ok (.getfield 15, 3) := by decide +kernel
theorem dX0_isWhole_8 : decode cX0_isWhole 8 = .ok (.if_icmp .ne 16, 3) := by decide +kernel
theorem dX0_isWhole_11 : decode cX0_isWhole 11 = .ok (.aload_n 0, 1) := by decide +kernel
theorem dX0_isWhole_12 : decode cX0_isWhole 12 = .ok (.getfield 19, 3) := by decide +kernel
theorem dX0_isWhole_15 : decode cX0_isWhole 15 = .ok (.bipush 7, 2) := by decide +kernel
theorem dX0_isWhole_17 : decode cX0_isWhole 17 = .ok (.if_icmp .ne 7, 3) := by decide +kernel
theorem dX0_isWhole_20 : decode cX0_isWhole 20 = .ok (.iconst 1, 1) := by decide +kernel
theorem dX0_isWhole_21 : decode cX0_isWhole 21 = .ok (.goto 4, 3) := by decide +kernel
theorem dX0_isWhole_24 : decode cX0_isWhole 24 = .ok (.iconst 0, 1) := by decide +kernel
theorem dX0_isWhole_25 : decode cX0_isWhole 25 = .ok (.ireturn, 1) := by decide +kernel
theorem dX0_layRoads_0 : decode cX0_layRoads 0 = .ok (.aload_n 1, 1) := by decide +kernel
theorem dX0_layRoads_1 : decode cX0_layRoads 1 = .ok (.aload_n 0, 1) := by decide +kernel
theorem dX0_layRoads_2 : decode cX0_layRoads 2 = .ok (.getfield 11, 3) := by decide +kernel
theorem dX0_layRoads_5 : decode cX0_layRoads 5 = .ok (.iconst 0, 1) := by decide +kernel
theorem dX0_layRoads_6 : decode cX0_layRoads 6 = .ok (.iaload, 1) := by decide +kernel
theorem dX0_layRoads_7 : decode cX0_layRoads 7 = .ok (.bipush 48, 2) := by decide +kernel
theorem dX0_layRoads_9 : decode cX0_layRoads 9 = .ok (.isub, 1) := by decide +kernel
theorem dX0_layRoads_10 : decode cX0_layRoads 10 = .ok (.bipush 10, 2) := by decide +kernel
theorem dX0_layRoads_12 : decode cX0_layRoads 12 = .ok (.imul, 1) := by decide +kernel
theorem dX0_layRoads_13 : decode cX0_layRoads 13 = .ok (.aload_n 0, 1) := by decide +kernel
theorem dX0_layRoads_14 : decode cX0_layRoads 14 = .ok (.getfield 11, 3) := by decide +kernel
theorem dX0_layRoads_17 : decode cX0_layRoads 17 = .ok (.iconst 1, 1) := by decide +kernel
theorem dX0_layRoads_18 : decode cX0_layRoads 18 = .ok (.iaload, 1) := by decide +kernel
theorem dX0_layRoads_19 : decode cX0_layRoads 19 = .ok (.iadd, 1) := by decide +kernel
theorem dX0_layRoads_20 : decode cX0_layRoads 20 = .ok (.bipush 48, 2) := by decide +kernel
theorem dX0_layRoads_22 : decode cX0_layRoads 22 = .ok (.isub, 1) := by decide +kernel
theorem dX0_layRoads_23 : decode cX0_layRoads 23 = .ok (.putfield 30, 3) := by decide +kernel
theorem dX0_layRoads_26 : decode cX0_layRoads 26 = .ok (.iconst 3, 1) := by decide +kernel
theorem dX0_layRoads_27 : decode cX0_layRoads 27 = .ok (.istore_n 2, 1) := by decide +kernel
theorem dX0_layRoads_28 : decode cX0_layRoads 28 = .ok (.iconst 0, 1) := by decide +kernel
theorem dX0_layRoads_29 : decode cX0_layRoads 29 = .ok (.istore_n 3, 1) := by decide +kernel
theorem dX0_layRoads_30 : decode cX0_layRoads 30 = .ok (.iload_n 3, 1) := by decide +kernel
theorem dX0_layRoads_31 : decode cX0_layRoads 31 = .ok (.bipush 8, 2) := by decide +kernel
theorem dX0_layRoads_33 : decode cX0_layRoads 33 = .ok (.if_icmp .ge 101, 3) := by decide +kernel
theorem dX0_layRoads_36 : decode cX0_layRoads 36 = .ok (.iload_n 2, 1) := by decide +kernel
theorem dX0_layRoads_37 : decode cX0_layRoads 37 = .ok (.aload_n 0, 1) := by decide +kernel
theorem dX0_layRoads_38 : decode cX0_layRoads 38 = .ok (.getfield 15, 3) := by decide +kernel
theorem dX0_layRoads_41 : decode cX0_layRoads 41 = .ok (.if_icmp .ge 93, 3) := by decide +kernel
theorem dX0_layRoads_44 : decode cX0_layRoads 44 = .ok (.aload_n 0, 1) := by decide +kernel
theorem dX0_layRoads_45 : decode cX0_layRoads 45 = .ok (.getfield 11, 3) := by decide +kernel
theorem dX0_layRoads_48 : decode cX0_layRoads 48 = .ok (.iload_n 2, 1) := by decide +kernel
theorem dX0_layRoads_49 : decode cX0_layRoads 49 = .ok (.iaload, 1) := by decide +kernel
theorem dX0_layRoads_50 : decode cX0_layRoads 50 = .ok (.invokestatic 35, 3) := by decide +kernel
theorem dX0_layRoads_53 : decode cX0_layRoads 53 = .ok (.istore 4, 2) := by decide +kernel
theorem dX0_layRoads_55 : decode cX0_layRoads 55 = .ok (.iload 4, 2) := by decide +kernel
theorem dX0_layRoads_57 : decode cX0_layRoads 57 = .ok (.ifCond .ne 7, 3) := by decide +kernel
theorem dX0_layRoads_60 : decode cX0_layRoads 60 = .ok (.iload_n 2, 1) := by decide +kernel
theorem dX0_layRoads_61 : decode cX0_layRoads 61 = .ok (.goto 6, 3) := by decide +kernel
theorem dX0_layRoads_64 : decode cX0_layRoads 64 = .ok (.iload_n 2, 1) := by decide +kernel
theorem dX0_layRoads_65 : decode cX0_layRoads 65 = .ok (.iconst 1, 1) := by decide +kernel
theorem dX0_layRoads_66 : decode cX0_layRoads 66 = .ok (.iadd, 1) := by decide +kernel
theorem dX0_layRoads_67 : decode cX0_layRoads 67 = .ok (.istore 5, 2) := by decide +kernel
theorem dX0_layRoads_69 : decode cX0_layRoads 69 = .ok (.iload 5, 2) := by decide +kernel
theorem dX0_layRoads_71 : decode cX0_layRoads 71 = .ok (.iconst 2, 1) := by decide +kernel
theorem dX0_layRoads_72 : decode cX0_layRoads 72 = .ok (.iadd, 1) := by decide +kernel
theorem dX0_layRoads_73 : decode cX0_layRoads 73 = .ok (.bipush 44, 2) := by decide +kernel
theorem dX0_layRoads_75 : decode cX0_layRoads 75 = .ok (.if_icmp .ge 48, 3) := by decide +kernel
theorem dX0_layRoads_78 : decode cX0_layRoads 78 = .ok (.aload_n 1, 1) := by decide +kernel
theorem dX0_layRoads_79 : decode cX0_layRoads 79 = .ok (.getfield 39, 3) := by decide +kernel
theorem dX0_layRoads_82 : decode cX0_layRoads 82 = .ok (.iload_n 3, 1) := by decide +kernel
theorem dX0_layRoads_83 : decode cX0_layRoads 83 = .ok (.aaload, 1) := by decide +kernel
theorem dX0_layRoads_84 : decode cX0_layRoads 84 = .ok (.iload 4, 2) := by decide +kernel
theorem dX0_layRoads_86 : decode cX0_layRoads 86 = .ok (.aload_n 0, 1) := by decide +kernel
theorem dX0_layRoads_87 : decode cX0_layRoads 87 = .ok (.getfield 11, 3) := by decide +kernel
theorem dX0_layRoads_90 : decode cX0_layRoads 90 = .ok (.iload 5, 2) := by decide +kernel
theorem dX0_layRoads_92 : decode cX0_layRoads 92 = .ok (.iaload, 1) := by decide +kernel
theorem dX0_layRoads_93 : decode cX0_layRoads 93 = .ok (.bipush 48, 2) := by decide +kernel
theorem dX0_layRoads_95 : decode cX0_layRoads 95 = .ok (.isub, 1) := by decide +kernel
theorem dX0_layRoads_96 : decode cX0_layRoads 96 = .ok (.aload_n 0, 1) := by decide +kernel
theorem dX0_layRoads_97 : decode cX0_layRoads 97 = .ok (.getfield 11, 3) := by decide +kernel
theorem dX0_layRoads_100 : decode cX0_layRoads 100 = .ok (.iload 5, 2) := by decide +kernel
theorem dX0_layRoads_102 : decode cX0_layRoads 102 = .ok (.iconst 1, 1) := by decide +kernel
theorem dX0_layRoads_103 : decode cX0_layRoads 103 = .ok (.iadd, 1) := by decide +kernel
theorem dX0_layRoads_104 : decode cX0_layRoads 104 = .ok (.iaload, 1) := by decide +kernel
theorem dX0_layRoads_105 : decode cX0_layRoads 105 = .ok (.bipush 48, 2) := by decide +kernel
theorem dX0_layRoads_107 : decode cX0_layRoads 107 = .ok (.isub, 1) := by decide +kernel
theorem dX0_layRoads_108 : decode cX0_layRoads 108 = .ok (.aload_n 0, 1) := by decide +kernel
theorem dX0_layRoads_109 : decode cX0_layRoads 109 = .ok (.getfield 11, 3) := by decide +kernel
theorem dX0_layRoads_112 : decode cX0_layRoads 112 = .ok (.iload 5, 2) := by decide +kernel
theorem dX0_layRoads_114 : decode cX0_layRoads 114 = .ok (.iconst 2, 1) := by decide +kernel
theorem dX0_layRoads_115 : decode cX0_layRoads 115 = .ok (.iadd, 1) := by decide +kernel
theorem dX0_layRoads_116 : decode cX0_layRoads 116 = .ok (.iaload, 1) := by decide +kernel
theorem dX0_layRoads_117 : decode cX0_layRoads 117 = .ok (.bipush 48, 2) := by decide +kernel
theorem dX0_layRoads_119 : decode cX0_layRoads 119 = .ok (.isub, 1) := by decide +kernel
theorem dX0_layRoads_120 : decode cX0_layRoads 120 = .ok (.invokevirtual 43, 3) := by decide +kernel
theorem dX0_layRoads_123 : decode cX0_layRoads 123 = .ok (.iinc 3 1, 3) := by decide +kernel
theorem dX0_layRoads_126 : decode cX0_layRoads 126 = .ok (.iload 5, 2) := by decide +kernel
theorem dX0_layRoads_128 : decode cX0_layRoads 128 = .ok (.iconst 4, 1) := by decide +kernel
theorem dX0_layRoads_129 : decode cX0_layRoads 129 = .ok (.iadd, 1) := by decide +kernel
theorem dX0_layRoads_130 : decode cX0_layRoads 130 = .ok (.istore_n 2, 1) := by decide +kernel
theorem dX0_layRoads_131 : decode cX0_layRoads 131 = .ok (.goto (-101), 3) := by decide +kernel
theorem dX0_layRoads_134 : decode cX0_layRoads 134 = .ok (.aload_n 1, 1) := by decide +kernel
theorem dX0_layRoads_135 : decode cX0_layRoads 135 = .ok (.iload_n 3, 1) := by decide +kernel
theorem dX0_layRoads_136 : decode cX0_layRoads 136 = .ok (.putfield 49, 3) := by decide +kernel
theorem dX0_layRoads_139 : decode cX0_layRoads 139 = .ok (.return_, 1) := by decide +kernel
theorem dX0_slotBehind_0 : decode cX0_slotBehind 0 = .ok (.iload_n 0, 1) := by decide +kernel
theorem dX0_slotBehind_1 : decode cX0_slotBehind 1 = .ok (.tableswitch 162 0 6 #[43, 59, 73, 85, 109, 124, 145], 43) := by decide +kernel
theorem dX0_slotBehind_44 : decode cX0_slotBehind 44 = .ok (.iload_n 1, 1) := by decide +kernel
theorem dX0_slotBehind_45 : decode cX0_slotBehind 45 = .ok (.iconst 0, 1) := by decide +kernel
theorem dX0_slotBehind_46 : decode cX0_slotBehind 46 = .ok (.bipush 6, 2) := by decide +kernel
theorem dX0_slotBehind_48 : decode cX0_slotBehind 48 = .ok (.invokestatic 52, 3) := by decide +kernel
theorem dX0_slotBehind_51 : decode cX0_slotBehind 51 = .ok (.ifCond .eq 7, 3) := by decide +kernel
theorem dX0_slotBehind_54 : decode cX0_slotBehind 54 = .ok (.iconst 1, 1) := by decide +kernel
theorem dX0_slotBehind_55 : decode cX0_slotBehind 55 = .ok (.goto 4, 3) := by decide +kernel
theorem dX0_slotBehind_58 : decode cX0_slotBehind 58 = .ok (.iconst (-1), 1) := by decide +kernel
theorem dX0_slotBehind_59 : decode cX0_slotBehind 59 = .ok (.ireturn, 1) := by decide +kernel
theorem dX0_slotBehind_60 : decode cX0_slotBehind 60 = .ok (.iload_n 2, 1) := by decide +kernel
theorem dX0_slotBehind_61 : decode cX0_slotBehind 61 = .ok (.iload_n 1, 1) := by decide +kernel
theorem dX0_slotBehind_62 : decode cX0_slotBehind 62 = .ok (.invokestatic 56, 3) := by decide +kernel
theorem dX0_slotBehind_65 : decode cX0_slotBehind 65 = .ok (.ifCond .eq 7, 3) := by decide +kernel
theorem dX0_slotBehind_68 : decode cX0_slotBehind 68 = .ok (.iconst 2, 1) := by decide +kernel
theorem dX0_slotBehind_69 : decode cX0_slotBehind 69 = .ok (.goto 4, 3) := by decide +kernel
theorem dX0_slotBehind_72 : decode cX0_slotBehind 72 = .ok (.iconst (-1), 1) := by decide +kernel
theorem dX0_slotBehind_73 : decode cX0_slotBehind 73 = .ok (.ireturn, 1) := by decide +kernel
theorem dX0_slotBehind_74 : decode cX0_slotBehind 74 = .ok (.iload_n 1, 1) := by decide +kernel
theorem dX0_slotBehind_75 : decode cX0_slotBehind 75 = .ok (.bipush 58, 2) := by decide +kernel
theorem dX0_slotBehind_77 : decode cX0_slotBehind 77 = .ok (.if_icmp .ne 7, 3) := by decide +kernel
theorem dX0_slotBehind_80 : decode cX0_slotBehind 80 = .ok (.iconst 3, 1) := by decide +kernel
theorem dX0_slotBehind_81 : decode cX0_slotBehind 81 = .ok (.goto 4, 3) := by decide +kernel
theorem dX0_slotBehind_84 : decode cX0_slotBehind 84 = .ok (.iconst (-1), 1) := by decide +kernel
theorem dX0_slotBehind_85 : decode cX0_slotBehind 85 = .ok (.ireturn, 1) := by decide +kernel
theorem dX0_slotBehind_86 : decode cX0_slotBehind 86 = .ok (.iload_n 1, 1) := by decide +kernel
theorem dX0_slotBehind_87 : decode cX0_slotBehind 87 = .ok (.invokestatic 35, 3) := by decide +kernel
theorem dX0_slotBehind_90 : decode cX0_slotBehind 90 = .ok (.ifCond .eq 5, 3) := by decide +kernel
theorem dX0_slotBehind_93 : decode cX0_slotBehind 93 = .ok (.iconst 4, 1) := by decide +kernel
theorem dX0_slotBehind_94 : decode cX0_slotBehind 94 = .ok (.ireturn, 1) := by decide +kernel
theorem dX0_slotBehind_95 : decode cX0_slotBehind 95 = .ok (.iload_n 1, 1) := by decide +kernel
theorem dX0_slotBehind_96 : decode cX0_slotBehind 96 = .ok (.iconst 0, 1) := by decide +kernel
theorem dX0_slotBehind_97 : decode cX0_slotBehind 97 = .ok (.iconst 5, 1) := by decide +kernel
theorem dX0_slotBehind_98 : decode cX0_slotBehind 98 = .ok (.invokestatic 52, 3) := by decide +kernel
theorem dX0_slotBehind_101 : decode cX0_slotBehind 101 = .ok (.ifCond .eq 7, 3) := by decide +kernel
theorem dX0_slotBehind_104 : decode cX0_slotBehind 104 = .ok (.iconst 5, 1) := by decide +kernel
theorem dX0_slotBehind_105 : decode cX0_slotBehind 105 = .ok (.goto 4, 3) := by decide +kernel
theorem dX0_slotBehind_108 : decode cX0_slotBehind 108 = .ok (.iconst (-1), 1) := by decide +kernel
theorem dX0_slotBehind_109 : decode cX0_slotBehind 109 = .ok (.ireturn, 1) := by decide +kernel
theorem dX0_slotBehind_110 : decode cX0_slotBehind 110 = .ok (.iload_n 1, 1) := by decide +kernel
theorem dX0_slotBehind_111 : decode cX0_slotBehind 111 = .ok (.iconst 0, 1) := by decide +kernel
theorem dX0_slotBehind_112 : decode cX0_slotBehind 112 = .ok (.iconst 5, 1) := by decide +kernel
theorem dX0_slotBehind_113 : decode cX0_slotBehind 113 = .ok (.invokestatic 52, 3) := by decide +kernel
theorem dX0_slotBehind_116 : decode cX0_slotBehind 116 = .ok (.ifCond .eq 7, 3) := by decide +kernel
theorem dX0_slotBehind_119 : decode cX0_slotBehind 119 = .ok (.iconst 5, 1) := by decide +kernel
theorem dX0_slotBehind_120 : decode cX0_slotBehind 120 = .ok (.goto 4, 3) := by decide +kernel
theorem dX0_slotBehind_123 : decode cX0_slotBehind 123 = .ok (.iconst (-1), 1) := by decide +kernel
theorem dX0_slotBehind_124 : decode cX0_slotBehind 124 = .ok (.ireturn, 1) := by decide +kernel
theorem dX0_slotBehind_125 : decode cX0_slotBehind 125 = .ok (.iload_n 1, 1) := by decide +kernel
theorem dX0_slotBehind_126 : decode cX0_slotBehind 126 = .ok (.iconst 0, 1) := by decide +kernel
theorem dX0_slotBehind_127 : decode cX0_slotBehind 127 = .ok (.iconst 5, 1) := by decide +kernel
theorem dX0_slotBehind_128 : decode cX0_slotBehind 128 = .ok (.invokestatic 52, 3) := by decide +kernel
theorem dX0_slotBehind_131 : decode cX0_slotBehind 131 = .ok (.ifCond .eq 13, 3) := by decide +kernel
theorem dX0_slotBehind_134 : decode cX0_slotBehind 134 = .ok (.iload_n 1, 1) := by decide +kernel
theorem dX0_slotBehind_135 : decode cX0_slotBehind 135 = .ok (.iload_n 2, 1) := by decide +kernel
theorem dX0_slotBehind_136 : decode cX0_slotBehind 136 = .ok (.if_icmp .eq 8, 3) := by decide +kernel
theorem dX0_slotBehind_139 : decode cX0_slotBehind 139 = .ok (.bipush 6, 2) := by decide +kernel
theorem dX0_slotBehind_141 : decode cX0_slotBehind 141 = .ok (.goto 4, 3) := by decide +kernel
theorem dX0_slotBehind_144 : decode cX0_slotBehind 144 = .ok (.iconst (-1), 1) := by decide +kernel
theorem dX0_slotBehind_145 : decode cX0_slotBehind 145 = .ok (.ireturn, 1) := by decide +kernel
theorem dX0_slotBehind_146 : decode cX0_slotBehind 146 = .ok (.iload_n 1, 1) := by decide +kernel
theorem dX0_slotBehind_147 : decode cX0_slotBehind 147 = .ok (.iconst 1, 1) := by decide +kernel
theorem dX0_slotBehind_148 : decode cX0_slotBehind 148 = .ok (.bipush 9, 2) := by decide +kernel
theorem dX0_slotBehind_150 : decode cX0_slotBehind 150 = .ok (.invokestatic 52, 3) := by decide +kernel
theorem dX0_slotBehind_153 : decode cX0_slotBehind 153 = .ok (.ifCond .eq 8, 3) := by decide +kernel
theorem dX0_slotBehind_156 : decode cX0_slotBehind 156 = .ok (.bipush 7, 2) := by decide +kernel
theorem dX0_slotBehind_158 : decode cX0_slotBehind 158 = .ok (.goto 4, 3) := by decide +kernel
theorem dX0_slotBehind_161 : decode cX0_slotBehind 161 = .ok (.iconst (-1), 1) := by decide +kernel
theorem dX0_slotBehind_162 : decode cX0_slotBehind 162 = .ok (.ireturn, 1) := by decide +kernel
theorem dX0_slotBehind_163 : decode cX0_slotBehind 163 = .ok (.iload_n 1, 1) := by decide +kernel
theorem dX0_slotBehind_164 : decode cX0_slotBehind 164 = .ok (.bipush 44, 2) := by decide +kernel
theorem dX0_slotBehind_166 : decode cX0_slotBehind 166 = .ok (.if_icmp .ne 13, 3) := by decide +kernel
theorem dX0_slotBehind_169 : decode cX0_slotBehind 169 = .ok (.iload_n 3, 1) := by decide +kernel
theorem dX0_slotBehind_170 : decode cX0_slotBehind 170 = .ok (.bipush 8, 2) := by decide +kernel
theorem dX0_slotBehind_172 : decode cX0_slotBehind 172 = .ok (.if_icmp .ge 7, 3) := by decide +kernel
theorem dX0_slotBehind_175 : decode cX0_slotBehind 175 = .ok (.iconst 3, 1) := by decide +kernel
theorem dX0_slotBehind_176 : decode cX0_slotBehind 176 = .ok (.goto 4, 3) := by decide +kernel
theorem dX0_slotBehind_179 : decode cX0_slotBehind 179 = .ok (.iconst (-1), 1) := by decide +kernel
theorem dX0_slotBehind_180 : decode cX0_slotBehind 180 = .ok (.ireturn, 1) := by decide +kernel
theorem dX0_isOnes_0 : decode cX0_isOnes 0 = .ok (.iload_n 0, 1) := by decide +kernel
theorem dX0_isOnes_1 : decode cX0_isOnes 1 = .ok (.bipush 48, 2) := by decide +kernel
theorem dX0_isOnes_3 : decode cX0_isOnes 3 = .ok (.if_icmp .ne 11, 3) := by decide +kernel
theorem dX0_isOnes_6 : decode cX0_isOnes 6 = .ok (.iload_n 1, 1) := by decide +kernel
theorem dX0_isOnes_7 : decode cX0_isOnes 7 = .ok (.iconst 1, 1) := by decide +kernel
theorem dX0_isOnes_8 : decode cX0_isOnes 8 = .ok (.bipush 9, 2) := by decide +kernel
theorem dX0_isOnes_10 : decode cX0_isOnes 10 = .ok (.invokestatic 52, 3) := by decide +kernel
theorem dX0_isOnes_13 : decode cX0_isOnes 13 = .ok (.ireturn, 1) := by decide +kernel
theorem dX0_isOnes_14 : decode cX0_isOnes 14 = .ok (.iload_n 1, 1) := by decide +kernel
theorem dX0_isOnes_15 : decode cX0_isOnes 15 = .ok (.iconst 0, 1) := by decide +kernel
theorem dX0_isOnes_16 : decode cX0_isOnes 16 = .ok (.iload_n 0, 1) := by decide +kernel
theorem dX0_isOnes_17 : decode cX0_isOnes 17 = .ok (.bipush 54, 2) := by decide +kernel
theorem dX0_isOnes_19 : decode cX0_isOnes 19 = .ok (.if_icmp .ne 7, 3) := by decide +kernel
theorem dX0_isOnes_22 : decode cX0_isOnes 22 = .ok (.iconst 0, 1) := by decide +kernel
theorem dX0_isOnes_23 : decode cX0_isOnes 23 = .ok (.goto 5, 3) := by decide +kernel
theorem dX0_isOnes_26 : decode cX0_isOnes 26 = .ok (.bipush 9, 2) := by decide +kernel
theorem dX0_isOnes_28 : decode cX0_isOnes 28 = .ok (.invokestatic 52, 3) := by decide +kernel
theorem dX0_isOnes_31 : decode cX0_isOnes 31 = .ok (.ireturn, 1) := by decide +kernel
theorem dX0_isDigit_0 : decode cX0_isDigit 0 = .ok (.iload_n 0, 1) := by decide +kernel
theorem dX0_isDigit_1 : decode cX0_isDigit 1 = .ok (.bipush 48, 2) := by decide +kernel
theorem dX0_isDigit_3 : decode cX0_isDigit 3 = .ok (.iload_n 1, 1) := by decide +kernel
theorem dX0_isDigit_4 : decode cX0_isDigit 4 = .ok (.iadd, 1) := by decide +kernel
theorem dX0_isDigit_5 : decode cX0_isDigit 5 = .ok (.if_icmp .lt 15, 3) := by decide +kernel
theorem dX0_isDigit_8 : decode cX0_isDigit 8 = .ok (.iload_n 0, 1) := by decide +kernel
theorem dX0_isDigit_9 : decode cX0_isDigit 9 = .ok (.bipush 48, 2) := by decide +kernel
theorem dX0_isDigit_11 : decode cX0_isDigit 11 = .ok (.iload_n 2, 1) := by decide +kernel
theorem dX0_isDigit_12 : decode cX0_isDigit 12 = .ok (.iadd, 1) := by decide +kernel
theorem dX0_isDigit_13 : decode cX0_isDigit 13 = .ok (.if_icmp .gt 7, 3) := by decide +kernel
theorem dX0_isDigit_16 : decode cX0_isDigit 16 = .ok (.iconst 1, 1) := by decide +kernel
theorem dX0_isDigit_17 : decode cX0_isDigit 17 = .ok (.goto 4, 3) := by decide +kernel
theorem dX0_isDigit_20 : decode cX0_isDigit 20 = .ok (.iconst 0, 1) := by decide +kernel
theorem dX0_isDigit_21 : decode cX0_isDigit 21 = .ok (.ireturn, 1) := by decide +kernel
theorem dX0_kindOf_0 : decode cX0_kindOf 0 = .ok (.iload_n 0, 1) := by decide +kernel
theorem dX0_kindOf_1 : decode cX0_kindOf 1 = .ok (.tableswitch 47 98 103 #[41, 47, 43, 47, 39, 45], 39) := by decide +kernel
theorem dX0_kindOf_40 : decode cX0_kindOf 40 = .ok (.iconst 1, 1) := by decide +kernel
theorem dX0_kindOf_41 : decode cX0_kindOf 41 = .ok (.ireturn, 1) := by decide +kernel
theorem dX0_kindOf_42 : decode cX0_kindOf 42 = .ok (.iconst 2, 1) := by decide +kernel
theorem dX0_kindOf_43 : decode cX0_kindOf 43 = .ok (.ireturn, 1) := by decide +kernel
theorem dX0_kindOf_44 : decode cX0_kindOf 44 = .ok (.iconst 3, 1) := by decide +kernel
theorem dX0_kindOf_45 : decode cX0_kindOf 45 = .ok (.ireturn, 1) := by decide +kernel
theorem dX0_kindOf_46 : decode cX0_kindOf 46 = .ok (.iconst 4, 1) := by decide +kernel
theorem dX0_kindOf_47 : decode cX0_kindOf 47 = .ok (.ireturn, 1) := by decide +kernel
theorem dX0_kindOf_48 : decode cX0_kindOf 48 = .ok (.iconst 0, 1) := by decide +kernel
theorem dX0_kindOf_49 : decode cX0_kindOf 49 = .ok (.ireturn, 1) := by decide +kernel
theorem dX1_init_0 : decode cX1_init 0 = .ok (.aload_n 0, 1) := by decide +kernel
theorem dX1_init_1 : decode cX1_init 1 = .ok (.invokespecial 3, 3) := by decide +kernel
theorem dX1_init_4 : decode cX1_init 4 = .ok (.aload_n 0, 1) := by decide +kernel
theorem dX1_init_5 : decode cX1_init 5 = .ok (.iconst 0, 1) := by decide +kernel
theorem dX1_init_6 : decode cX1_init 6 = .ok (.putfield 9, 3) := by decide +kernel
theorem dX1_init_9 : decode cX1_init 9 = .ok (.aload_n 0, 1) := by decide +kernel
theorem dX1_init_10 : decode cX1_init 10 = .ok (.iconst 0, 1) := by decide +kernel
theorem dX1_init_11 : decode cX1_init 11 = .ok (.putfield 15, 3) := by decide +kernel
theorem dX1_init_14 : decode cX1_init 14 = .ok (.aload_n 0, 1) := by decide +kernel
theorem dX1_init_15 : decode cX1_init 15 = .ok (.iconst 0, 1) := by decide +kernel
theorem dX1_init_16 : decode cX1_init 16 = .ok (.putfield 18, 3) := by decide +kernel
theorem dX1_init_19 : decode cX1_init 19 = .ok (.aload_n 0, 1) := by decide +kernel
theorem dX1_init_20 : decode cX1_init 20 = .ok (.iconst 0, 1) := by decide +kernel
theorem dX1_init_21 : decode cX1_init 21 = .ok (.putfield 21, 3) := by decide +kernel
theorem dX1_init_24 : decode cX1_init 24 = .ok (.aload_n 0, 1) := by decide +kernel
theorem dX1_init_25 : decode cX1_init 25 = .ok (.iconst 0, 1) := by decide +kernel
theorem dX1_init_26 : decode cX1_init 26 = .ok (.putfield 24, 3) := by decide +kernel
theorem dX1_init_29 : decode cX1_init 29 = .ok (.aload_n 0, 1) := by decide +kernel
theorem dX1_init_30 : decode cX1_init 30 = .ok (.bipush 8, 2) := by decide +kernel
theorem dX1_init_32 : decode cX1_init 32 = .ok (.newarray .int, 2) := by decide +kernel
theorem dX1_init_34 : decode cX1_init 34 = .ok (.putfield 28, 3) := by decide +kernel
theorem dX1_init_37 : decode cX1_init 37 = .ok (.return_, 1) := by decide +kernel
theorem dX1_startAnew_0 : decode cX1_startAnew 0 = .ok (.aload_n 0, 1) := by decide +kernel
theorem dX1_startAnew_1 : decode cX1_startAnew 1 = .ok (.iconst 0, 1) := by decide +kernel
theorem dX1_startAnew_2 : decode cX1_startAnew 2 = .ok (.putfield 9, 3) := by decide +kernel
theorem dX1_startAnew_5 : decode cX1_startAnew 5 = .ok (.aload_n 0, 1) := by decide +kernel
theorem dX1_startAnew_6 : decode cX1_startAnew 6 = .ok (.iconst 0, 1) := by decide +kernel
theorem dX1_startAnew_7 : decode cX1_startAnew 7 = .ok (.putfield 15, 3) := by decide +kernel
theorem dX1_startAnew_10 : decode cX1_startAnew 10 = .ok (.aload_n 0, 1) := by decide +kernel
theorem dX1_startAnew_11 : decode cX1_startAnew 11 = .ok (.iconst 0, 1) := by decide +kernel
theorem dX1_startAnew_12 : decode cX1_startAnew 12 = .ok (.putfield 18, 3) := by decide +kernel
theorem dX1_startAnew_15 : decode cX1_startAnew 15 = .ok (.aload_n 0, 1) := by decide +kernel
theorem dX1_startAnew_16 : decode cX1_startAnew 16 = .ok (.iconst 0, 1) := by decide +kernel
theorem dX1_startAnew_17 : decode cX1_startAnew 17 = .ok (.putfield 21, 3) := by decide +kernel
theorem dX1_startAnew_20 : decode cX1_startAnew 20 = .ok (.aload_n 0, 1) := by decide +kernel
theorem dX1_startAnew_21 : decode cX1_startAnew 21 = .ok (.iconst 0, 1) := by decide +kernel
theorem dX1_startAnew_22 : decode cX1_startAnew 22 = .ok (.putfield 24, 3) := by decide +kernel
theorem dX1_startAnew_25 : decode cX1_startAnew 25 = .ok (.iconst 0, 1) := by decide +kernel
theorem dX1_startAnew_26 : decode cX1_startAnew 26 = .ok (.istore_n 1, 1) := by decide +kernel
theorem dX1_startAnew_27 : decode cX1_startAnew 27 = .ok (.iload_n 1, 1) := by decide +kernel
theorem dX1_startAnew_28 : decode cX1_startAnew 28 = .ok (.bipush 8, 2) := by decide +kernel
theorem dX1_startAnew_30 : decode cX1_startAnew 30 = .ok (.if_icmp .ge 16, 3) := by decide +kernel
theorem dX1_startAnew_33 : decode cX1_startAnew 33 = .ok (.aload_n 0, 1) := by decide +kernel
theorem dX1_startAnew_34 : decode cX1_startAnew 34 = .ok (.getfield 28, 3) := by decide +kernel
theorem dX1_startAnew_37 : decode cX1_startAnew 37 = .ok (.iload_n 1, 1) := by decide +kernel
theorem dX1_startAnew_38 : decode cX1_startAnew 38 = .ok (.iconst 0, 1) := by decide +kernel
theorem dX1_startAnew_39 : decode cX1_startAnew 39 = .ok (.iastore, 1) := by decide +kernel
theorem dX1_startAnew_40 : decode cX1_startAnew 40 = .ok (.iinc 1 1, 3) := by decide +kernel
theorem dX1_startAnew_43 : decode cX1_startAnew 43 = .ok (.goto (-16), 3) := by decide +kernel
theorem dX1_startAnew_46 : decode cX1_startAnew 46 = .ok (.return_, 1) := by decide +kernel
theorem dX1_become_0 : decode cX1_become 0 = .ok (.aload_n 0, 1) := by decide +kernel
theorem dX1_become_1 : decode cX1_become 1 = .ok (.aload_n 1, 1) := by decide +kernel
theorem dX1_become_2 : decode cX1_become 2 = .ok (.getfield 9, 3) := by decide +kernel
theorem dX1_become_5 : decode cX1_become 5 = .ok (.putfield 9, 3) := by decide +kernel
theorem dX1_become_8 : decode cX1_become 8 = .ok (.aload_n 0, 1) := by decide +kernel
theorem dX1_become_9 : decode cX1_become 9 = .ok (.aload_n 1, 1) := by decide +kernel
theorem dX1_become_10 : decode cX1_become 10 = .ok (.getfield 15, 3) := by decide +kernel
theorem dX1_become_13 : decode cX1_become 13 = .ok (.putfield 15, 3) := by decide +kernel
theorem dX1_become_16 : decode cX1_become 16 = .ok (.aload_n 0, 1) := by decide +kernel
theorem dX1_become_17 : decode cX1_become 17 = .ok (.aload_n 1, 1) := by decide +kernel
theorem dX1_become_18 : decode cX1_become 18 = .ok (.getfield 18, 3) := by decide +kernel
theorem dX1_become_21 : decode cX1_become 21 = .ok (.putfield 18, 3) := by decide +kernel
theorem dX1_become_24 : decode cX1_become 24 = .ok (.aload_n 0, 1) := by decide +kernel
theorem dX1_become_25 : decode cX1_become 25 = .ok (.aload_n 1, 1) := by decide +kernel
theorem dX1_become_26 : decode cX1_become 26 = .ok (.getfield 21, 3) := by decide +kernel
theorem dX1_become_29 : decode cX1_become 29 = .ok (.putfield 21, 3) := by decide +kernel
theorem dX1_become_32 : decode cX1_become 32 = .ok (.aload_n 0, 1) := by decide +kernel
theorem dX1_become_33 : decode cX1_become 33 = .ok (.aload_n 1, 1) := by decide +kernel
theorem dX1_become_34 : decode cX1_become 34 = .ok (.getfield 24, 3) := by decide +kernel
theorem dX1_become_37 : decode cX1_become 37 = .ok (.putfield 24, 3) := by decide +kernel
theorem dX1_become_40 : decode cX1_become 40 = .ok (.iconst 0, 1) := by decide +kernel
theorem dX1_become_41 : decode cX1_become 41 = .ok (.istore_n 2, 1) := by decide +kernel
theorem dX1_become_42 : decode cX1_become 42 = .ok (.iload_n 2, 1) := by decide +kernel
theorem dX1_become_43 : decode cX1_become 43 = .ok (.bipush 8, 2) := by decide +kernel
theorem dX1_become_45 : decode cX1_become 45 = .ok (.if_icmp .ge 21, 3) := by decide +kernel
theorem dX1_become_48 : decode cX1_become 48 = .ok (.aload_n 0, 1) := by decide +kernel
theorem dX1_become_49 : decode cX1_become 49 = .ok (.getfield 28, 3) := by decide +kernel
theorem dX1_become_52 : decode cX1_become 52 = .ok (.iload_n 2, 1) := by decide +kernel
theorem dX1_become_53 : decode cX1_become 53 = .ok (.aload_n 1, 1) := by decide +kernel
theorem dX1_become_54 : decode cX1_become 54 = .ok (.getfield 28, 3) := by decide +kernel
theorem dX1_become_57 : decode cX1_become 57 = .ok (.iload_n 2, 1) := by decide +kernel
theorem dX1_become_58 : decode cX1_become 58 = .ok (.iaload, 1) := by decide +kernel
theorem dX1_become_59 : decode cX1_become 59 = .ok (.iastore, 1) := by decide +kernel
theorem dX1_become_60 : decode cX1_become 60 = .ok (.iinc 2 1, 3) := by decide +kernel
theorem dX1_become_63 : decode cX1_become 63 = .ok (.goto (-21), 3) := by decide +kernel
theorem dX1_become_66 : decode cX1_become 66 = .ok (.return_, 1) := by decide +kernel
theorem dX1_may_0 : decode cX1_may 0 = .ok (.aload_n 0, 1) := by decide +kernel
theorem dX1_may_1 : decode cX1_may 1 = .ok (.getfield 24, 3) := by decide +kernel
theorem dX1_may_4 : decode cX1_may 4 = .ok (.ifCond .ne 29, 3) := by decide +kernel
theorem dX1_may_7 : decode cX1_may 7 = .ok (.aload_n 1, 1) := by decide +kernel
theorem dX1_may_8 : decode cX1_may 8 = .ok (.aload_n 0, 1) := by decide +kernel
theorem dX1_may_9 : decode cX1_may 9 = .ok (.getfield 9, 3) := by decide +kernel
theorem dX1_may_12 : decode cX1_may 12 = .ok (.invokevirtual 32, 3) := by decide +kernel
theorem dX1_may_15 : decode cX1_may 15 = .ok (.ifCond .eq 18, 3) := by decide +kernel
theorem dX1_may_18 : decode cX1_may 18 = .ok (.aload_n 0, 1) := by decide +kernel
theorem dX1_may_19 : decode cX1_may 19 = .ok (.getfield 15, 3) := by decide +kernel
theorem dX1_may_22 : decode cX1_may 22 = .ok (.iload_n 2, 1) := by decide +kernel
theorem dX1_may_23 : decode cX1_may 23 = .ok (.iadd, 1) := by decide +kernel
theorem dX1_may_24 : decode cX1_may 24 = .ok (.bipush 99, 2) := by decide +kernel
theorem dX1_may_26 : decode cX1_may 26 = .ok (.if_icmp .gt 7, 3) := by decide +kernel
theorem dX1_may_29 : decode cX1_may 29 = .ok (.iconst 1, 1) := by decide +kernel
theorem dX1_may_30 : decode cX1_may 30 = .ok (.goto 4, 3) := by decide +kernel
theorem dX1_may_33 : decode cX1_may 33 = .ok (.iconst 0, 1) := by decide +kernel
theorem dX1_may_34 : decode cX1_may 34 = .ok (.ireturn, 1) := by decide +kernel
theorem dX1_go_0 : decode cX1_go 0 = .ok (.aload_n 0, 1) := by decide +kernel
theorem dX1_go_1 : decode cX1_go 1 = .ok (.dup, 1) := by decide +kernel
theorem dX1_go_2 : decode cX1_go 2 = .ok (.getfield 15, 3) := by decide +kernel
theorem dX1_go_5 : decode cX1_go 5 = .ok (.iload_n 2, 1) := by decide +kernel
theorem dX1_go_6 : decode cX1_go 6 = .ok (.iadd, 1) := by decide +kernel
theorem dX1_go_7 : decode cX1_go 7 = .ok (.putfield 15, 3) := by decide +kernel
theorem dX1_go_10 : decode cX1_go 10 = .ok (.aload_n 0, 1) := by decide +kernel
theorem dX1_go_11 : decode cX1_go 11 = .ok (.aload_n 1, 1) := by decide +kernel
theorem dX1_go_12 : decode cX1_go 12 = .ok (.aload_n 0, 1) := by decide +kernel
theorem dX1_go_13 : decode cX1_go 13 = .ok (.getfield 9, 3) := by decide +kernel
theorem dX1_go_16 : decode cX1_go 16 = .ok (.invokevirtual 38, 3) := by decide +kernel
theorem dX1_go_19 : decode cX1_go 19 = .ok (.putfield 9, 3) := by decide +kernel
theorem dX1_go_22 : decode cX1_go 22 = .ok (.aload_n 0, 1) := by decide +kernel
theorem dX1_go_23 : decode cX1_go 23 = .ok (.dup, 1) := by decide +kernel
theorem dX1_go_24 : decode cX1_go 24 = .ok (.getfield 21, 3) := by decide +kernel
theorem dX1_go_27 : decode cX1_go 27 = .ok (.iconst 1, 1) := by decide +kernel
theorem dX1_go_28 : decode cX1_go 28 = .ok (.iadd, 1) := by decide +kernel
theorem dX1_go_29 : decode cX1_go 29 = .ok (.putfield 21, 3) := by decide +kernel
theorem dX1_go_32 : decode cX1_go 32 = .ok (.aload_n 0, 1) := by decide +kernel
theorem dX1_go_33 : decode cX1_go 33 = .ok (.aload_n 1, 1) := by decide +kernel
theorem dX1_go_34 : decode cX1_go 34 = .ok (.invokevirtual 42, 3) := by decide +kernel
theorem dX1_go_37 : decode cX1_go 37 = .ok (.ifCond .eq 26, 3) := by decide +kernel
theorem dX1_go_40 : decode cX1_go 40 = .ok (.aload_n 0, 1) := by decide +kernel
theorem dX1_go_41 : decode cX1_go 41 = .ok (.dup, 1) := by decide +kernel
theorem dX1_go_42 : decode cX1_go 42 = .ok (.getfield 18, 3) := by decide +kernel
theorem dX1_go_45 : decode cX1_go 45 = .ok (.iload_n 3, 1) := by decide +kernel
theorem dX1_go_46 : decode cX1_go 46 = .ok (.iadd, 1) := by decide +kernel
theorem dX1_go_47 : decode cX1_go 47 = .ok (.putfield 18, 3) := by decide +kernel
theorem dX1_go_50 : decode cX1_go 50 = .ok (.aload_n 0, 1) := by decide +kernel
theorem dX1_go_51 : decode cX1_go 51 = .ok (.getfield 28, 3) := by decide +kernel
theorem dX1_go_54 : decode cX1_go 54 = .ok (.aload_n 1, 1) := by decide +kernel
theorem dX1_go_55 : decode cX1_go 55 = .ok (.getfield 46, 3) := by decide +kernel
theorem dX1_go_58 : decode cX1_go 58 = .ok (.aload_n 1, 1) := by decide +kernel
theorem dX1_go_59 : decode cX1_go 59 = .ok (.getfield 49, 3) := by decide +kernel
theorem dX1_go_62 : decode cX1_go 62 = .ok (.iastore, 1) := by decide +kernel
theorem dX1_go_63 : decode cX1_go 63 = .ok (.return_, 1) := by decide +kernel
theorem dX1_wouldCount_0 : decode cX1_wouldCount 0 = .ok (.aload_n 1, 1) := by decide +kernel
theorem dX1_wouldCount_1 : decode cX1_wouldCount 1 = .ok (.getfield 49, 3) := by decide +kernel
theorem dX1_wouldCount_4 : decode cX1_wouldCount 4 = .ok (.aload_n 0, 1) := by decide +kernel
theorem dX1_wouldCount_5 : decode cX1_wouldCount 5 = .ok (.getfield 28, 3) := by decide +kernel
theorem dX1_wouldCount_8 : decode cX1_wouldCount 8 = .ok (.aload_n 1, 1) := by decide +kernel
theorem dX1_wouldCount_9 : decode cX1_wouldCount 9 = .ok (.getfield 46, 3) := by decide +kernel
theorem dX1_wouldCount_12 : decode cX1_wouldCount 12 = .ok (.iaload, 1) := by decide +kernel
theorem dX1_wouldCount_13 : decode cX1_wouldCount 13 = .ok (.if_icmp .le 7, 3) := by decide +kernel
theorem dX1_wouldCount_16 : decode cX1_wouldCount 16 = .ok (.iconst 1, 1) := by decide +kernel
theorem dX1_wouldCount_17 : decode cX1_wouldCount 17 = .ok (.goto 4, 3) := by decide +kernel
theorem dX1_wouldCount_20 : decode cX1_wouldCount 20 = .ok (.iconst 0, 1) := by decide +kernel
theorem dX1_wouldCount_21 : decode cX1_wouldCount 21 = .ok (.ireturn, 1) := by decide +kernel
theorem dX1_recover_0 : decode cX1_recover 0 = .ok (.aload_n 0, 1) := by decide +kernel
theorem dX1_recover_1 : decode cX1_recover 1 = .ok (.iconst 0, 1) := by decide +kernel
theorem dX1_recover_2 : decode cX1_recover 2 = .ok (.aload_n 0, 1) := by decide +kernel
theorem dX1_recover_3 : decode cX1_recover 3 = .ok (.getfield 15, 3) := by decide +kernel
theorem dX1_recover_6 : decode cX1_recover 6 = .ok (.iconst 5, 1) := by decide +kernel
theorem dX1_recover_7 : decode cX1_recover 7 = .ok (.isub, 1) := by decide +kernel
theorem dX1_recover_8 : decode cX1_recover 8 = .ok (.invokestatic 52, 3) := by decide +kernel
theorem dX1_recover_11 : decode cX1_recover 11 = .ok (.putfield 15, 3) := by decide +kernel
theorem dX1_recover_14 : decode cX1_recover 14 = .ok (.return_, 1) := by decide +kernel
theorem dX1_ask_0 : decode cX1_ask 0 = .ok (.aload_n 0, 1) := by decide +kernel
theorem dX1_ask_1 : decode cX1_ask 1 = .ok (.getfield 9, 3) := by decide +kernel
theorem dX1_ask_4 : decode cX1_ask 4 = .ok (.iconst 5, 1) := by decide +kernel
theorem dX1_ask_5 : decode cX1_ask 5 = .ok (.if_icmp .ne 16, 3) := by decide +kernel
theorem dX1_ask_8 : decode cX1_ask 8 = .ok (.aload_n 0, 1) := by decide +kernel
theorem dX1_ask_9 : decode cX1_ask 9 = .ok (.getfield 18, 3) := by decide +kernel
theorem dX1_ask_12 : decode cX1_ask 12 = .ok (.iload_n 1, 1) := by decide +kernel
theorem dX1_ask_13 : decode cX1_ask 13 = .ok (.if_icmp .ne 8, 3) := by decide +kernel
theorem dX1_ask_16 : decode cX1_ask 16 = .ok (.aload_n 0, 1) := by decide +kernel
theorem dX1_ask_17 : decode cX1_ask 17 = .ok (.iconst 1, 1) := by decide +kernel
theorem dX1_ask_18 : decode cX1_ask 18 = .ok (.putfield 24, 3) := by decide +kernel
theorem dX1_ask_21 : decode cX1_ask 21 = .ok (.return_, 1) := by decide +kernel
theorem dX2_init_0 : decode cX2_init 0 = .ok (.aload_n 0, 1) := by decide +kernel
theorem dX2_init_1 : decode cX2_init 1 = .ok (.invokespecial 1, 3) := by decide +kernel
theorem dX2_init_4 : decode cX2_init 4 = .ok (.aload_n 0, 1) := by decide +kernel
theorem dX2_init_5 : decode cX2_init 5 = .ok (.iconst 0, 1) := by decide +kernel
theorem dX2_init_6 : decode cX2_init 6 = .ok (.putfield 9, 3) := by decide +kernel
theorem dX2_init_9 : decode cX2_init 9 = .ok (.aload_n 0, 1) := by decide +kernel
theorem dX2_init_10 : decode cX2_init 10 = .ok (.iconst 0, 1) := by decide +kernel
theorem dX2_init_11 : decode cX2_init 11 = .ok (.putfield 13, 3) := by decide +kernel
theorem dX2_init_14 : decode cX2_init 14 = .ok (.aload_n 0, 1) := by decide +kernel
theorem dX2_init_15 : decode cX2_init 15 = .ok (.iconst 0, 1) := by decide +kernel
theorem dX2_init_16 : decode cX2_init 16 = .ok (.putfield 16, 3) := by decide +kernel
theorem dX2_init_19 : decode cX2_init 19 = .ok (.aload_n 0, 1) := by decide +kernel
theorem dX2_init_20 : decode cX2_init 20 = .ok (.iconst 1, 1) := by decide +kernel
theorem dX2_init_21 : decode cX2_init 21 = .ok (.putfield 19, 3) := by decide +kernel
theorem dX2_init_24 : decode cX2_init 24 = .ok (.aload_n 0, 1) := by decide +kernel
theorem dX2_init_25 : decode cX2_init 25 = .ok (.iconst 1, 1) := by decide +kernel
theorem dX2_init_26 : decode cX2_init 26 = .ok (.putfield 22, 3) := by decide +kernel
theorem dX2_init_29 : decode cX2_init 29 = .ok (.aload_n 0, 1) := by decide +kernel
theorem dX2_init_30 : decode cX2_init 30 = .ok (.iload_n 1, 1) := by decide +kernel
theorem dX2_init_31 : decode cX2_init 31 = .ok (.putfield 26, 3) := by decide +kernel
theorem dX2_init_34 : decode cX2_init 34 = .ok (.return_, 1) := by decide +kernel
theorem dX2_lay_0 : decode cX2_lay 0 = .ok (.aload_n 0, 1) := by decide +kernel
theorem dX2_lay_1 : decode cX2_lay 1 = .ok (.iload_n 1, 1) := by decide +kernel
theorem dX2_lay_2 : decode cX2_lay 2 = .ok (.putfield 9, 3) := by decide +kernel
theorem dX2_lay_5 : decode cX2_lay 5 = .ok (.aload_n 0, 1) := by decide +kernel
theorem dX2_lay_6 : decode cX2_lay 6 = .ok (.iload_n 2, 1) := by decide +kernel
theorem dX2_lay_7 : decode cX2_lay 7 = .ok (.putfield 13, 3) := by decide +kernel
theorem dX2_lay_10 : decode cX2_lay 10 = .ok (.aload_n 0, 1) := by decide +kernel
theorem dX2_lay_11 : decode cX2_lay 11 = .ok (.iload_n 3, 1) := by decide +kernel
theorem dX2_lay_12 : decode cX2_lay 12 = .ok (.putfield 16, 3) := by decide +kernel
theorem dX2_lay_15 : decode cX2_lay 15 = .ok (.aload_n 0, 1) := by decide +kernel
theorem dX2_lay_16 : decode cX2_lay 16 = .ok (.iload 4, 2) := by decide +kernel
theorem dX2_lay_18 : decode cX2_lay 18 = .ok (.putfield 19, 3) := by decide +kernel
theorem dX2_lay_21 : decode cX2_lay 21 = .ok (.aload_n 0, 1) := by decide +kernel
theorem dX2_lay_22 : decode cX2_lay 22 = .ok (.iconst 1, 1) := by decide +kernel
theorem dX2_lay_23 : decode cX2_lay 23 = .ok (.putfield 22, 3) := by decide +kernel
theorem dX2_lay_26 : decode cX2_lay 26 = .ok (.return_, 1) := by decide +kernel
theorem dX2_become_0 : decode cX2_become 0 = .ok (.aload_n 0, 1) := by decide +kernel
theorem dX2_become_1 : decode cX2_become 1 = .ok (.aload_n 1, 1) := by decide +kernel
theorem dX2_become_2 : decode cX2_become 2 = .ok (.getfield 9, 3) := by decide +kernel
theorem dX2_become_5 : decode cX2_become 5 = .ok (.aload_n 1, 1) := by decide +kernel
theorem dX2_become_6 : decode cX2_become 6 = .ok (.getfield 13, 3) := by decide +kernel
theorem dX2_become_9 : decode cX2_become 9 = .ok (.aload_n 1, 1) := by decide +kernel
theorem dX2_become_10 : decode cX2_become 10 = .ok (.getfield 16, 3) := by decide +kernel
theorem dX2_become_13 : decode cX2_become 13 = .ok (.aload_n 1, 1) := by decide +kernel
theorem dX2_become_14 : decode cX2_become 14 = .ok (.getfield 19, 3) := by decide +kernel
theorem dX2_become_17 : decode cX2_become 17 = .ok (.invokevirtual 29, 3) := by decide +kernel
theorem dX2_become_20 : decode cX2_become 20 = .ok (.aload_n 0, 1) := by decide +kernel
theorem dX2_become_21 : decode cX2_become 21 = .ok (.aload_n 1, 1) := by decide +kernel
theorem dX2_become_22 : decode cX2_become 22 = .ok (.getfield 22, 3) := by decide +kernel
theorem dX2_become_25 : decode cX2_become 25 = .ok (.putfield 22, 3) := by decide +kernel
theorem dX2_become_28 : decode cX2_become 28 = .ok (.return_, 1) := by decide +kernel
theorem dX2_worth_0 : decode cX2_worth 0 = .ok (.aload_n 0, 1) := by decide +kernel
theorem dX2_worth_1 : decode cX2_worth 1 = .ok (.getfield 9, 3) := by decide +kernel
theorem dX2_worth_4 : decode cX2_worth 4 = .ok (.tableswitch 51 1 4 #[32, 34, 36, 38], 32) := by decide +kernel
theorem dX2_worth_36 : decode cX2_worth 36 = .ok (.iconst 0, 1) := by decide +kernel
theorem dX2_worth_37 : decode cX2_worth 37 = .ok (.ireturn, 1) := by decide +kernel
theorem dX2_worth_38 : decode cX2_worth 38 = .ok (.iconst 1, 1) := by decide +kernel
theorem dX2_worth_39 : decode cX2_worth 39 = .ok (.ireturn, 1) := by decide +kernel
theorem dX2_worth_40 : decode cX2_worth 40 = .ok (.iconst 4, 1) := by decide +kernel
theorem dX2_worth_41 : decode cX2_worth 41 = .ok (.ireturn, 1) := by decide +kernel
theorem dX2_worth_42 : decode cX2_worth 42 = .ok (.aload_n 0, 1) := by decide +kernel
theorem dX2_worth_43 : decode cX2_worth 43 = .ok (.getfield 22, 3) := by decide +kernel
theorem dX2_worth_46 : decode cX2_worth 46 = .ok (.ifCond .eq 7, 3) := by decide +kernel
theorem dX2_worth_49 : decode cX2_worth 49 = .ok (.iconst 4, 1) := by decide +kernel
theorem dX2_worth_50 : decode cX2_worth 50 = .ok (.goto 4, 3) := by decide +kernel
theorem dX2_worth_53 : decode cX2_worth 53 = .ok (.iconst 0, 1) := by decide +kernel
theorem dX2_worth_54 : decode cX2_worth 54 = .ok (.ireturn, 1) := by decide +kernel
theorem dX2_worth_55 : decode cX2_worth 55 = .ok (.iconst 2, 1) := by decide +kernel
theorem dX2_worth_56 : decode cX2_worth 56 = .ok (.ireturn, 1) := by decide +kernel
theorem dX2_isOfKind_0 : decode cX2_isOfKind 0 = .ok (.iload_n 1, 1) := by decide +kernel
theorem dX2_isOfKind_1 : decode cX2_isOfKind 1 = .ok (.ifCond .eq 24, 3) := by decide +kernel
theorem dX2_isOfKind_4 : decode cX2_isOfKind 4 = .ok (.iload_n 1, 1) := by decide +kernel
theorem dX2_isOfKind_5 : decode cX2_isOfKind 5 = .ok (.aload_n 0, 1) := by decide +kernel
theorem dX2_isOfKind_6 : decode cX2_isOfKind 6 = .ok (.getfield 9, 3) := by decide +kernel
theorem dX2_isOfKind_9 : decode cX2_isOfKind 9 = .ok (.if_icmp .eq 16, 3) := by decide +kernel
theorem dX2_isOfKind_12 : decode cX2_isOfKind 12 = .ok (.iload_n 1, 1) := by decide +kernel
theorem dX2_isOfKind_13 : decode cX2_isOfKind 13 = .ok (.iconst 3, 1) := by decide +kernel
theorem dX2_isOfKind_14 : decode cX2_isOfKind 14 = .ok (.if_icmp .ne 15, 3) := by decide +kernel
theorem dX2_isOfKind_17 : decode cX2_isOfKind 17 = .ok (.aload_n 0, 1) := by decide +kernel
theorem dX2_isOfKind_18 : decode cX2_isOfKind 18 = .ok (.getfield 9, 3) := by decide +kernel
theorem dX2_isOfKind_21 : decode cX2_isOfKind 21 = .ok (.iconst 4, 1) := by decide +kernel
theorem dX2_isOfKind_22 : decode cX2_isOfKind 22 = .ok (.if_icmp .ne 7, 3) := by decide +kernel
theorem dX2_isOfKind_25 : decode cX2_isOfKind 25 = .ok (.iconst 1, 1) := by decide +kernel
theorem dX2_isOfKind_26 : decode cX2_isOfKind 26 = .ok (.goto 4, 3) := by decide +kernel
theorem dX2_isOfKind_29 : decode cX2_isOfKind 29 = .ok (.iconst 0, 1) := by decide +kernel
theorem dX2_isOfKind_30 : decode cX2_isOfKind 30 = .ok (.ireturn, 1) := by decide +kernel
theorem dX2_touches_0 : decode cX2_touches 0 = .ok (.iload_n 1, 1) := by decide +kernel
theorem dX2_touches_1 : decode cX2_touches 1 = .ok (.aload_n 0, 1) := by decide +kernel
theorem dX2_touches_2 : decode cX2_touches 2 = .ok (.getfield 13, 3) := by decide +kernel
theorem dX2_touches_5 : decode cX2_touches 5 = .ok (.if_icmp .eq 11, 3) := by decide +kernel
theorem dX2_touches_8 : decode cX2_touches 8 = .ok (.iload_n 1, 1) := by decide +kernel
theorem dX2_touches_9 : decode cX2_touches 9 = .ok (.aload_n 0, 1) := by decide +kernel
theorem dX2_touches_10 : decode cX2_touches 10 = .ok (.getfield 16, 3) := by decide +kernel
theorem dX2_touches_13 : decode cX2_touches 13 = .ok (.if_icmp .ne 7, 3) := by decide +kernel
theorem dX2_touches_16 : decode cX2_touches 16 = .ok (.iconst 1, 1) := by decide +kernel
theorem dX2_touches_17 : decode cX2_touches 17 = .ok (.goto 4, 3) := by decide +kernel
theorem dX2_touches_20 : decode cX2_touches 20 = .ok (.iconst 0, 1) := by decide +kernel
theorem dX2_touches_21 : decode cX2_touches 21 = .ok (.ireturn, 1) := by decide +kernel
theorem dX2_across_0 : decode cX2_across 0 = .ok (.iload_n 1, 1) := by decide +kernel
theorem dX2_across_1 : decode cX2_across 1 = .ok (.aload_n 0, 1) := by decide +kernel
theorem dX2_across_2 : decode cX2_across 2 = .ok (.getfield 13, 3) := by decide +kernel
theorem dX2_across_5 : decode cX2_across 5 = .ok (.if_icmp .ne 10, 3) := by decide +kernel
theorem dX2_across_8 : decode cX2_across 8 = .ok (.aload_n 0, 1) := by decide +kernel
theorem dX2_across_9 : decode cX2_across 9 = .ok (.getfield 16, 3) := by decide +kernel
theorem dX2_across_12 : decode cX2_across 12 = .ok (.goto 7, 3) := by decide +kernel
theorem dX2_across_15 : decode cX2_across 15 = .ok (.aload_n 0, 1) := by decide +kernel
theorem dX2_across_16 : decode cX2_across 16 = .ok (.getfield 13, 3) := by decide +kernel
theorem dX2_across_19 : decode cX2_across 19 = .ok (.ireturn, 1) := by decide +kernel
theorem dX3_init_0 : decode cX3_init 0 = .ok (.aload_n 0, 1) := by decide +kernel
theorem dX3_init_1 : decode cX3_init 1 = .ok (.invokespecial 3, 3) := by decide +kernel
theorem dX3_init_4 : decode cX3_init 4 = .ok (.aload_n 0, 1) := by decide +kernel
theorem dX3_init_5 : decode cX3_init 5 = .ok (.iconst 0, 1) := by decide +kernel
theorem dX3_init_6 : decode cX3_init 6 = .ok (.putfield 9, 3) := by decide +kernel
theorem dX3_init_9 : decode cX3_init 9 = .ok (.aload_n 0, 1) := by decide +kernel
theorem dX3_init_10 : decode cX3_init 10 = .ok (.iconst (-1), 1) := by decide +kernel
theorem dX3_init_11 : decode cX3_init 11 = .ok (.putfield 15, 3) := by decide +kernel
theorem dX3_init_14 : decode cX3_init 14 = .ok (.aload_n 0, 1) := by decide +kernel
theorem dX3_init_15 : decode cX3_init 15 = .ok (.bipush 61, 2) := by decide +kernel
theorem dX3_init_17 : decode cX3_init 17 = .ok (.newarray .int, 2) := by decide +kernel
theorem dX3_init_19 : decode cX3_init 19 = .ok (.putfield 18, 3) := by decide +kernel
theorem dX3_init_22 : decode cX3_init 22 = .ok (.aload_n 0, 1) := by decide +kernel
theorem dX3_init_23 : decode cX3_init 23 = .ok (.bipush 8, 2) := by decide +kernel
theorem dX3_init_25 : decode cX3_init 25 = .ok (.newarray .int, 2) := by decide +kernel
theorem dX3_init_27 : decode cX3_init 27 = .ok (.putfield 22, 3) := by decide +kernel
theorem dX3_init_30 : decode cX3_init 30 = .ok (.aload_n 0, 1) := by decide +kernel
theorem dX3_init_31 : decode cX3_init 31 = .ok (.sipush 1536, 3) := by decide +kernel
theorem dX3_init_34 : decode cX3_init 34 = .ok (.newarray .int, 2) := by decide +kernel
theorem dX3_init_36 : decode cX3_init 36 = .ok (.putfield 25, 3) := by decide +kernel
theorem dX3_init_39 : decode cX3_init 39 = .ok (.aload_n 0, 1) := by decide +kernel
theorem dX3_init_40 : decode cX3_init 40 = .ok (.sipush 1536, 3) := by decide +kernel
theorem dX3_init_43 : decode cX3_init 43 = .ok (.newarray .int, 2) := by decide +kernel
theorem dX3_init_45 : decode cX3_init 45 = .ok (.putfield 28, 3) := by decide +kernel
theorem dX3_init_48 : decode cX3_init 48 = .ok (.aload_n 0, 1) := by decide +kernel
theorem dX3_init_49 : decode cX3_init 49 = .ok (.sipush 1536, 3) := by decide +kernel
theorem dX3_init_52 : decode cX3_init 52 = .ok (.newarray .int, 2) := by decide +kernel
theorem dX3_init_54 : decode cX3_init 54 = .ok (.putfield 31, 3) := by decide +kernel
theorem dX3_init_57 : decode cX3_init 57 = .ok (.aload_n 0, 1) := by decide +kernel
theorem dX3_init_58 : decode cX3_init 58 = .ok (.sipush 1536, 3) := by decide +kernel
theorem dX3_init_61 : decode cX3_init 61 = .ok (.newarray .int, 2) := by decide +kernel
theorem dX3_init_63 : decode cX3_init 63 = .ok (.putfield 34, 3) := by decide +kernel
theorem dX3_init_66 : decode cX3_init 66 = .ok (.aload_n 0, 1) := by decide +kernel
theorem dX3_init_67 : decode cX3_init 67 = .ok (.iconst 1, 1) := by decide +kernel
theorem dX3_init_68 : decode cX3_init 68 = .ok (.putfield 37, 3) := by decide +kernel
theorem dX3_init_71 : decode cX3_init 71 = .ok (.aload_n 0, 1) := by decide +kernel
theorem dX3_init_72 : decode cX3_init 72 = .ok (.iconst 0, 1) := by decide +kernel
theorem dX3_init_73 : decode cX3_init 73 = .ok (.putfield 40, 3) := by decide +kernel
theorem dX3_init_76 : decode cX3_init 76 = .ok (.return_, 1) := by decide +kernel
theorem dX3_outdate_0 : decode cX3_outdate 0 = .ok (.aload_n 0, 1) := by decide +kernel
theorem dX3_outdate_1 : decode cX3_outdate 1 = .ok (.iconst 0, 1) := by decide +kernel
theorem dX3_outdate_2 : decode cX3_outdate 2 = .ok (.putfield 40, 3) := by decide +kernel
theorem dX3_outdate_5 : decode cX3_outdate 5 = .ok (.return_, 1) := by decide +kernel
theorem dX3_tally_0 : decode cX3_tally 0 = .ok (.aload_n 0, 1) := by decide +kernel
theorem dX3_tally_1 : decode cX3_tally 1 = .ok (.getfield 40, 3) := by decide +kernel
theorem dX3_tally_4 : decode cX3_tally 4 = .ok (.ifCond .eq 4, 3) := by decide +kernel
theorem dX3_tally_7 : decode cX3_tally 7 = .ok (.return_, 1) := by decide +kernel
theorem dX3_tally_8 : decode cX3_tally 8 = .ok (.aload_n 0, 1) := by decide +kernel
theorem dX3_tally_9 : decode cX3_tally 9 = .ok (.aload_n 1, 1) := by decide +kernel
theorem dX3_tally_10 : decode cX3_tally 10 = .ok (.invokevirtual 44, 3) := by decide +kernel
theorem dX3_tally_13 : decode cX3_tally 13 = .ok (.aload_n 0, 1) := by decide +kernel
theorem dX3_tally_14 : decode cX3_tally 14 = .ok (.invokevirtual 48, 3) := by decide +kernel
theorem dX3_tally_17 : decode cX3_tally 17 = .ok (.aload_n 0, 1) := by decide +kernel
theorem dX3_tally_18 : decode cX3_tally 18 = .ok (.getfield 28, 3) := by decide +kernel
theorem dX3_tally_21 : decode cX3_tally 21 = .ok (.iconst 0, 1) := by decide +kernel
theorem dX3_tally_22 : decode cX3_tally 22 = .ok (.iconst 1, 1) := by decide +kernel
theorem dX3_tally_23 : decode cX3_tally 23 = .ok (.iastore, 1) := by decide +kernel
theorem dX3_tally_24 : decode cX3_tally 24 = .ok (.aload_n 0, 1) := by decide +kernel
theorem dX3_tally_25 : decode cX3_tally 25 = .ok (.getfield 34, 3) := by decide +kernel
theorem dX3_tally_28 : decode cX3_tally 28 = .ok (.iconst 0, 1) := by decide +kernel
theorem dX3_tally_29 : decode cX3_tally 29 = .ok (.sipush 256, 3) := by decide +kernel
theorem dX3_tally_32 : decode cX3_tally 32 = .ok (.iastore, 1) := by decide +kernel
theorem dX3_tally_33 : decode cX3_tally 33 = .ok (.aload_n 0, 1) := by decide +kernel
theorem dX3_tally_34 : decode cX3_tally 34 = .ok (.invokevirtual 51, 3) := by decide +kernel
theorem dX3_tally_37 : decode cX3_tally 37 = .ok (.iconst 0, 1) := by decide +kernel
theorem dX3_tally_38 : decode cX3_tally 38 = .ok (.istore_n 2, 1) := by decide +kernel
theorem dX3_tally_39 : decode cX3_tally 39 = .ok (.iload_n 2, 1) := by decide +kernel
theorem dX3_tally_40 : decode cX3_tally 40 = .ok (.aload_n 1, 1) := by decide +kernel
theorem dX3_tally_41 : decode cX3_tally 41 = .ok (.getfield 54, 3) := by decide +kernel
theorem dX3_tally_44 : decode cX3_tally 44 = .ok (.if_icmp .ge 28, 3) := by decide +kernel
theorem dX3_tally_47 : decode cX3_tally 47 = .ok (.aload_n 0, 1) := by decide +kernel
theorem dX3_tally_48 : decode cX3_tally 48 = .ok (.invokevirtual 48, 3) := by decide +kernel
theorem dX3_tally_51 : decode cX3_tally 51 = .ok (.aload_n 0, 1) := by decide +kernel
theorem dX3_tally_52 : decode cX3_tally 52 = .ok (.aload_n 1, 1) := by decide +kernel
theorem dX3_tally_53 : decode cX3_tally 53 = .ok (.aload_n 1, 1) := by decide +kernel
theorem dX3_tally_54 : decode cX3_tally 54 = .ok (.getfield 59, 3) := by decide +kernel
theorem dX3_tally_57 : decode cX3_tally 57 = .ok (.iload_n 2, 1) := by decide +kernel
theorem dX3_tally_58 : decode cX3_tally 58 = .ok (.iaload, 1) := by decide +kernel
theorem dX3_tally_59 : decode cX3_tally 59 = .ok (.invokevirtual 62, 3) := by decide +kernel
theorem dX3_tally_62 : decode cX3_tally 62 = .ok (.aload_n 0, 1) := by decide +kernel
theorem dX3_tally_63 : decode cX3_tally 63 = .ok (.invokevirtual 51, 3) := by decide +kernel
theorem dX3_tally_66 : decode cX3_tally 66 = .ok (.iinc 2 1, 3) := by decide +kernel
theorem dX3_tally_69 : decode cX3_tally 69 = .ok (.goto (-30), 3) := by decide +kernel
theorem dX3_tally_72 : decode cX3_tally 72 = .ok (.aload_n 0, 1) := by decide +kernel
theorem dX3_tally_73 : decode cX3_tally 73 = .ok (.aload_n 1, 1) := by decide +kernel
theorem dX3_tally_74 : decode cX3_tally 74 = .ok (.invokevirtual 66, 3) := by decide +kernel
theorem dX3_tally_77 : decode cX3_tally 77 = .ok (.aload_n 0, 1) := by decide +kernel
theorem dX3_tally_78 : decode cX3_tally 78 = .ok (.iconst 1, 1) := by decide +kernel
theorem dX3_tally_79 : decode cX3_tally 79 = .ok (.putfield 40, 3) := by decide +kernel
theorem dX3_tally_82 : decode cX3_tally 82 = .ok (.return_, 1) := by decide +kernel
theorem dX3_giveBits_0 : decode cX3_giveBits 0 = .ok (.aload_n 0, 1) := by decide +kernel
theorem dX3_giveBits_1 : decode cX3_giveBits 1 = .ok (.iconst 1, 1) := by decide +kernel
theorem dX3_giveBits_2 : decode cX3_giveBits 2 = .ok (.putfield 37, 3) := by decide +kernel
theorem dX3_giveBits_5 : decode cX3_giveBits 5 = .ok (.iconst 0, 1) := by decide +kernel
theorem dX3_giveBits_6 : decode cX3_giveBits 6 = .ok (.istore_n 2, 1) := by decide +kernel
theorem dX3_giveBits_7 : decode cX3_giveBits 7 = .ok (.iload_n 2, 1) := by decide +kernel
theorem dX3_giveBits_8 : decode cX3_giveBits 8 = .ok (.aload_n 1, 1) := by decide +kernel
theorem dX3_giveBits_9 : decode cX3_giveBits 9 = .ok (.getfield 69, 3) := by decide +kernel
theorem dX3_giveBits_12 : decode cX3_giveBits 12 = .ok (.if_icmp .ge 51, 3) := by decide +kernel
theorem dX3_giveBits_15 : decode cX3_giveBits 15 = .ok (.aload_n 0, 1) := by decide +kernel
theorem dX3_giveBits_16 : decode cX3_giveBits 16 = .ok (.getfield 22, 3) := by decide +kernel
theorem dX3_giveBits_19 : decode cX3_giveBits 19 = .ok (.iload_n 2, 1) := by decide +kernel
theorem dX3_giveBits_20 : decode cX3_giveBits 20 = .ok (.iconst 0, 1) := by decide +kernel
theorem dX3_giveBits_21 : decode cX3_giveBits 21 = .ok (.iastore, 1) := by decide +kernel
theorem dX3_giveBits_22 : decode cX3_giveBits 22 = .ok (.aload_n 1, 1) := by decide +kernel
theorem dX3_giveBits_23 : decode cX3_giveBits 23 = .ok (.getfield 72, 3) := by decide +kernel
theorem dX3_giveBits_26 : decode cX3_giveBits 26 = .ok (.iload_n 2, 1) := by decide +kernel
theorem dX3_giveBits_27 : decode cX3_giveBits 27 = .ok (.aaload, 1) := by decide +kernel
theorem dX3_giveBits_28 : decode cX3_giveBits 28 = .ok (.invokevirtual 76, 3) := by decide +kernel
theorem dX3_giveBits_31 : decode cX3_giveBits 31 = .ok (.ifCond .le 26, 3) := by decide +kernel
theorem dX3_giveBits_34 : decode cX3_giveBits 34 = .ok (.aload_n 0, 1) := by decide +kernel
theorem dX3_giveBits_35 : decode cX3_giveBits 35 = .ok (.getfield 22, 3) := by decide +kernel
theorem dX3_giveBits_38 : decode cX3_giveBits 38 = .ok (.iload_n 2, 1) := by decide +kernel
theorem dX3_giveBits_39 : decode cX3_giveBits 39 = .ok (.aload_n 0, 1) := by decide +kernel
theorem dX3_giveBits_40 : decode cX3_giveBits 40 = .ok (.getfield 37, 3) := by decide +kernel
theorem dX3_giveBits_43 : decode cX3_giveBits 43 = .ok (.iastore, 1) := by decide +kernel
theorem dX3_giveBits_44 : decode cX3_giveBits 44 = .ok (.aload_n 0, 1) := by decide +kernel
theorem dX3_giveBits_45 : decode cX3_giveBits 45 = .ok (.dup, 1) := by decide +kernel
theorem dX3_giveBits_46 : decode cX3_giveBits 46 = .ok (.getfield 37, 3) := by decide +kernel
theorem dX3_giveBits_49 : decode cX3_giveBits 49 = .ok (.aload_n 0, 1) := by decide +kernel
theorem dX3_giveBits_50 : decode cX3_giveBits 50 = .ok (.getfield 37, 3) := by decide +kernel
theorem dX3_giveBits_53 : decode cX3_giveBits 53 = .ok (.iadd, 1) := by decide +kernel
theorem dX3_giveBits_54 : decode cX3_giveBits 54 = .ok (.putfield 37, 3) := by decide +kernel
theorem dX3_giveBits_57 : decode cX3_giveBits 57 = .ok (.iinc 2 1, 3) := by decide +kernel
theorem dX3_giveBits_60 : decode cX3_giveBits 60 = .ok (.goto (-53), 3) := by decide +kernel
theorem dX3_giveBits_63 : decode cX3_giveBits 63 = .ok (.return_, 1) := by decide +kernel
theorem dX3_clearThen_0 : decode cX3_clearThen 0 = .ok (.aload_n 0, 1) := by decide +kernel
theorem dX3_clearThen_1 : decode cX3_clearThen 1 = .ok (.getfield 37, 3) := by decide +kernel
theorem dX3_clearThen_4 : decode cX3_clearThen 4 = .ok (.bipush 6, 2) := by decide +kernel
theorem dX3_clearThen_6 : decode cX3_clearThen 6 = .ok (.imul, 1) := by decide +kernel
theorem dX3_clearThen_7 : decode cX3_clearThen 7 = .ok (.istore_n 1, 1) := by decide +kernel
theorem dX3_clearThen_8 : decode cX3_clearThen 8 = .ok (.iconst 0, 1) := by decide +kernel
theorem dX3_clearThen_9 : decode cX3_clearThen 9 = .ok (.istore_n 2, 1) := by decide +kernel
theorem dX3_clearThen_10 : decode cX3_clearThen 10 = .ok (.iload_n 2, 1) := by decide +kernel
theorem dX3_clearThen_11 : decode cX3_clearThen 11 = .ok (.iload_n 1, 1) := by decide +kernel
theorem dX3_clearThen_12 : decode cX3_clearThen 12 = .ok (.if_icmp .ge 23, 3) := by decide +kernel
theorem dX3_clearThen_15 : decode cX3_clearThen 15 = .ok (.aload_n 0, 1) := by decide +kernel
theorem dX3_clearThen_16 : decode cX3_clearThen 16 = .ok (.getfield 28, 3) := by decide +kernel
theorem dX3_clearThen_19 : decode cX3_clearThen 19 = .ok (.iload_n 2, 1) := by decide +kernel
theorem dX3_clearThen_20 : decode cX3_clearThen 20 = .ok (.iconst 0, 1) := by decide +kernel
theorem dX3_clearThen_21 : decode cX3_clearThen 21 = .ok (.iastore, 1) := by decide +kernel
theorem dX3_clearThen_22 : decode cX3_clearThen 22 = .ok (.aload_n 0, 1) := by decide +kernel
theorem dX3_clearThen_23 : decode cX3_clearThen 23 = .ok (.getfield 34, 3) := by decide +kernel
theorem dX3_clearThen_26 : decode cX3_clearThen 26 = .ok (.iload_n 2, 1) := by decide +kernel
theorem dX3_clearThen_27 : decode cX3_clearThen 27 = .ok (.iconst 0, 1) := by decide +kernel
theorem dX3_clearThen_28 : decode cX3_clearThen 28 = .ok (.iastore, 1) := by decide +kernel
theorem dX3_clearThen_29 : decode cX3_clearThen 29 = .ok (.iinc 2 1, 3) := by decide +kernel
theorem dX3_clearThen_32 : decode cX3_clearThen 32 = .ok (.goto (-22), 3) := by decide +kernel
theorem dX3_clearThen_35 : decode cX3_clearThen 35 = .ok (.return_, 1) := by decide +kernel
theorem dX3_swap_0 : decode cX3_swap 0 = .ok (.aload_n 0, 1) := by decide +kernel
theorem dX3_swap_1 : decode cX3_swap 1 = .ok (.getfield 25, 3) := by decide +kernel
theorem dX3_swap_4 : decode cX3_swap 4 = .ok (.astore_n 1, 1) := by decide +kernel
theorem dX3_swap_5 : decode cX3_swap 5 = .ok (.aload_n 0, 1) := by decide +kernel
theorem dX3_swap_6 : decode cX3_swap 6 = .ok (.getfield 31, 3) := by decide +kernel
theorem dX3_swap_9 : decode cX3_swap 9 = .ok (.astore_n 2, 1) := by decide +kernel
theorem dX3_swap_10 : decode cX3_swap 10 = .ok (.aload_n 0, 1) := by decide +kernel
theorem dX3_swap_11 : decode cX3_swap 11 = .ok (.aload_n 0, 1) := by decide +kernel
theorem dX3_swap_12 : decode cX3_swap 12 = .ok (.getfield 28, 3) := by decide +kernel
theorem dX3_swap_15 : decode cX3_swap 15 = .ok (.putfield 25, 3) := by decide +kernel
theorem dX3_swap_18 : decode cX3_swap 18 = .ok (.aload_n 0, 1) := by decide +kernel
theorem dX3_swap_19 : decode cX3_swap 19 = .ok (.aload_n 0, 1) := by decide +kernel
theorem dX3_swap_20 : decode cX3_swap 20 = .ok (.getfield 34, 3) := by decide +kernel
theorem dX3_swap_23 : decode cX3_swap 23 = .ok (.putfield 31, 3) := by decide +kernel
theorem dX3_swap_26 : decode cX3_swap 26 = .ok (.aload_n 0, 1) := by decide +kernel
theorem dX3_swap_27 : decode cX3_swap 27 = .ok (.aload_n 1, 1) := by decide +kernel
theorem dX3_swap_28 : decode cX3_swap 28 = .ok (.putfield 28, 3) := by decide +kernel
theorem dX3_swap_31 : decode cX3_swap 31 = .ok (.aload_n 0, 1) := by decide +kernel
theorem dX3_swap_32 : decode cX3_swap 32 = .ok (.aload_n 2, 1) := by decide +kernel
theorem dX3_swap_33 : decode cX3_swap 33 = .ok (.putfield 34, 3) := by decide +kernel
theorem dX3_swap_36 : decode cX3_swap 36 = .ok (.return_, 1) := by decide +kernel
theorem dX3_passMonth_0 : decode cX3_passMonth 0 = .ok (.iconst 0, 1) := by decide +kernel
theorem dX3_passMonth_1 : decode cX3_passMonth 1 = .ok (.istore_n 3, 1) := by decide +kernel
theorem dX3_passMonth_2 : decode cX3_passMonth 2 = .ok (.iload_n 3, 1) := by decide +kernel
theorem dX3_passMonth_3 : decode cX3_passMonth 3 = .ok (.aload_n 0, 1) := by decide +kernel
theorem dX3_passMonth_4 : decode cX3_passMonth 4 = .ok (.getfield 37, 3) := by decide +kernel
theorem dX3_passMonth_7 : decode cX3_passMonth 7 = .ok (.if_icmp .ge 49, 3) := by decide +kernel
theorem dX3_passMonth_10 : decode cX3_passMonth 10 = .ok (.iconst 0, 1) := by decide +kernel
theorem dX3_passMonth_11 : decode cX3_passMonth 11 = .ok (.istore 4, 2) := by decide +kernel
theorem dX3_passMonth_13 : decode cX3_passMonth 13 = .ok (.iload 4, 2) := by decide +kernel
theorem dX3_passMonth_15 : decode cX3_passMonth 15 = .ok (.bipush 6, 2) := by decide +kernel
theorem dX3_passMonth_17 : decode cX3_passMonth 17 = .ok (.if_icmp .ge 33, 3) := by decide +kernel
theorem dX3_passMonth_20 : decode cX3_passMonth 20 = .ok (.aload_n 0, 1) := by decide +kernel
theorem dX3_passMonth_21 : decode cX3_passMonth 21 = .ok (.getfield 25, 3) := by decide +kernel
theorem dX3_passMonth_24 : decode cX3_passMonth 24 = .ok (.iload_n 3, 1) := by decide +kernel
theorem dX3_passMonth_25 : decode cX3_passMonth 25 = .ok (.bipush 6, 2) := by decide +kernel
theorem dX3_passMonth_27 : decode cX3_passMonth 27 = .ok (.imul, 1) := by decide +kernel
theorem dX3_passMonth_28 : decode cX3_passMonth 28 = .ok (.iload 4, 2) := by decide +kernel
theorem dX3_passMonth_30 : decode cX3_passMonth 30 = .ok (.iadd, 1) := by decide +kernel
theorem dX3_passMonth_31 : decode cX3_passMonth 31 = .ok (.iaload, 1) := by decide +kernel
theorem dX3_passMonth_32 : decode cX3_passMonth 32 = .ok (.ifCond .le 12, 3) := by decide +kernel
theorem dX3_passMonth_35 : decode cX3_passMonth 35 = .ok (.aload_n 0, 1) := by decide +kernel
theorem dX3_passMonth_36 : decode cX3_passMonth 36 = .ok (.aload_n 1, 1) := by decide +kernel
theorem dX3_passMonth_37 : decode cX3_passMonth 37 = .ok (.iload_n 3, 1) := by decide +kernel
theorem dX3_passMonth_38 : decode cX3_passMonth 38 = .ok (.iload 4, 2) := by decide +kernel
theorem dX3_passMonth_40 : decode cX3_passMonth 40 = .ok (.iload_n 2, 1) := by decide +kernel
theorem dX3_passMonth_41 : decode cX3_passMonth 41 = .ok (.invokevirtual 82, 3) := by decide +kernel
theorem dX3_passMonth_44 : decode cX3_passMonth 44 = .ok (.iinc 4 1, 3) := by decide +kernel
theorem dX3_passMonth_47 : decode cX3_passMonth 47 = .ok (.goto (-34), 3) := by decide +kernel
theorem dX3_passMonth_50 : decode cX3_passMonth 50 = .ok (.iinc 3 1, 3) := by decide +kernel
theorem dX3_passMonth_53 : decode cX3_passMonth 53 = .ok (.goto (-51), 3) := by decide +kernel
theorem dX3_passMonth_56 : decode cX3_passMonth 56 = .ok (.return_, 1) := by decide +kernel
theorem dX3_goOn_0 : decode cX3_goOn 0 = .ok (.iload_n 2, 1) := by decide +kernel
theorem dX3_goOn_1 : decode cX3_goOn 1 = .ok (.bipush 6, 2) := by decide +kernel
theorem dX3_goOn_3 : decode cX3_goOn 3 = .ok (.imul, 1) := by decide +kernel
theorem dX3_goOn_4 : decode cX3_goOn 4 = .ok (.iload_n 3, 1) := by decide +kernel
theorem dX3_goOn_5 : decode cX3_goOn 5 = .ok (.iadd, 1) := by decide +kernel
theorem dX3_goOn_6 : decode cX3_goOn 6 = .ok (.istore 5, 2) := by decide +kernel
theorem dX3_goOn_8 : decode cX3_goOn 8 = .ok (.iconst 0, 1) := by decide +kernel
theorem dX3_goOn_9 : decode cX3_goOn 9 = .ok (.istore 6, 2) := by decide +kernel
theorem dX3_goOn_11 : decode cX3_goOn 11 = .ok (.iload 6, 2) := by decide +kernel
theorem dX3_goOn_13 : decode cX3_goOn 13 = .ok (.aload_n 1, 1) := by decide +kernel
theorem dX3_goOn_14 : decode cX3_goOn 14 = .ok (.getfield 69, 3) := by decide +kernel
theorem dX3_goOn_17 : decode cX3_goOn 17 = .ok (.if_icmp .ge 132, 3) := by decide +kernel
theorem dX3_goOn_20 : decode cX3_goOn 20 = .ok (.aload_n 1, 1) := by decide +kernel
theorem dX3_goOn_21 : decode cX3_goOn 21 = .ok (.getfield 72, 3) := by decide +kernel
theorem dX3_goOn_24 : decode cX3_goOn 24 = .ok (.iload 6, 2) := by decide +kernel
theorem dX3_goOn_26 : decode cX3_goOn 26 = .ok (.aaload, 1) := by decide +kernel
theorem dX3_goOn_27 : decode cX3_goOn 27 = .ok (.astore 7, 2) := by decide +kernel
theorem dX3_goOn_29 : decode cX3_goOn 29 = .ok (.aload 7, 2) := by decide +kernel
theorem dX3_goOn_31 : decode cX3_goOn 31 = .ok (.iload_n 3, 1) := by decide +kernel
theorem dX3_goOn_32 : decode cX3_goOn 32 = .ok (.invokevirtual 86, 3) := by decide +kernel
theorem dX3_goOn_35 : decode cX3_goOn 35 = .ok (.istore 8, 2) := by decide +kernel
theorem dX3_goOn_37 : decode cX3_goOn 37 = .ok (.aload 7, 2) := by decide +kernel
theorem dX3_goOn_39 : decode cX3_goOn 39 = .ok (.iload_n 3, 1) := by decide +kernel
theorem dX3_goOn_40 : decode cX3_goOn 40 = .ok (.invokevirtual 90, 3) := by decide +kernel
theorem dX3_goOn_43 : decode cX3_goOn 43 = .ok (.ifCond .eq 100, 3) := by decide +kernel
theorem dX3_goOn_46 : decode cX3_goOn 46 = .ok (.iload 4, 2) := by decide +kernel
theorem dX3_goOn_48 : decode cX3_goOn 48 = .ok (.iconst (-1), 1) := by decide +kernel
theorem dX3_goOn_49 : decode cX3_goOn 49 = .ok (.if_icmp .eq 10, 3) := by decide +kernel
theorem dX3_goOn_52 : decode cX3_goOn 52 = .ok (.iload 4, 2) := by decide +kernel
theorem dX3_goOn_54 : decode cX3_goOn 54 = .ok (.iload 8, 2) := by decide +kernel
theorem dX3_goOn_56 : decode cX3_goOn 56 = .ok (.if_icmp .ne 87, 3) := by decide +kernel
theorem dX3_goOn_59 : decode cX3_goOn 59 = .ok (.aload_n 0, 1) := by decide +kernel
theorem dX3_goOn_60 : decode cX3_goOn 60 = .ok (.getfield 22, 3) := by decide +kernel
theorem dX3_goOn_63 : decode cX3_goOn 63 = .ok (.iload 6, 2) := by decide +kernel
theorem dX3_goOn_65 : decode cX3_goOn 65 = .ok (.iaload, 1) := by decide +kernel
theorem dX3_goOn_66 : decode cX3_goOn 66 = .ok (.iload_n 2, 1) := by decide +kernel
theorem dX3_goOn_67 : decode cX3_goOn 67 = .ok (.iconst (-1), 1) := by decide +kernel
theorem dX3_goOn_68 : decode cX3_goOn 68 = .ok (.ixor, 1) := by decide +kernel
theorem dX3_goOn_69 : decode cX3_goOn 69 = .ok (.iand, 1) := by decide +kernel
theorem dX3_goOn_70 : decode cX3_goOn 70 = .ok (.ifCond .eq 7, 3) := by decide +kernel
theorem dX3_goOn_73 : decode cX3_goOn 73 = .ok (.iconst 1, 1) := by decide +kernel
theorem dX3_goOn_74 : decode cX3_goOn 74 = .ok (.goto 4, 3) := by decide +kernel
theorem dX3_goOn_77 : decode cX3_goOn 77 = .ok (.iconst 0, 1) := by decide +kernel
theorem dX3_goOn_78 : decode cX3_goOn 78 = .ok (.istore 9, 2) := by decide +kernel
theorem dX3_goOn_80 : decode cX3_goOn 80 = .ok (.iload_n 2, 1) := by decide +kernel
theorem dX3_goOn_81 : decode cX3_goOn 81 = .ok (.aload_n 0, 1) := by decide +kernel
theorem dX3_goOn_82 : decode cX3_goOn 82 = .ok (.getfield 22, 3) := by decide +kernel
theorem dX3_goOn_85 : decode cX3_goOn 85 = .ok (.iload 6, 2) := by decide +kernel
theorem dX3_goOn_87 : decode cX3_goOn 87 = .ok (.iaload, 1) := by decide +kernel
theorem dX3_goOn_88 : decode cX3_goOn 88 = .ok (.ior, 1) := by decide +kernel
theorem dX3_goOn_89 : decode cX3_goOn 89 = .ok (.bipush 6, 2) := by decide +kernel
theorem dX3_goOn_91 : decode cX3_goOn 91 = .ok (.imul, 1) := by decide +kernel
theorem dX3_goOn_92 : decode cX3_goOn 92 = .ok (.iload 8, 2) := by decide +kernel
theorem dX3_goOn_94 : decode cX3_goOn 94 = .ok (.iadd, 1) := by decide +kernel
theorem dX3_goOn_95 : decode cX3_goOn 95 = .ok (.istore 10, 2) := by decide +kernel
theorem dX3_goOn_97 : decode cX3_goOn 97 = .ok (.aload_n 0, 1) := by decide +kernel
theorem dX3_goOn_98 : decode cX3_goOn 98 = .ok (.getfield 28, 3) := by decide +kernel
theorem dX3_goOn_101 : decode cX3_goOn 101 = .ok (.iload 10, 2) := by decide +kernel
theorem dX3_goOn_103 : decode cX3_goOn 103 = .ok (.dup2, 1) := by decide +kernel
theorem dX3_goOn_104 : decode cX3_goOn 104 = .ok (.iaload, 1) := by decide +kernel
theorem dX3_goOn_105 : decode cX3_goOn 105 = .ok (.aload_n 0, 1) := by decide +kernel
theorem dX3_goOn_106 : decode cX3_goOn 106 = .ok (.getfield 25, 3) := by decide +kernel
theorem dX3_goOn_109 : decode cX3_goOn 109 = .ok (.iload 5, 2) := by decide +kernel
theorem dX3_goOn_111 : decode cX3_goOn 111 = .ok (.iaload, 1) := by decide +kernel
theorem dX3_goOn_112 : decode cX3_goOn 112 = .ok (.iadd, 1) := by decide +kernel
theorem dX3_goOn_113 : decode cX3_goOn 113 = .ok (.iastore, 1) := by decide +kernel
theorem dX3_goOn_114 : decode cX3_goOn 114 = .ok (.aload_n 0, 1) := by decide +kernel
theorem dX3_goOn_115 : decode cX3_goOn 115 = .ok (.getfield 34, 3) := by decide +kernel
theorem dX3_goOn_118 : decode cX3_goOn 118 = .ok (.iload 10, 2) := by decide +kernel
theorem dX3_goOn_120 : decode cX3_goOn 120 = .ok (.dup2, 1) := by decide +kernel
theorem dX3_goOn_121 : decode cX3_goOn 121 = .ok (.iaload, 1) := by decide +kernel
theorem dX3_goOn_122 : decode cX3_goOn 122 = .ok (.iload 9, 2) := by decide +kernel
theorem dX3_goOn_124 : decode cX3_goOn 124 = .ok (.ifCond .eq 10, 3) := by decide +kernel
theorem dX3_goOn_127 : decode cX3_goOn 127 = .ok (.iconst 1, 1) := by decide +kernel
theorem dX3_goOn_128 : decode cX3_goOn 128 = .ok (.iload 6, 2) := by decide +kernel
theorem dX3_goOn_130 : decode cX3_goOn 130 = .ok (.ishl, 1) := by decide +kernel
theorem dX3_goOn_131 : decode cX3_goOn 131 = .ok (.goto 10, 3) := by decide +kernel
theorem dX3_goOn_134 : decode cX3_goOn 134 = .ok (.aload_n 0, 1) := by decide +kernel
theorem dX3_goOn_135 : decode cX3_goOn 135 = .ok (.getfield 31, 3) := by decide +kernel
theorem dX3_goOn_138 : decode cX3_goOn 138 = .ok (.iload 5, 2) := by decide +kernel
theorem dX3_goOn_140 : decode cX3_goOn 140 = .ok (.iaload, 1) := by decide +kernel
theorem dX3_goOn_141 : decode cX3_goOn 141 = .ok (.ior, 1) := by decide +kernel
theorem dX3_goOn_142 : decode cX3_goOn 142 = .ok (.iastore, 1) := by decide +kernel
theorem dX3_goOn_143 : decode cX3_goOn 143 = .ok (.iinc 6 1, 3) := by decide +kernel
theorem dX3_goOn_146 : decode cX3_goOn 146 = .ok (.goto (-135), 3) := by decide +kernel
theorem dX3_goOn_149 : decode cX3_goOn 149 = .ok (.return_, 1) := by decide +kernel
theorem dX3_sumUp_0 : decode cX3_sumUp 0 = .ok (.aload_n 0, 1) := by decide +kernel
theorem dX3_sumUp_1 : decode cX3_sumUp 1 = .ok (.iconst 0, 1) := by decide +kernel
theorem dX3_sumUp_2 : decode cX3_sumUp 2 = .ok (.putfield 9, 3) := by decide +kernel
theorem dX3_sumUp_5 : decode cX3_sumUp 5 = .ok (.iconst 0, 1) := by decide +kernel
theorem dX3_sumUp_6 : decode cX3_sumUp 6 = .ok (.istore_n 2, 1) := by decide +kernel
theorem dX3_sumUp_7 : decode cX3_sumUp 7 = .ok (.iload_n 2, 1) := by decide +kernel
theorem dX3_sumUp_8 : decode cX3_sumUp 8 = .ok (.bipush 60, 2) := by decide +kernel
theorem dX3_sumUp_10 : decode cX3_sumUp 10 = .ok (.if_icmp .gt 16, 3) := by decide +kernel
theorem dX3_sumUp_13 : decode cX3_sumUp 13 = .ok (.aload_n 0, 1) := by decide +kernel
theorem dX3_sumUp_14 : decode cX3_sumUp 14 = .ok (.getfield 18, 3) := by decide +kernel
theorem dX3_sumUp_17 : decode cX3_sumUp 17 = .ok (.iload_n 2, 1) := by decide +kernel
theorem dX3_sumUp_18 : decode cX3_sumUp 18 = .ok (.iconst 0, 1) := by decide +kernel
theorem dX3_sumUp_19 : decode cX3_sumUp 19 = .ok (.iastore, 1) := by decide +kernel
theorem dX3_sumUp_20 : decode cX3_sumUp 20 = .ok (.iinc 2 1, 3) := by decide +kernel
theorem dX3_sumUp_23 : decode cX3_sumUp 23 = .ok (.goto (-16), 3) := by decide +kernel
theorem dX3_sumUp_26 : decode cX3_sumUp 26 = .ok (.iconst 0, 1) := by decide +kernel
theorem dX3_sumUp_27 : decode cX3_sumUp 27 = .ok (.istore_n 2, 1) := by decide +kernel
theorem dX3_sumUp_28 : decode cX3_sumUp 28 = .ok (.iconst 0, 1) := by decide +kernel
theorem dX3_sumUp_29 : decode cX3_sumUp 29 = .ok (.istore_n 3, 1) := by decide +kernel
theorem dX3_sumUp_30 : decode cX3_sumUp 30 = .ok (.iload_n 3, 1) := by decide +kernel
theorem dX3_sumUp_31 : decode cX3_sumUp 31 = .ok (.aload_n 0, 1) := by decide +kernel
theorem dX3_sumUp_32 : decode cX3_sumUp 32 = .ok (.getfield 37, 3) := by decide +kernel
theorem dX3_sumUp_35 : decode cX3_sumUp 35 = .ok (.if_icmp .ge 92, 3) := by decide +kernel
theorem dX3_sumUp_38 : decode cX3_sumUp 38 = .ok (.aload_n 0, 1) := by decide +kernel
theorem dX3_sumUp_39 : decode cX3_sumUp 39 = .ok (.aload_n 1, 1) := by decide +kernel
theorem dX3_sumUp_40 : decode cX3_sumUp 40 = .ok (.iload_n 3, 1) := by decide +kernel
theorem dX3_sumUp_41 : decode cX3_sumUp 41 = .ok (.invokevirtual 94, 3) := by decide +kernel
theorem dX3_sumUp_44 : decode cX3_sumUp 44 = .ok (.istore 4, 2) := by decide +kernel
theorem dX3_sumUp_46 : decode cX3_sumUp 46 = .ok (.iconst 0, 1) := by decide +kernel
theorem dX3_sumUp_47 : decode cX3_sumUp 47 = .ok (.istore 5, 2) := by decide +kernel
theorem dX3_sumUp_49 : decode cX3_sumUp 49 = .ok (.iload 5, 2) := by decide +kernel
theorem dX3_sumUp_51 : decode cX3_sumUp 51 = .ok (.bipush 6, 2) := by decide +kernel
theorem dX3_sumUp_53 : decode cX3_sumUp 53 = .ok (.if_icmp .ge 68, 3) := by decide +kernel
theorem dX3_sumUp_56 : decode cX3_sumUp 56 = .ok (.iload_n 3, 1) := by decide +kernel
theorem dX3_sumUp_57 : decode cX3_sumUp 57 = .ok (.bipush 6, 2) := by decide +kernel
theorem dX3_sumUp_59 : decode cX3_sumUp 59 = .ok (.imul, 1) := by decide +kernel
theorem dX3_sumUp_60 : decode cX3_sumUp 60 = .ok (.iload 5, 2) := by decide +kernel
theorem dX3_sumUp_62 : decode cX3_sumUp 62 = .ok (.iadd, 1) := by decide +kernel
theorem dX3_sumUp_63 : decode cX3_sumUp 63 = .ok (.istore 6, 2) := by decide +kernel
theorem dX3_sumUp_65 : decode cX3_sumUp 65 = .ok (.aload_n 0, 1) := by decide +kernel
theorem dX3_sumUp_66 : decode cX3_sumUp 66 = .ok (.dup, 1) := by decide +kernel
theorem dX3_sumUp_67 : decode cX3_sumUp 67 = .ok (.getfield 9, 3) := by decide +kernel
theorem dX3_sumUp_70 : decode cX3_sumUp 70 = .ok (.aload_n 0, 1) := by decide +kernel
theorem dX3_sumUp_71 : decode cX3_sumUp 71 = .ok (.getfield 25, 3) := by decide +kernel
theorem dX3_sumUp_74 : decode cX3_sumUp 74 = .ok (.iload 6, 2) := by decide +kernel
theorem dX3_sumUp_76 : decode cX3_sumUp 76 = .ok (.iaload, 1) := by decide +kernel
theorem dX3_sumUp_77 : decode cX3_sumUp 77 = .ok (.iadd, 1) := by decide +kernel
theorem dX3_sumUp_78 : decode cX3_sumUp 78 = .ok (.putfield 9, 3) := by decide +kernel
theorem dX3_sumUp_81 : decode cX3_sumUp 81 = .ok (.iload_n 2, 1) := by decide +kernel
theorem dX3_sumUp_82 : decode cX3_sumUp 82 = .ok (.aload_n 0, 1) := by decide +kernel
theorem dX3_sumUp_83 : decode cX3_sumUp 83 = .ok (.getfield 31, 3) := by decide +kernel
theorem dX3_sumUp_86 : decode cX3_sumUp 86 = .ok (.iload 6, 2) := by decide +kernel
theorem dX3_sumUp_88 : decode cX3_sumUp 88 = .ok (.iaload, 1) := by decide +kernel
theorem dX3_sumUp_89 : decode cX3_sumUp 89 = .ok (.ior, 1) := by decide +kernel
theorem dX3_sumUp_90 : decode cX3_sumUp 90 = .ok (.istore_n 2, 1) := by decide +kernel
theorem dX3_sumUp_91 : decode cX3_sumUp 91 = .ok (.iload 4, 2) := by decide +kernel
theorem dX3_sumUp_93 : decode cX3_sumUp 93 = .ok (.bipush 60, 2) := by decide +kernel
theorem dX3_sumUp_95 : decode cX3_sumUp 95 = .ok (.if_icmp .gt 20, 3) := by decide +kernel
theorem dX3_sumUp_98 : decode cX3_sumUp 98 = .ok (.aload_n 0, 1) := by decide +kernel
theorem dX3_sumUp_99 : decode cX3_sumUp 99 = .ok (.getfield 18, 3) := by decide +kernel
theorem dX3_sumUp_102 : decode cX3_sumUp 102 = .ok (.iload 4, 2) := by decide +kernel
theorem dX3_sumUp_104 : decode cX3_sumUp 104 = .ok (.dup2, 1) := by decide +kernel
theorem dX3_sumUp_105 : decode cX3_sumUp 105 = .ok (.iaload, 1) := by decide +kernel
theorem dX3_sumUp_106 : decode cX3_sumUp 106 = .ok (.aload_n 0, 1) := by decide +kernel
theorem dX3_sumUp_107 : decode cX3_sumUp 107 = .ok (.getfield 25, 3) := by decide +kernel
theorem dX3_sumUp_110 : decode cX3_sumUp 110 = .ok (.iload 6, 2) := by decide +kernel
theorem dX3_sumUp_112 : decode cX3_sumUp 112 = .ok (.iaload, 1) := by decide +kernel
theorem dX3_sumUp_113 : decode cX3_sumUp 113 = .ok (.iadd, 1) := by decide +kernel
theorem dX3_sumUp_114 : decode cX3_sumUp 114 = .ok (.iastore, 1) := by decide +kernel
theorem dX3_sumUp_115 : decode cX3_sumUp 115 = .ok (.iinc 5 1, 3) := by decide +kernel
theorem dX3_sumUp_118 : decode cX3_sumUp 118 = .ok (.goto (-69), 3) := by decide +kernel
theorem dX3_sumUp_121 : decode cX3_sumUp 121 = .ok (.iinc 3 1, 3) := by decide +kernel
theorem dX3_sumUp_124 : decode cX3_sumUp 124 = .ok (.goto (-94), 3) := by decide +kernel
theorem dX3_sumUp_127 : decode cX3_sumUp 127 = .ok (.aload_n 0, 1) := by decide +kernel
theorem dX3_sumUp_128 : decode cX3_sumUp 128 = .ok (.iload_n 2, 1) := by decide +kernel
theorem dX3_sumUp_129 : decode cX3_sumUp 129 = .ok (.invokestatic 98, 3) := by decide +kernel
theorem dX3_sumUp_132 : decode cX3_sumUp 132 = .ok (.putfield 15, 3) := by decide +kernel
theorem dX3_sumUp_135 : decode cX3_sumUp 135 = .ok (.return_, 1) := by decide +kernel
theorem dX3_halvesOf_0 : decode cX3_halvesOf 0 = .ok (.iconst 0, 1) := by decide +kernel
theorem dX3_halvesOf_1 : decode cX3_halvesOf 1 = .ok (.istore_n 3, 1) := by decide +kernel
theorem dX3_halvesOf_2 : decode cX3_halvesOf 2 = .ok (.iconst 0, 1) := by decide +kernel
theorem dX3_halvesOf_3 : decode cX3_halvesOf 3 = .ok (.istore 4, 2) := by decide +kernel
theorem dX3_halvesOf_5 : decode cX3_halvesOf 5 = .ok (.iload 4, 2) := by decide +kernel
theorem dX3_halvesOf_7 : decode cX3_halvesOf 7 = .ok (.aload_n 1, 1) := by decide +kernel
theorem dX3_halvesOf_8 : decode cX3_halvesOf 8 = .ok (.getfield 69, 3) := by decide +kernel
theorem dX3_halvesOf_11 : decode cX3_halvesOf 11 = .ok (.if_icmp .ge 34, 3) := by decide +kernel
theorem dX3_halvesOf_14 : decode cX3_halvesOf 14 = .ok (.iload_n 2, 1) := by decide +kernel
theorem dX3_halvesOf_15 : decode cX3_halvesOf 15 = .ok (.aload_n 0, 1) := by decide +kernel
theorem dX3_halvesOf_16 : decode cX3_halvesOf 16 = .ok (.getfield 22, 3) := by decide +kernel
theorem dX3_halvesOf_19 : decode cX3_halvesOf 19 = .ok (.iload 4, 2) := by decide +kernel
theorem dX3_halvesOf_21 : decode cX3_halvesOf 21 = .ok (.iaload, 1) := by decide +kernel
theorem dX3_halvesOf_22 : decode cX3_halvesOf 22 = .ok (.iand, 1) := by decide +kernel
theorem dX3_halvesOf_23 : decode cX3_halvesOf 23 = .ok (.ifCond .eq 16, 3) := by decide +kernel
theorem dX3_halvesOf_26 : decode cX3_halvesOf 26 = .ok (.iload_n 3, 1) := by decide +kernel
theorem dX3_halvesOf_27 : decode cX3_halvesOf 27 = .ok (.aload_n 1, 1) := by decide +kernel
theorem dX3_halvesOf_28 : decode cX3_halvesOf 28 = .ok (.getfield 72, 3) := by decide +kernel
theorem dX3_halvesOf_31 : decode cX3_halvesOf 31 = .ok (.iload 4, 2) := by decide +kernel
theorem dX3_halvesOf_33 : decode cX3_halvesOf 33 = .ok (.aaload, 1) := by decide +kernel
theorem dX3_halvesOf_34 : decode cX3_halvesOf 34 = .ok (.invokevirtual 76, 3) := by decide +kernel
theorem dX3_halvesOf_37 : decode cX3_halvesOf 37 = .ok (.iadd, 1) := by decide +kernel
theorem dX3_halvesOf_38 : decode cX3_halvesOf 38 = .ok (.istore_n 3, 1) := by decide +kernel
theorem dX3_halvesOf_39 : decode cX3_halvesOf 39 = .ok (.iinc 4 1, 3) := by decide +kernel
theorem dX3_halvesOf_42 : decode cX3_halvesOf 42 = .ok (.goto (-37), 3) := by decide +kernel
theorem dX3_halvesOf_45 : decode cX3_halvesOf 45 = .ok (.iload_n 3, 1) := by decide +kernel
theorem dX3_halvesOf_46 : decode cX3_halvesOf 46 = .ok (.ireturn, 1) := by decide +kernel
theorem dX3_onlyRoad_0 : decode cX3_onlyRoad 0 = .ok (.iconst 0, 1) := by decide +kernel
theorem dX3_onlyRoad_1 : decode cX3_onlyRoad 1 = .ok (.istore_n 1, 1) := by decide +kernel
theorem dX3_onlyRoad_2 : decode cX3_onlyRoad 2 = .ok (.iload_n 1, 1) := by decide +kernel
theorem dX3_onlyRoad_3 : decode cX3_onlyRoad 3 = .ok (.bipush 8, 2) := by decide +kernel
theorem dX3_onlyRoad_5 : decode cX3_onlyRoad 5 = .ok (.if_icmp .ge 18, 3) := by decide +kernel
theorem dX3_onlyRoad_8 : decode cX3_onlyRoad 8 = .ok (.iload_n 0, 1) := by decide +kernel
theorem dX3_onlyRoad_9 : decode cX3_onlyRoad 9 = .ok (.iconst 1, 1) := by decide +kernel
theorem dX3_onlyRoad_10 : decode cX3_onlyRoad 10 = .ok (.iload_n 1, 1) := by decide +kernel
theorem dX3_onlyRoad_11 : decode cX3_onlyRoad 11 = .ok (.ishl, 1) := by decide +kernel
theorem dX3_onlyRoad_12 : decode cX3_onlyRoad 12 = .ok (.if_icmp .ne 5, 3) := by decide +kernel
theorem dX3_onlyRoad_15 : decode cX3_onlyRoad 15 = .ok (.iload_n 1, 1) := by decide +kernel
theorem dX3_onlyRoad_16 : decode cX3_onlyRoad 16 = .ok (.ireturn, 1) := by decide +kernel
theorem dX3_onlyRoad_17 : decode cX3_onlyRoad 17 = .ok (.iinc 1 1, 3) := by decide +kernel
theorem dX3_onlyRoad_20 : decode cX3_onlyRoad 20 = .ok (.goto (-18), 3) := by decide +kernel
theorem dX3_onlyRoad_23 : decode cX3_onlyRoad 23 = .ok (.iconst (-1), 1) := by decide +kernel
theorem dX3_onlyRoad_24 : decode cX3_onlyRoad 24 = .ok (.ireturn, 1) := by decide +kernel
theorem dX4_init_0 : decode cX4_init 0 = .ok (.aload_n 0, 1) := by decide +kernel
theorem dX4_init_1 : decode cX4_init 1 = .ok (.invokespecial 5, 3) := by decide +kernel
theorem dX4_init_4 : decode cX4_init 4 = .ok (.aload_n 0, 1) := by decide +kernel
theorem dX4_init_5 : decode cX4_init 5 = .ok (.bipush 9, 2) := by decide +kernel
theorem dX4_init_7 : decode cX4_init 7 = .ok (.newarray .int, 2) := by decide +kernel
theorem dX4_init_9 : decode cX4_init 9 = .ok (.putfield 11, 3) := by decide +kernel
theorem dX4_init_12 : decode cX4_init 12 = .ok (.aload_n 0, 1) := by decide +kernel
theorem dX4_init_13 : decode cX4_init 13 = .ok (.bipush 9, 2) := by decide +kernel
theorem dX4_init_15 : decode cX4_init 15 = .ok (.newarray .int, 2) := by decide +kernel
theorem dX4_init_17 : decode cX4_init 17 = .ok (.putfield 15, 3) := by decide +kernel
theorem dX4_init_20 : decode cX4_init 20 = .ok (.aload_n 0, 1) := by decide +kernel
theorem dX4_init_21 : decode cX4_init 21 = .ok (.bipush 9, 2) := by decide +kernel
theorem dX4_init_23 : decode cX4_init 23 = .ok (.newarray .int, 2) := by decide +kernel
theorem dX4_init_25 : decode cX4_init 25 = .ok (.putfield 18, 3) := by decide +kernel
theorem dX4_init_28 : decode cX4_init 28 = .ok (.aload_n 0, 1) := by decide +kernel
theorem dX4_init_29 : decode cX4_init 29 = .ok (.bipush 9, 2) := by decide +kernel
theorem dX4_init_31 : decode cX4_init 31 = .ok (.newarray .int, 2) := by decide +kernel
theorem dX4_init_33 : decode cX4_init 33 = .ok (.putfield 21, 3) := by decide +kernel
theorem dX4_init_36 : decode cX4_init 36 = .ok (.aload_n 0, 1) := by decide +kernel
theorem dX4_init_37 : decode cX4_init 37 = .ok (.sipush 512, 3) := by decide +kernel
theorem dX4_init_40 : decode cX4_init 40 = .ok (.newarray .int, 2) := by decide +kernel
theorem dX4_init_42 : decode cX4_init 42 = .ok (.putfield 24, 3) := by decide +kernel
theorem dX4_init_45 : decode cX4_init 45 = .ok (.aload_n 0, 1) := by decide +kernel
theorem dX4_init_46 : decode cX4_init 46 = .ok (.sipush 3072, 3) := by decide +kernel
theorem dX4_init_49 : decode cX4_init 49 = .ok (.newarray .int, 2) := by decide +kernel
theorem dX4_init_51 : decode cX4_init 51 = .ok (.putfield 27, 3) := by decide +kernel
theorem dX4_init_54 : decode cX4_init 54 = .ok (.aload_n 0, 1) := by decide +kernel
theorem dX4_init_55 : decode cX4_init 55 = .ok (.iconst 0, 1) := by decide +kernel
theorem dX4_init_56 : decode cX4_init 56 = .ok (.putfield 30, 3) := by decide +kernel
theorem dX4_init_59 : decode cX4_init 59 = .ok (.aload_n 0, 1) := by decide +kernel
theorem dX4_init_60 : decode cX4_init 60 = .ok (.iconst 1, 1) := by decide +kernel
theorem dX4_init_61 : decode cX4_init 61 = .ok (.putfield 34, 3) := by decide +kernel
theorem dX4_init_64 : decode cX4_init 64 = .ok (.aload_n 0, 1) := by decide +kernel
theorem dX4_init_65 : decode cX4_init 65 = .ok (.iconst 0, 1) := by decide +kernel
theorem dX4_init_66 : decode cX4_init 66 = .ok (.putfield 37, 3) := by decide +kernel
theorem dX4_init_69 : decode cX4_init 69 = .ok (.return_, 1) := by decide +kernel
theorem dX4_harmOf_0 : decode cX4_harmOf 0 = .ok (.iload_n 0, 1) := by decide +kernel
theorem dX4_harmOf_1 : decode cX4_harmOf 1 = .ok (.bipush 11, 2) := by decide +kernel
theorem dX4_harmOf_3 : decode cX4_harmOf 3 = .ok (.ishr, 1) := by decide +kernel
theorem dX4_harmOf_4 : decode cX4_harmOf 4 = .ok (.ireturn, 1) := by decide +kernel
theorem dX4_walksOf_0 : decode cX4_walksOf 0 = .ok (.iload_n 0, 1) := by decide +kernel
theorem dX4_walksOf_1 : decode cX4_walksOf 1 = .ok (.iconst 4, 1) := by decide +kernel
theorem dX4_walksOf_2 : decode cX4_walksOf 2 = .ok (.ishr, 1) := by decide +kernel
theorem dX4_walksOf_3 : decode cX4_walksOf 3 = .ok (.bipush 127, 2) := by decide +kernel
theorem dX4_walksOf_5 : decode cX4_walksOf 5 = .ok (.iand, 1) := by decide +kernel
theorem dX4_walksOf_6 : decode cX4_walksOf 6 = .ok (.ireturn, 1) := by decide +kernel
theorem dX4_firstOf_0 : decode cX4_firstOf 0 = .ok (.iload_n 0, 1) := by decide +kernel
theorem dX4_firstOf_1 : decode cX4_firstOf 1 = .ok (.ifCond .ne 7, 3) := by decide +kernel
theorem dX4_firstOf_4 : decode cX4_firstOf 4 = .ok (.iconst (-1), 1) := by decide +kernel
theorem dX4_firstOf_5 : decode cX4_firstOf 5 = .ok (.goto 7, 3) := by decide +kernel
theorem dX4_firstOf_8 : decode cX4_firstOf 8 = .ok (.iload_n 0, 1) := by decide +kernel
theorem dX4_firstOf_9 : decode cX4_firstOf 9 = .ok (.bipush 15, 2) := by decide +kernel
theorem dX4_firstOf_11 : decode cX4_firstOf 11 = .ok (.iand, 1) := by decide +kernel
theorem dX4_firstOf_12 : decode cX4_firstOf 12 = .ok (.ireturn, 1) := by decide +kernel
theorem dX4_leastWay_0 : decode cX4_leastWay 0 = .ok (.aload_n 0, 1) := by decide +kernel
theorem dX4_leastWay_1 : decode cX4_leastWay 1 = .ok (.aload_n 1, 1) := by decide +kernel
theorem dX4_leastWay_2 : decode cX4_leastWay 2 = .ok (.aload_n 2, 1) := by decide +kernel
theorem dX4_leastWay_3 : decode cX4_leastWay 3 = .ok (.iload_n 3, 1) := by decide +kernel
theorem dX4_leastWay_4 : decode cX4_leastWay 4 = .ok (.invokevirtual 40, 3) := by decide +kernel
theorem dX4_leastWay_7 : decode cX4_leastWay 7 = .ok (.aload_n 0, 1) := by decide +kernel
theorem dX4_leastWay_8 : decode cX4_leastWay 8 = .ok (.bipush 99, 2) := by decide +kernel
theorem dX4_leastWay_10 : decode cX4_leastWay 10 = .ok (.aload_n 2, 1) := by decide +kernel
theorem dX4_leastWay_11 : decode cX4_leastWay 11 = .ok (.getfield 44, 3) := by decide +kernel
theorem dX4_leastWay_14 : decode cX4_leastWay 14 = .ok (.isub, 1) := by decide +kernel
theorem dX4_leastWay_15 : decode cX4_leastWay 15 = .ok (.putfield 37, 3) := by decide +kernel
theorem dX4_leastWay_18 : decode cX4_leastWay 18 = .ok (.aload_n 0, 1) := by decide +kernel
theorem dX4_leastWay_19 : decode cX4_leastWay 19 = .ok (.aload_n 2, 1) := by decide +kernel
theorem dX4_leastWay_20 : decode cX4_leastWay 20 = .ok (.getfield 49, 3) := by decide +kernel
theorem dX4_leastWay_23 : decode cX4_leastWay 23 = .ok (.aload_n 1, 1) := by decide +kernel
theorem dX4_leastWay_24 : decode cX4_leastWay 24 = .ok (.getfield 52, 3) := by decide +kernel
theorem dX4_leastWay_27 : decode cX4_leastWay 27 = .ok (.aload_n 2, 1) := by decide +kernel
theorem dX4_leastWay_28 : decode cX4_leastWay 28 = .ok (.getfield 57, 3) := by decide +kernel
theorem dX4_leastWay_31 : decode cX4_leastWay 31 = .ok (.isub, 1) := by decide +kernel
theorem dX4_leastWay_32 : decode cX4_leastWay 32 = .ok (.invokevirtual 60, 3) := by decide +kernel
theorem dX4_leastWay_35 : decode cX4_leastWay 35 = .ok (.ireturn, 1) := by decide +kernel
theorem dX4_leastBar_0 : decode cX4_leastBar 0 = .ok (.aload_n 0, 1) := by decide +kernel
theorem dX4_leastBar_1 : decode cX4_leastBar 1 = .ok (.aload_n 1, 1) := by decide +kernel
theorem dX4_leastBar_2 : decode cX4_leastBar 2 = .ok (.aload_n 2, 1) := by decide +kernel
theorem dX4_leastBar_3 : decode cX4_leastBar 3 = .ok (.iconst (-1), 1) := by decide +kernel
theorem dX4_leastBar_4 : decode cX4_leastBar 4 = .ok (.invokevirtual 64, 3) := by decide +kernel
theorem dX4_leastBar_7 : decode cX4_leastBar 7 = .ok (.ldc 68, 2) := by decide +kernel
theorem dX4_leastBar_9 : decode cX4_leastBar 9 = .ok (.if_icmp .ne 5, 3) := by decide +kernel
theorem dX4_leastBar_12 : decode cX4_leastBar 12 = .ok (.iconst (-1), 1) := by decide +kernel
theorem dX4_leastBar_13 : decode cX4_leastBar 13 = .ok (.ireturn, 1) := by decide +kernel
theorem dX4_leastBar_14 : decode cX4_leastBar 14 = .ok (.iconst 0, 1) := by decide +kernel
theorem dX4_leastBar_15 : decode cX4_leastBar 15 = .ok (.istore_n 3, 1) := by decide +kernel
theorem dX4_leastBar_16 : decode cX4_leastBar 16 = .ok (.iload_n 3, 1) := by decide +kernel
theorem dX4_leastBar_17 : decode cX4_leastBar 17 = .ok (.aload_n 1, 1) := by decide +kernel
theorem dX4_leastBar_18 : decode cX4_leastBar 18 = .ok (.getfield 69, 3) := by decide +kernel
theorem dX4_leastBar_21 : decode cX4_leastBar 21 = .ok (.if_icmp .ge 23, 3) := by decide +kernel
theorem dX4_leastBar_24 : decode cX4_leastBar 24 = .ok (.aload_n 0, 1) := by decide +kernel
theorem dX4_leastBar_25 : decode cX4_leastBar 25 = .ok (.aload_n 1, 1) := by decide +kernel
theorem dX4_leastBar_26 : decode cX4_leastBar 26 = .ok (.aload_n 2, 1) := by decide +kernel
theorem dX4_leastBar_27 : decode cX4_leastBar 27 = .ok (.iload_n 3, 1) := by decide +kernel
theorem dX4_leastBar_28 : decode cX4_leastBar 28 = .ok (.invokevirtual 64, 3) := by decide +kernel
theorem dX4_leastBar_31 : decode cX4_leastBar 31 = .ok (.ldc 68, 2) := by decide +kernel
theorem dX4_leastBar_33 : decode cX4_leastBar 33 = .ok (.if_icmp .ne 5, 3) := by decide +kernel
theorem dX4_leastBar_36 : decode cX4_leastBar 36 = .ok (.iload_n 3, 1) := by decide +kernel
theorem dX4_leastBar_37 : decode cX4_leastBar 37 = .ok (.ireturn, 1) := by decide +kernel
theorem dX4_leastBar_38 : decode cX4_leastBar 38 = .ok (.iinc 3 1, 3) := by decide +kernel
theorem dX4_leastBar_41 : decode cX4_leastBar 41 = .ok (.goto (-25), 3) := by decide +kernel
theorem dX4_leastBar_44 : decode cX4_leastBar 44 = .ok (.iconst (-1), 1) := by decide +kernel
theorem dX4_leastBar_45 : decode cX4_leastBar 45 = .ok (.ireturn, 1) := by decide +kernel
theorem dX4_mostCounted_0 : decode cX4_mostCounted 0 = .ok (.aload_n 0, 1) := by decide +kernel
theorem dX4_mostCounted_1 : decode cX4_mostCounted 1 = .ok (.aload_n 1, 1) := by decide +kernel
theorem dX4_mostCounted_2 : decode cX4_mostCounted 2 = .ok (.aload_n 2, 1) := by decide +kernel
theorem dX4_mostCounted_3 : decode cX4_mostCounted 3 = .ok (.iconst (-1), 1) := by decide +kernel
theorem dX4_mostCounted_4 : decode cX4_mostCounted 4 = .ok (.invokevirtual 40, 3) := by decide +kernel
theorem dX4_mostCounted_7 : decode cX4_mostCounted 7 = .ok (.aload_n 0, 1) := by decide +kernel
theorem dX4_mostCounted_8 : decode cX4_mostCounted 8 = .ok (.iload_n 3, 1) := by decide +kernel
theorem dX4_mostCounted_9 : decode cX4_mostCounted 9 = .ok (.bipush 99, 2) := by decide +kernel
theorem dX4_mostCounted_11 : decode cX4_mostCounted 11 = .ok (.aload_n 2, 1) := by decide +kernel
theorem dX4_mostCounted_12 : decode cX4_mostCounted 12 = .ok (.getfield 44, 3) := by decide +kernel
theorem dX4_mostCounted_15 : decode cX4_mostCounted 15 = .ok (.isub, 1) := by decide +kernel
theorem dX4_mostCounted_16 : decode cX4_mostCounted 16 = .ok (.invokestatic 70, 3) := by decide +kernel
theorem dX4_mostCounted_19 : decode cX4_mostCounted 19 = .ok (.putfield 37, 3) := by decide +kernel
theorem dX4_mostCounted_22 : decode cX4_mostCounted 22 = .ok (.aload_n 0, 1) := by decide +kernel
theorem dX4_mostCounted_23 : decode cX4_mostCounted 23 = .ok (.aload_n 2, 1) := by decide +kernel
theorem dX4_mostCounted_24 : decode cX4_mostCounted 24 = .ok (.getfield 49, 3) := by decide +kernel
theorem dX4_mostCounted_27 : decode cX4_mostCounted 27 = .ok (.ldc 68, 2) := by decide +kernel
theorem dX4_mostCounted_29 : decode cX4_mostCounted 29 = .ok (.invokevirtual 75, 3) := by decide +kernel
theorem dX4_mostCounted_32 : decode cX4_mostCounted 32 = .ok (.iconst 0, 1) := by decide +kernel
theorem dX4_mostCounted_33 : decode cX4_mostCounted 33 = .ok (.istore 4, 2) := by decide +kernel
theorem dX4_mostCounted_35 : decode cX4_mostCounted 35 = .ok (.iconst 0, 1) := by decide +kernel
theorem dX4_mostCounted_36 : decode cX4_mostCounted 36 = .ok (.istore 5, 2) := by decide +kernel
theorem dX4_mostCounted_38 : decode cX4_mostCounted 38 = .ok (.iload 5, 2) := by decide +kernel
theorem dX4_mostCounted_40 : decode cX4_mostCounted 40 = .ok (.aload_n 0, 1) := by decide +kernel
theorem dX4_mostCounted_41 : decode cX4_mostCounted 41 = .ok (.getfield 34, 3) := by decide +kernel
theorem dX4_mostCounted_44 : decode cX4_mostCounted 44 = .ok (.if_icmp .ge 39, 3) := by decide +kernel
theorem dX4_mostCounted_47 : decode cX4_mostCounted 47 = .ok (.aload_n 0, 1) := by decide +kernel
theorem dX4_mostCounted_48 : decode cX4_mostCounted 48 = .ok (.getfield 24, 3) := by decide +kernel
theorem dX4_mostCounted_51 : decode cX4_mostCounted 51 = .ok (.iload 5, 2) := by decide +kernel
theorem dX4_mostCounted_53 : decode cX4_mostCounted 53 = .ok (.iaload, 1) := by decide +kernel
theorem dX4_mostCounted_54 : decode cX4_mostCounted 54 = .ok (.iload 4, 2) := by decide +kernel
theorem dX4_mostCounted_56 : decode cX4_mostCounted 56 = .ok (.if_icmp .le 21, 3) := by decide +kernel
theorem dX4_mostCounted_59 : decode cX4_mostCounted 59 = .ok (.aload_n 0, 1) := by decide +kernel
theorem dX4_mostCounted_60 : decode cX4_mostCounted 60 = .ok (.iload 5, 2) := by decide +kernel
theorem dX4_mostCounted_62 : decode cX4_mostCounted 62 = .ok (.invokevirtual 79, 3) := by decide +kernel
theorem dX4_mostCounted_65 : decode cX4_mostCounted 65 = .ok (.ifCond .eq 12, 3) := by decide +kernel
theorem dX4_mostCounted_68 : decode cX4_mostCounted 68 = .ok (.aload_n 0, 1) := by decide +kernel
theorem dX4_mostCounted_69 : decode cX4_mostCounted 69 = .ok (.getfield 24, 3) := by decide +kernel
theorem dX4_mostCounted_72 : decode cX4_mostCounted 72 = .ok (.iload 5, 2) := by decide +kernel
theorem dX4_mostCounted_74 : decode cX4_mostCounted 74 = .ok (.iaload, 1) := by decide +kernel
theorem dX4_mostCounted_75 : decode cX4_mostCounted 75 = .ok (.istore 4, 2) := by decide +kernel
theorem dX4_mostCounted_77 : decode cX4_mostCounted 77 = .ok (.iinc 5 1, 3) := by decide +kernel
theorem dX4_mostCounted_80 : decode cX4_mostCounted 80 = .ok (.goto (-42), 3) := by decide +kernel
theorem dX4_mostCounted_83 : decode cX4_mostCounted 83 = .ok (.aload_n 2, 1) := by decide +kernel
theorem dX4_mostCounted_84 : decode cX4_mostCounted 84 = .ok (.getfield 57, 3) := by decide +kernel
theorem dX4_mostCounted_87 : decode cX4_mostCounted 87 = .ok (.iload 4, 2) := by decide +kernel
theorem dX4_mostCounted_89 : decode cX4_mostCounted 89 = .ok (.iadd, 1) := by decide +kernel
theorem dX4_mostCounted_90 : decode cX4_mostCounted 90 = .ok (.ireturn, 1) := by decide +kernel
theorem dX4_bestBridge_0 : decode cX4_bestBridge 0 = .ok (.aload_n 0, 1) := by decide +kernel
theorem dX4_bestBridge_1 : decode cX4_bestBridge 1 = .ok (.aload_n 1, 1) := by decide +kernel
theorem dX4_bestBridge_2 : decode cX4_bestBridge 2 = .ok (.aload_n 2, 1) := by decide +kernel
theorem dX4_bestBridge_3 : decode cX4_bestBridge 3 = .ok (.iconst (-1), 1) := by decide +kernel
theorem dX4_bestBridge_4 : decode cX4_bestBridge 4 = .ok (.invokevirtual 64, 3) := by decide +kernel
theorem dX4_bestBridge_7 : decode cX4_bestBridge 7 = .ok (.istore_n 3, 1) := by decide +kernel
theorem dX4_bestBridge_8 : decode cX4_bestBridge 8 = .ok (.iload_n 3, 1) := by decide +kernel
theorem dX4_bestBridge_9 : decode cX4_bestBridge 9 = .ok (.ldc 68, 2) := by decide +kernel
theorem dX4_bestBridge_11 : decode cX4_bestBridge 11 = .ok (.if_icmp .eq 13, 3) := by decide +kernel
theorem dX4_bestBridge_14 : decode cX4_bestBridge 14 = .ok (.aload_n 0, 1) := by decide +kernel
theorem dX4_bestBridge_15 : decode cX4_bestBridge 15 = .ok (.iload_n 3, 1) := by decide +kernel
theorem dX4_bestBridge_16 : decode cX4_bestBridge 16 = .ok (.invokestatic 83, 3) := by decide +kernel
theorem dX4_bestBridge_19 : decode cX4_bestBridge 19 = .ok (.iconst 1, 1) := by decide +kernel
theorem dX4_bestBridge_20 : decode cX4_bestBridge 20 = .ok (.isub, 1) := by decide +kernel
theorem dX4_bestBridge_21 : decode cX4_bestBridge 21 = .ok (.putfield 37, 3) := by decide +kernel
theorem dX4_bestBridge_24 : decode cX4_bestBridge 24 = .ok (.aload_n 1, 1) := by decide +kernel
theorem dX4_bestBridge_25 : decode cX4_bestBridge 25 = .ok (.getfield 52, 3) := by decide +kernel
theorem dX4_bestBridge_28 : decode cX4_bestBridge 28 = .ok (.aload_n 2, 1) := by decide +kernel
theorem dX4_bestBridge_29 : decode cX4_bestBridge 29 = .ok (.getfield 57, 3) := by decide +kernel
theorem dX4_bestBridge_32 : decode cX4_bestBridge 32 = .ok (.isub, 1) := by decide +kernel
theorem dX4_bestBridge_33 : decode cX4_bestBridge 33 = .ok (.istore 4, 2) := by decide +kernel
theorem dX4_bestBridge_35 : decode cX4_bestBridge 35 = .ok (.iconst (-1), 1) := by decide +kernel
theorem dX4_bestBridge_36 : decode cX4_bestBridge 36 = .ok (.istore 5, 2) := by decide +kernel
theorem dX4_bestBridge_38 : decode cX4_bestBridge 38 = .ok (.aload_n 0, 1) := by decide +kernel
theorem dX4_bestBridge_39 : decode cX4_bestBridge 39 = .ok (.getfield 30, 3) := by decide +kernel
theorem dX4_bestBridge_42 : decode cX4_bestBridge 42 = .ok (.istore 6, 2) := by decide +kernel
theorem dX4_bestBridge_44 : decode cX4_bestBridge 44 = .ok (.aload_n 0, 1) := by decide +kernel
theorem dX4_bestBridge_45 : decode cX4_bestBridge 45 = .ok (.iconst 0, 1) := by decide +kernel
theorem dX4_bestBridge_46 : decode cX4_bestBridge 46 = .ok (.iconst 0, 1) := by decide +kernel
theorem dX4_bestBridge_47 : decode cX4_bestBridge 47 = .ok (.iconst 1, 1) := by decide +kernel
theorem dX4_bestBridge_48 : decode cX4_bestBridge 48 = .ok (.iconst 2, 1) := by decide +kernel
theorem dX4_bestBridge_49 : decode cX4_bestBridge 49 = .ok (.invokevirtual 87, 3) := by decide +kernel
theorem dX4_bestBridge_52 : decode cX4_bestBridge 52 = .ok (.iconst 0, 1) := by decide +kernel
theorem dX4_bestBridge_53 : decode cX4_bestBridge 53 = .ok (.istore 7, 2) := by decide +kernel
theorem dX4_bestBridge_55 : decode cX4_bestBridge 55 = .ok (.iload 7, 2) := by decide +kernel
theorem dX4_bestBridge_57 : decode cX4_bestBridge 57 = .ok (.bipush 6, 2) := by decide +kernel
theorem dX4_bestBridge_59 : decode cX4_bestBridge 59 = .ok (.if_icmp .ge 93, 3) := by decide +kernel
theorem dX4_bestBridge_62 : decode cX4_bestBridge 62 = .ok (.iload 7, 2) := by decide +kernel
theorem dX4_bestBridge_64 : decode cX4_bestBridge 64 = .ok (.iconst 1, 1) := by decide +kernel
theorem dX4_bestBridge_65 : decode cX4_bestBridge 65 = .ok (.iadd, 1) := by decide +kernel
theorem dX4_bestBridge_66 : decode cX4_bestBridge 66 = .ok (.istore 8, 2) := by decide +kernel
theorem dX4_bestBridge_68 : decode cX4_bestBridge 68 = .ok (.iload 8, 2) := by decide +kernel
theorem dX4_bestBridge_70 : decode cX4_bestBridge 70 = .ok (.bipush 6, 2) := by decide +kernel
theorem dX4_bestBridge_72 : decode cX4_bestBridge 72 = .ok (.if_icmp .ge 74, 3) := by decide +kernel
theorem dX4_bestBridge_75 : decode cX4_bestBridge 75 = .ok (.aload_n 0, 1) := by decide +kernel
theorem dX4_bestBridge_76 : decode cX4_bestBridge 76 = .ok (.getfield 37, 3) := by decide +kernel
theorem dX4_bestBridge_79 : decode cX4_bestBridge 79 = .ok (.ifCond .le 67, 3) := by decide +kernel
theorem dX4_bestBridge_82 : decode cX4_bestBridge 82 = .ok (.aload_n 0, 1) := by decide +kernel
theorem dX4_bestBridge_83 : decode cX4_bestBridge 83 = .ok (.getfield 11, 3) := by decide +kernel
theorem dX4_bestBridge_86 : decode cX4_bestBridge 86 = .ok (.iload 6, 2) := by decide +kernel
theorem dX4_bestBridge_88 : decode cX4_bestBridge 88 = .ok (.iload 7, 2) := by decide +kernel
theorem dX4_bestBridge_90 : decode cX4_bestBridge 90 = .ok (.iastore, 1) := by decide +kernel
theorem dX4_bestBridge_91 : decode cX4_bestBridge 91 = .ok (.aload_n 0, 1) := by decide +kernel
theorem dX4_bestBridge_92 : decode cX4_bestBridge 92 = .ok (.getfield 15, 3) := by decide +kernel
theorem dX4_bestBridge_95 : decode cX4_bestBridge 95 = .ok (.iload 6, 2) := by decide +kernel
theorem dX4_bestBridge_97 : decode cX4_bestBridge 97 = .ok (.iload 8, 2) := by decide +kernel
theorem dX4_bestBridge_99 : decode cX4_bestBridge 99 = .ok (.iastore, 1) := by decide +kernel
theorem dX4_bestBridge_100 : decode cX4_bestBridge 100 = .ok (.aload_n 0, 1) := by decide +kernel
theorem dX4_bestBridge_101 : decode cX4_bestBridge 101 = .ok (.aload_n 2, 1) := by decide +kernel
theorem dX4_bestBridge_102 : decode cX4_bestBridge 102 = .ok (.getfield 49, 3) := by decide +kernel
theorem dX4_bestBridge_105 : decode cX4_bestBridge 105 = .ok (.iload 4, 2) := by decide +kernel
theorem dX4_bestBridge_107 : decode cX4_bestBridge 107 = .ok (.invokevirtual 60, 3) := by decide +kernel
theorem dX4_bestBridge_110 : decode cX4_bestBridge 110 = .ok (.istore 9, 2) := by decide +kernel
theorem dX4_bestBridge_112 : decode cX4_bestBridge 112 = .ok (.iload 9, 2) := by decide +kernel
theorem dX4_bestBridge_114 : decode cX4_bestBridge 114 = .ok (.ldc 68, 2) := by decide +kernel
theorem dX4_bestBridge_116 : decode cX4_bestBridge 116 = .ok (.if_icmp .eq 24, 3) := by decide +kernel
theorem dX4_bestBridge_119 : decode cX4_bestBridge 119 = .ok (.bipush 6, 2) := by decide +kernel
theorem dX4_bestBridge_121 : decode cX4_bestBridge 121 = .ok (.iload 7, 2) := by decide +kernel
theorem dX4_bestBridge_123 : decode cX4_bestBridge 123 = .ok (.imul, 1) := by decide +kernel
theorem dX4_bestBridge_124 : decode cX4_bestBridge 124 = .ok (.iload 8, 2) := by decide +kernel
theorem dX4_bestBridge_126 : decode cX4_bestBridge 126 = .ok (.iadd, 1) := by decide +kernel
theorem dX4_bestBridge_127 : decode cX4_bestBridge 127 = .ok (.istore 5, 2) := by decide +kernel
theorem dX4_bestBridge_129 : decode cX4_bestBridge 129 = .ok (.aload_n 0, 1) := by decide +kernel
theorem dX4_bestBridge_130 : decode cX4_bestBridge 130 = .ok (.iload 9, 2) := by decide +kernel
theorem dX4_bestBridge_132 : decode cX4_bestBridge 132 = .ok (.invokestatic 83, 3) := by decide +kernel
theorem dX4_bestBridge_135 : decode cX4_bestBridge 135 = .ok (.iconst 1, 1) := by decide +kernel
theorem dX4_bestBridge_136 : decode cX4_bestBridge 136 = .ok (.isub, 1) := by decide +kernel
theorem dX4_bestBridge_137 : decode cX4_bestBridge 137 = .ok (.putfield 37, 3) := by decide +kernel
theorem dX4_bestBridge_140 : decode cX4_bestBridge 140 = .ok (.iinc 8 1, 3) := by decide +kernel
theorem dX4_bestBridge_143 : decode cX4_bestBridge 143 = .ok (.goto (-75), 3) := by decide +kernel
theorem dX4_bestBridge_146 : decode cX4_bestBridge 146 = .ok (.iinc 7 1, 3) := by decide +kernel
theorem dX4_bestBridge_149 : decode cX4_bestBridge 149 = .ok (.goto (-94), 3) := by decide +kernel
theorem dX4_bestBridge_152 : decode cX4_bestBridge 152 = .ok (.iload 5, 2) := by decide +kernel
theorem dX4_bestBridge_154 : decode cX4_bestBridge 154 = .ok (.ireturn, 1) := by decide +kernel
theorem dX4_takeRoads_0 : decode cX4_takeRoads 0 = .ok (.aload_n 0, 1) := by decide +kernel
theorem dX4_takeRoads_1 : decode cX4_takeRoads 1 = .ok (.iconst 0, 1) := by decide +kernel
theorem dX4_takeRoads_2 : decode cX4_takeRoads 2 = .ok (.putfield 30, 3) := by decide +kernel
theorem dX4_takeRoads_5 : decode cX4_takeRoads 5 = .ok (.aload_n 0, 1) := by decide +kernel
theorem dX4_takeRoads_6 : decode cX4_takeRoads 6 = .ok (.iconst 1, 1) := by decide +kernel
theorem dX4_takeRoads_7 : decode cX4_takeRoads 7 = .ok (.putfield 34, 3) := by decide +kernel
theorem dX4_takeRoads_10 : decode cX4_takeRoads 10 = .ok (.iconst 0, 1) := by decide +kernel
theorem dX4_takeRoads_11 : decode cX4_takeRoads 11 = .ok (.istore 4, 2) := by decide +kernel
theorem dX4_takeRoads_13 : decode cX4_takeRoads 13 = .ok (.iload 4, 2) := by decide +kernel
theorem dX4_takeRoads_15 : decode cX4_takeRoads 15 = .ok (.aload_n 1, 1) := by decide +kernel
theorem dX4_takeRoads_16 : decode cX4_takeRoads 16 = .ok (.getfield 69, 3) := by decide +kernel
theorem dX4_takeRoads_19 : decode cX4_takeRoads 19 = .ok (.if_icmp .ge 61, 3) := by decide +kernel
theorem dX4_takeRoads_22 : decode cX4_takeRoads 22 = .ok (.aload_n 1, 1) := by decide +kernel
theorem dX4_takeRoads_23 : decode cX4_takeRoads 23 = .ok (.getfield 91, 3) := by decide +kernel
theorem dX4_takeRoads_26 : decode cX4_takeRoads 26 = .ok (.iload 4, 2) := by decide +kernel
theorem dX4_takeRoads_28 : decode cX4_takeRoads 28 = .ok (.aaload, 1) := by decide +kernel
theorem dX4_takeRoads_29 : decode cX4_takeRoads 29 = .ok (.astore 5, 2) := by decide +kernel
theorem dX4_takeRoads_31 : decode cX4_takeRoads 31 = .ok (.iload 4, 2) := by decide +kernel
theorem dX4_takeRoads_33 : decode cX4_takeRoads 33 = .ok (.iload_n 3, 1) := by decide +kernel
theorem dX4_takeRoads_34 : decode cX4_takeRoads 34 = .ok (.if_icmp .eq 40, 3) := by decide +kernel
theorem dX4_takeRoads_37 : decode cX4_takeRoads 37 = .ok (.aload_n 0, 1) := by decide +kernel
theorem dX4_takeRoads_38 : decode cX4_takeRoads 38 = .ok (.aload 5, 2) := by decide +kernel
theorem dX4_takeRoads_40 : decode cX4_takeRoads 40 = .ok (.getfield 95, 3) := by decide +kernel
theorem dX4_takeRoads_43 : decode cX4_takeRoads 43 = .ok (.aload 5, 2) := by decide +kernel
theorem dX4_takeRoads_45 : decode cX4_takeRoads 45 = .ok (.getfield 99, 3) := by decide +kernel
theorem dX4_takeRoads_48 : decode cX4_takeRoads 48 = .ok (.aload 5, 2) := by decide +kernel
theorem dX4_takeRoads_50 : decode cX4_takeRoads 50 = .ok (.getfield 101, 3) := by decide +kernel
theorem dX4_takeRoads_53 : decode cX4_takeRoads 53 = .ok (.aload_n 2, 1) := by decide +kernel
theorem dX4_takeRoads_54 : decode cX4_takeRoads 54 = .ok (.aload 5, 2) := by decide +kernel
theorem dX4_takeRoads_56 : decode cX4_takeRoads 56 = .ok (.invokevirtual 103, 3) := by decide +kernel
theorem dX4_takeRoads_59 : decode cX4_takeRoads 59 = .ok (.ifCond .eq 11, 3) := by decide +kernel
theorem dX4_takeRoads_62 : decode cX4_takeRoads 62 = .ok (.aload 5, 2) := by decide +kernel
theorem dX4_takeRoads_64 : decode cX4_takeRoads 64 = .ok (.invokevirtual 107, 3) := by decide +kernel
theorem dX4_takeRoads_67 : decode cX4_takeRoads 67 = .ok (.goto 4, 3) := by decide +kernel
theorem dX4_takeRoads_70 : decode cX4_takeRoads 70 = .ok (.iconst 0, 1) := by decide +kernel
theorem dX4_takeRoads_71 : decode cX4_takeRoads 71 = .ok (.invokevirtual 87, 3) := by decide +kernel
theorem dX4_takeRoads_74 : decode cX4_takeRoads 74 = .ok (.iinc 4 1, 3) := by decide +kernel
theorem dX4_takeRoads_77 : decode cX4_takeRoads 77 = .ok (.goto (-64), 3) := by decide +kernel
theorem dX4_takeRoads_80 : decode cX4_takeRoads 80 = .ok (.return_, 1) := by decide +kernel
theorem dX4_addRoad_0 : decode cX4_addRoad 0 = .ok (.aload_n 0, 1) := by decide +kernel
theorem dX4_addRoad_1 : decode cX4_addRoad 1 = .ok (.getfield 30, 3) := by decide +kernel
theorem dX4_addRoad_4 : decode cX4_addRoad 4 = .ok (.bipush 9, 2) := by decide +kernel
theorem dX4_addRoad_6 : decode cX4_addRoad 6 = .ok (.if_icmp .lt 4, 3) := by decide +kernel
theorem dX4_addRoad_9 : decode cX4_addRoad 9 = .ok (.return_, 1) := by decide +kernel
theorem dX4_addRoad_10 : decode cX4_addRoad 10 = .ok (.aload_n 0, 1) := by decide +kernel
theorem dX4_addRoad_11 : decode cX4_addRoad 11 = .ok (.getfield 11, 3) := by decide +kernel
theorem dX4_addRoad_14 : decode cX4_addRoad 14 = .ok (.aload_n 0, 1) := by decide +kernel
theorem dX4_addRoad_15 : decode cX4_addRoad 15 = .ok (.getfield 30, 3) := by decide +kernel
theorem dX4_addRoad_18 : decode cX4_addRoad 18 = .ok (.iload_n 1, 1) := by decide +kernel
theorem dX4_addRoad_19 : decode cX4_addRoad 19 = .ok (.iastore, 1) := by decide +kernel
theorem dX4_addRoad_20 : decode cX4_addRoad 20 = .ok (.aload_n 0, 1) := by decide +kernel
theorem dX4_addRoad_21 : decode cX4_addRoad 21 = .ok (.getfield 15, 3) := by decide +kernel
theorem dX4_addRoad_24 : decode cX4_addRoad 24 = .ok (.aload_n 0, 1) := by decide +kernel
theorem dX4_addRoad_25 : decode cX4_addRoad 25 = .ok (.getfield 30, 3) := by decide +kernel
theorem dX4_addRoad_28 : decode cX4_addRoad 28 = .ok (.iload_n 2, 1) := by decide +kernel
theorem dX4_addRoad_29 : decode cX4_addRoad 29 = .ok (.iastore, 1) := by decide +kernel
theorem dX4_addRoad_30 : decode cX4_addRoad 30 = .ok (.aload_n 0, 1) := by decide +kernel
theorem dX4_addRoad_31 : decode cX4_addRoad 31 = .ok (.getfield 18, 3) := by decide +kernel
theorem dX4_addRoad_34 : decode cX4_addRoad 34 = .ok (.aload_n 0, 1) := by decide +kernel
theorem dX4_addRoad_35 : decode cX4_addRoad 35 = .ok (.getfield 30, 3) := by decide +kernel
theorem dX4_addRoad_38 : decode cX4_addRoad 38 = .ok (.iload_n 3, 1) := by decide +kernel
theorem dX4_addRoad_39 : decode cX4_addRoad 39 = .ok (.iastore, 1) := by decide +kernel
theorem dX4_addRoad_40 : decode cX4_addRoad 40 = .ok (.aload_n 0, 1) := by decide +kernel
theorem dX4_addRoad_41 : decode cX4_addRoad 41 = .ok (.getfield 21, 3) := by decide +kernel
theorem dX4_addRoad_44 : decode cX4_addRoad 44 = .ok (.aload_n 0, 1) := by decide +kernel
theorem dX4_addRoad_45 : decode cX4_addRoad 45 = .ok (.getfield 30, 3) := by decide +kernel
theorem dX4_addRoad_48 : decode cX4_addRoad 48 = .ok (.iconst 0, 1) := by decide +kernel
theorem dX4_addRoad_49 : decode cX4_addRoad 49 = .ok (.iastore, 1) := by decide +kernel
theorem dX4_addRoad_50 : decode cX4_addRoad 50 = .ok (.iload 4, 2) := by decide +kernel
theorem dX4_addRoad_52 : decode cX4_addRoad 52 = .ok (.ifCond .le 79, 3) := by decide +kernel
theorem dX4_addRoad_55 : decode cX4_addRoad 55 = .ok (.aload_n 0, 1) := by decide +kernel
theorem dX4_addRoad_56 : decode cX4_addRoad 56 = .ok (.getfield 34, 3) := by decide +kernel
theorem dX4_addRoad_59 : decode cX4_addRoad 59 = .ok (.sipush 512, 3) := by decide +kernel
theorem dX4_addRoad_62 : decode cX4_addRoad 62 = .ok (.if_icmp .ge 69, 3) := by decide +kernel
theorem dX4_addRoad_65 : decode cX4_addRoad 65 = .ok (.aload_n 0, 1) := by decide +kernel
theorem dX4_addRoad_66 : decode cX4_addRoad 66 = .ok (.getfield 21, 3) := by decide +kernel
theorem dX4_addRoad_69 : decode cX4_addRoad 69 = .ok (.aload_n 0, 1) := by decide +kernel
theorem dX4_addRoad_70 : decode cX4_addRoad 70 = .ok (.getfield 30, 3) := by decide +kernel
theorem dX4_addRoad_73 : decode cX4_addRoad 73 = .ok (.aload_n 0, 1) := by decide +kernel
theorem dX4_addRoad_74 : decode cX4_addRoad 74 = .ok (.getfield 34, 3) := by decide +kernel
theorem dX4_addRoad_77 : decode cX4_addRoad 77 = .ok (.iastore, 1) := by decide +kernel
theorem dX4_addRoad_78 : decode cX4_addRoad 78 = .ok (.iconst 0, 1) := by decide +kernel
theorem dX4_addRoad_79 : decode cX4_addRoad 79 = .ok (.istore 5, 2) := by decide +kernel
theorem dX4_addRoad_81 : decode cX4_addRoad 81 = .ok (.iload 5, 2) := by decide +kernel
theorem dX4_addRoad_83 : decode cX4_addRoad 83 = .ok (.aload_n 0, 1) := by decide +kernel
theorem dX4_addRoad_84 : decode cX4_addRoad 84 = .ok (.getfield 34, 3) := by decide +kernel
theorem dX4_addRoad_87 : decode cX4_addRoad 87 = .ok (.if_icmp .ge 31, 3) := by decide +kernel
theorem dX4_addRoad_90 : decode cX4_addRoad 90 = .ok (.aload_n 0, 1) := by decide +kernel
theorem dX4_addRoad_91 : decode cX4_addRoad 91 = .ok (.getfield 24, 3) := by decide +kernel
theorem dX4_addRoad_94 : decode cX4_addRoad 94 = .ok (.aload_n 0, 1) := by decide +kernel
theorem dX4_addRoad_95 : decode cX4_addRoad 95 = .ok (.getfield 34, 3) := by decide +kernel
theorem dX4_addRoad_98 : decode cX4_addRoad 98 = .ok (.iload 5, 2) := by decide +kernel
theorem dX4_addRoad_100 : decode cX4_addRoad 100 = .ok (.iadd, 1) := by decide +kernel
theorem dX4_addRoad_101 : decode cX4_addRoad 101 = .ok (.aload_n 0, 1) := by decide +kernel
theorem dX4_addRoad_102 : decode cX4_addRoad 102 = .ok (.getfield 24, 3) := by decide +kernel
theorem dX4_addRoad_105 : decode cX4_addRoad 105 = .ok (.iload 5, 2) := by decide +kernel
theorem dX4_addRoad_107 : decode cX4_addRoad 107 = .ok (.iaload, 1) := by decide +kernel
theorem dX4_addRoad_108 : decode cX4_addRoad 108 = .ok (.iload 4, 2) := by decide +kernel
theorem dX4_addRoad_110 : decode cX4_addRoad 110 = .ok (.iadd, 1) := by decide +kernel
theorem dX4_addRoad_111 : decode cX4_addRoad 111 = .ok (.iastore, 1) := by decide +kernel
theorem dX4_addRoad_112 : decode cX4_addRoad 112 = .ok (.iinc 5 1, 3) := by decide +kernel
theorem dX4_addRoad_115 : decode cX4_addRoad 115 = .ok (.goto (-34), 3) := by decide +kernel
theorem dX4_addRoad_118 : decode cX4_addRoad 118 = .ok (.aload_n 0, 1) := by decide +kernel
theorem dX4_addRoad_119 : decode cX4_addRoad 119 = .ok (.dup, 1) := by decide +kernel
theorem dX4_addRoad_120 : decode cX4_addRoad 120 = .ok (.getfield 34, 3) := by decide +kernel
theorem dX4_addRoad_123 : decode cX4_addRoad 123 = .ok (.aload_n 0, 1) := by decide +kernel
theorem dX4_addRoad_124 : decode cX4_addRoad 124 = .ok (.getfield 34, 3) := by decide +kernel
theorem dX4_addRoad_127 : decode cX4_addRoad 127 = .ok (.iadd, 1) := by decide +kernel
theorem dX4_addRoad_128 : decode cX4_addRoad 128 = .ok (.putfield 34, 3) := by decide +kernel
theorem dX4_addRoad_131 : decode cX4_addRoad 131 = .ok (.aload_n 0, 1) := by decide +kernel
theorem dX4_addRoad_132 : decode cX4_addRoad 132 = .ok (.dup, 1) := by decide +kernel
theorem dX4_addRoad_133 : decode cX4_addRoad 133 = .ok (.getfield 30, 3) := by decide +kernel
theorem dX4_addRoad_136 : decode cX4_addRoad 136 = .ok (.iconst 1, 1) := by decide +kernel
theorem dX4_addRoad_137 : decode cX4_addRoad 137 = .ok (.iadd, 1) := by decide +kernel
theorem dX4_addRoad_138 : decode cX4_addRoad 138 = .ok (.putfield 30, 3) := by decide +kernel
theorem dX4_addRoad_141 : decode cX4_addRoad 141 = .ok (.return_, 1) := by decide +kernel
theorem dX4_leastCost_0 : decode cX4_leastCost 0 = .ok (.iload_n 2, 1) := by decide +kernel
theorem dX4_leastCost_1 : decode cX4_leastCost 1 = .ok (.ifCond .ge 6, 3) := by decide +kernel
theorem dX4_leastCost_4 : decode cX4_leastCost 4 = .ok (.ldc 68, 2) := by decide +kernel
theorem dX4_leastCost_6 : decode cX4_leastCost 6 = .ok (.ireturn, 1) := by decide +kernel
theorem dX4_leastCost_7 : decode cX4_leastCost 7 = .ok (.aload_n 0, 1) := by decide +kernel
theorem dX4_leastCost_8 : decode cX4_leastCost 8 = .ok (.iload_n 1, 1) := by decide +kernel
theorem dX4_leastCost_9 : decode cX4_leastCost 9 = .ok (.iload_n 2, 1) := by decide +kernel
theorem dX4_leastCost_10 : decode cX4_leastCost 10 = .ok (.invokevirtual 75, 3) := by decide +kernel
theorem dX4_leastCost_13 : decode cX4_leastCost 13 = .ok (.ldc 68, 2) := by decide +kernel
theorem dX4_leastCost_15 : decode cX4_leastCost 15 = .ok (.istore_n 3, 1) := by decide +kernel
theorem dX4_leastCost_16 : decode cX4_leastCost 16 = .ok (.iconst 0, 1) := by decide +kernel
theorem dX4_leastCost_17 : decode cX4_leastCost 17 = .ok (.istore 4, 2) := by decide +kernel
theorem dX4_leastCost_19 : decode cX4_leastCost 19 = .ok (.iload 4, 2) := by decide +kernel
theorem dX4_leastCost_21 : decode cX4_leastCost 21 = .ok (.aload_n 0, 1) := by decide +kernel
theorem dX4_leastCost_22 : decode cX4_leastCost 22 = .ok (.getfield 34, 3) := by decide +kernel
theorem dX4_leastCost_25 : decode cX4_leastCost 25 = .ok (.if_icmp .ge 37, 3) := by decide +kernel
theorem dX4_leastCost_28 : decode cX4_leastCost 28 = .ok (.aload_n 0, 1) := by decide +kernel
theorem dX4_leastCost_29 : decode cX4_leastCost 29 = .ok (.getfield 24, 3) := by decide +kernel
theorem dX4_leastCost_32 : decode cX4_leastCost 32 = .ok (.iload 4, 2) := by decide +kernel
theorem dX4_leastCost_34 : decode cX4_leastCost 34 = .ok (.iaload, 1) := by decide +kernel
theorem dX4_leastCost_35 : decode cX4_leastCost 35 = .ok (.iload_n 2, 1) := by decide +kernel
theorem dX4_leastCost_36 : decode cX4_leastCost 36 = .ok (.if_icmp .ne 20, 3) := by decide +kernel
theorem dX4_leastCost_39 : decode cX4_leastCost 39 = .ok (.iload_n 3, 1) := by decide +kernel
theorem dX4_leastCost_40 : decode cX4_leastCost 40 = .ok (.aload_n 0, 1) := by decide +kernel
theorem dX4_leastCost_41 : decode cX4_leastCost 41 = .ok (.getfield 27, 3) := by decide +kernel
theorem dX4_leastCost_44 : decode cX4_leastCost 44 = .ok (.iload 4, 2) := by decide +kernel
theorem dX4_leastCost_46 : decode cX4_leastCost 46 = .ok (.bipush 6, 2) := by decide +kernel
theorem dX4_leastCost_48 : decode cX4_leastCost 48 = .ok (.imul, 1) := by decide +kernel
theorem dX4_leastCost_49 : decode cX4_leastCost 49 = .ok (.iconst 5, 1) := by decide +kernel
theorem dX4_leastCost_50 : decode cX4_leastCost 50 = .ok (.iadd, 1) := by decide +kernel
theorem dX4_leastCost_51 : decode cX4_leastCost 51 = .ok (.iaload, 1) := by decide +kernel
theorem dX4_leastCost_52 : decode cX4_leastCost 52 = .ok (.invokestatic 70, 3) := by decide +kernel
theorem dX4_leastCost_55 : decode cX4_leastCost 55 = .ok (.istore_n 3, 1) := by decide +kernel
theorem dX4_leastCost_56 : decode cX4_leastCost 56 = .ok (.iinc 4 1, 3) := by decide +kernel
theorem dX4_leastCost_59 : decode cX4_leastCost 59 = .ok (.goto (-40), 3) := by decide +kernel
theorem dX4_leastCost_62 : decode cX4_leastCost 62 = .ok (.iload_n 3, 1) := by decide +kernel
theorem dX4_leastCost_63 : decode cX4_leastCost 63 = .ok (.ireturn, 1) := by decide +kernel
theorem dX4_spread_0 : decode cX4_spread 0 = .ok (.aload_n 0, 1) := by decide +kernel
theorem dX4_spread_1 : decode cX4_spread 1 = .ok (.getfield 34, 3) := by decide +kernel
theorem dX4_spread_4 : decode cX4_spread 4 = .ok (.bipush 6, 2) := by decide +kernel
theorem dX4_spread_6 : decode cX4_spread 6 = .ok (.imul, 1) := by decide +kernel
theorem dX4_spread_7 : decode cX4_spread 7 = .ok (.istore_n 3, 1) := by decide +kernel
theorem dX4_spread_8 : decode cX4_spread 8 = .ok (.iconst 0, 1) := by decide +kernel
theorem dX4_spread_9 : decode cX4_spread 9 = .ok (.istore 4, 2) := by decide +kernel
theorem dX4_spread_11 : decode cX4_spread 11 = .ok (.iload 4, 2) := by decide +kernel
theorem dX4_spread_13 : decode cX4_spread 13 = .ok (.iload_n 3, 1) := by decide +kernel
theorem dX4_spread_14 : decode cX4_spread 14 = .ok (.if_icmp .ge 18, 3) := by decide +kernel
theorem dX4_spread_17 : decode cX4_spread 17 = .ok (.aload_n 0, 1) := by decide +kernel
theorem dX4_spread_18 : decode cX4_spread 18 = .ok (.getfield 27, 3) := by decide +kernel
theorem dX4_spread_21 : decode cX4_spread 21 = .ok (.iload 4, 2) := by decide +kernel
theorem dX4_spread_23 : decode cX4_spread 23 = .ok (.ldc 68, 2) := by decide +kernel
theorem dX4_spread_25 : decode cX4_spread 25 = .ok (.iastore, 1) := by decide +kernel
theorem dX4_spread_26 : decode cX4_spread 26 = .ok (.iinc 4 1, 3) := by decide +kernel
theorem dX4_spread_29 : decode cX4_spread 29 = .ok (.goto (-18), 3) := by decide +kernel
theorem dX4_spread_32 : decode cX4_spread 32 = .ok (.aload_n 0, 1) := by decide +kernel
theorem dX4_spread_33 : decode cX4_spread 33 = .ok (.getfield 27, 3) := by decide +kernel
theorem dX4_spread_36 : decode cX4_spread 36 = .ok (.iload_n 1, 1) := by decide +kernel
theorem dX4_spread_37 : decode cX4_spread 37 = .ok (.iconst 0, 1) := by decide +kernel
theorem dX4_spread_38 : decode cX4_spread 38 = .ok (.iastore, 1) := by decide +kernel
theorem dX4_spread_39 : decode cX4_spread 39 = .ok (.iconst 0, 1) := by decide +kernel
theorem dX4_spread_40 : decode cX4_spread 40 = .ok (.istore 4, 2) := by decide +kernel
theorem dX4_spread_42 : decode cX4_spread 42 = .ok (.iload 4, 2) := by decide +kernel
theorem dX4_spread_44 : decode cX4_spread 44 = .ok (.aload_n 0, 1) := by decide +kernel
theorem dX4_spread_45 : decode cX4_spread 45 = .ok (.getfield 34, 3) := by decide +kernel
theorem dX4_spread_48 : decode cX4_spread 48 = .ok (.if_icmp .ge 31, 3) := by decide +kernel
theorem dX4_spread_51 : decode cX4_spread 51 = .ok (.aload_n 0, 1) := by decide +kernel
theorem dX4_spread_52 : decode cX4_spread 52 = .ok (.iload 4, 2) := by decide +kernel
theorem dX4_spread_54 : decode cX4_spread 54 = .ok (.invokevirtual 79, 3) := by decide +kernel
theorem dX4_spread_57 : decode cX4_spread 57 = .ok (.ifCond .eq 16, 3) := by decide +kernel
theorem dX4_spread_60 : decode cX4_spread 60 = .ok (.aload_n 0, 1) := by decide +kernel
theorem dX4_spread_61 : decode cX4_spread 61 = .ok (.iload 4, 2) := by decide +kernel
theorem dX4_spread_63 : decode cX4_spread 63 = .ok (.invokevirtual 111, 3) := by decide +kernel
theorem dX4_spread_66 : decode cX4_spread 66 = .ok (.aload_n 0, 1) := by decide +kernel
theorem dX4_spread_67 : decode cX4_spread 67 = .ok (.iload 4, 2) := by decide +kernel
theorem dX4_spread_69 : decode cX4_spread 69 = .ok (.iload_n 2, 1) := by decide +kernel
theorem dX4_spread_70 : decode cX4_spread 70 = .ok (.invokevirtual 115, 3) := by decide +kernel
theorem dX4_spread_73 : decode cX4_spread 73 = .ok (.iinc 4 1, 3) := by decide +kernel
theorem dX4_spread_76 : decode cX4_spread 76 = .ok (.goto (-34), 3) := by decide +kernel
theorem dX4_spread_79 : decode cX4_spread 79 = .ok (.return_, 1) := by decide +kernel
theorem dX4_isReached_0 : decode cX4_isReached 0 = .ok (.iload_n 1, 1) := by decide +kernel
theorem dX4_isReached_1 : decode cX4_isReached 1 = .ok (.bipush 6, 2) := by decide +kernel
theorem dX4_isReached_3 : decode cX4_isReached 3 = .ok (.imul, 1) := by decide +kernel
theorem dX4_isReached_4 : decode cX4_isReached 4 = .ok (.istore_n 2, 1) := by decide +kernel
theorem dX4_isReached_5 : decode cX4_isReached 5 = .ok (.iconst 0, 1) := by decide +kernel
theorem dX4_isReached_6 : decode cX4_isReached 6 = .ok (.istore_n 3, 1) := by decide +kernel
theorem dX4_isReached_7 : decode cX4_isReached 7 = .ok (.iload_n 3, 1) := by decide +kernel
theorem dX4_isReached_8 : decode cX4_isReached 8 = .ok (.bipush 6, 2) := by decide +kernel
theorem dX4_isReached_10 : decode cX4_isReached 10 = .ok (.if_icmp .ge 24, 3) := by decide +kernel
theorem dX4_isReached_13 : decode cX4_isReached 13 = .ok (.aload_n 0, 1) := by decide +kernel
theorem dX4_isReached_14 : decode cX4_isReached 14 = .ok (.getfield 27, 3) := by decide +kernel
theorem dX4_isReached_17 : decode cX4_isReached 17 = .ok (.iload_n 2, 1) := by decide +kernel
theorem dX4_isReached_18 : decode cX4_isReached 18 = .ok (.iload_n 3, 1) := by decide +kernel
theorem dX4_isReached_19 : decode cX4_isReached 19 = .ok (.iadd, 1) := by decide +kernel
theorem dX4_isReached_20 : decode cX4_isReached 20 = .ok (.iaload, 1) := by decide +kernel
theorem dX4_isReached_21 : decode cX4_isReached 21 = .ok (.ldc 68, 2) := by decide +kernel
theorem dX4_isReached_23 : decode cX4_isReached 23 = .ok (.if_icmp .eq 5, 3) := by decide +kernel
theorem dX4_isReached_26 : decode cX4_isReached 26 = .ok (.iconst 1, 1) := by decide +kernel
theorem dX4_isReached_27 : decode cX4_isReached 27 = .ok (.ireturn, 1) := by decide +kernel
theorem dX4_isReached_28 : decode cX4_isReached 28 = .ok (.iinc 3 1, 3) := by decide +kernel
theorem dX4_isReached_31 : decode cX4_isReached 31 = .ok (.goto (-24), 3) := by decide +kernel
theorem dX4_isReached_34 : decode cX4_isReached 34 = .ok (.iconst 0, 1) := by decide +kernel
theorem dX4_isReached_35 : decode cX4_isReached 35 = .ok (.ireturn, 1) := by decide +kernel
theorem dX4_settle_0 : decode cX4_settle 0 = .ok (.iload_n 1, 1) := by decide +kernel
theorem dX4_settle_1 : decode cX4_settle 1 = .ok (.bipush 6, 2) := by decide +kernel
theorem dX4_settle_3 : decode cX4_settle 3 = .ok (.imul, 1) := by decide +kernel
theorem dX4_settle_4 : decode cX4_settle 4 = .ok (.istore_n 2, 1) := by decide +kernel
theorem dX4_settle_5 : decode cX4_settle 5 = .ok (.iconst 1, 1) := by decide +kernel
theorem dX4_settle_6 : decode cX4_settle 6 = .ok (.istore_n 3, 1) := by decide +kernel
theorem dX4_settle_7 : decode cX4_settle 7 = .ok (.iconst 0, 1) := by decide +kernel
theorem dX4_settle_8 : decode cX4_settle 8 = .ok (.istore 4, 2) := by decide +kernel
theorem dX4_settle_10 : decode cX4_settle 10 = .ok (.iload 4, 2) := by decide +kernel
theorem dX4_settle_12 : decode cX4_settle 12 = .ok (.bipush 6, 2) := by decide +kernel
theorem dX4_settle_14 : decode cX4_settle 14 = .ok (.if_icmp .ge 101, 3) := by decide +kernel
theorem dX4_settle_17 : decode cX4_settle 17 = .ok (.iload_n 3, 1) := by decide +kernel
theorem dX4_settle_18 : decode cX4_settle 18 = .ok (.ifCond .eq 97, 3) := by decide +kernel
theorem dX4_settle_21 : decode cX4_settle 21 = .ok (.iconst 0, 1) := by decide +kernel
theorem dX4_settle_22 : decode cX4_settle 22 = .ok (.istore_n 3, 1) := by decide +kernel
theorem dX4_settle_23 : decode cX4_settle 23 = .ok (.iconst 0, 1) := by decide +kernel
theorem dX4_settle_24 : decode cX4_settle 24 = .ok (.istore 5, 2) := by decide +kernel
theorem dX4_settle_26 : decode cX4_settle 26 = .ok (.iload 5, 2) := by decide +kernel
theorem dX4_settle_28 : decode cX4_settle 28 = .ok (.aload_n 0, 1) := by decide +kernel
theorem dX4_settle_29 : decode cX4_settle 29 = .ok (.getfield 30, 3) := by decide +kernel
theorem dX4_settle_32 : decode cX4_settle 32 = .ok (.if_icmp .ge 77, 3) := by decide +kernel
theorem dX4_settle_35 : decode cX4_settle 35 = .ok (.aload_n 0, 1) := by decide +kernel
theorem dX4_settle_36 : decode cX4_settle 36 = .ok (.getfield 21, 3) := by decide +kernel
theorem dX4_settle_39 : decode cX4_settle 39 = .ok (.iload 5, 2) := by decide +kernel
theorem dX4_settle_41 : decode cX4_settle 41 = .ok (.iaload, 1) := by decide +kernel
theorem dX4_settle_42 : decode cX4_settle 42 = .ok (.iload_n 1, 1) := by decide +kernel
theorem dX4_settle_43 : decode cX4_settle 43 = .ok (.iconst (-1), 1) := by decide +kernel
theorem dX4_settle_44 : decode cX4_settle 44 = .ok (.ixor, 1) := by decide +kernel
theorem dX4_settle_45 : decode cX4_settle 45 = .ok (.iand, 1) := by decide +kernel
theorem dX4_settle_46 : decode cX4_settle 46 = .ok (.ifCond .ne 57, 3) := by decide +kernel
theorem dX4_settle_49 : decode cX4_settle 49 = .ok (.iload_n 3, 1) := by decide +kernel
theorem dX4_settle_50 : decode cX4_settle 50 = .ok (.aload_n 0, 1) := by decide +kernel
theorem dX4_settle_51 : decode cX4_settle 51 = .ok (.iload 5, 2) := by decide +kernel
theorem dX4_settle_53 : decode cX4_settle 53 = .ok (.iload_n 2, 1) := by decide +kernel
theorem dX4_settle_54 : decode cX4_settle 54 = .ok (.aload_n 0, 1) := by decide +kernel
theorem dX4_settle_55 : decode cX4_settle 55 = .ok (.getfield 11, 3) := by decide +kernel
theorem dX4_settle_58 : decode cX4_settle 58 = .ok (.iload 5, 2) := by decide +kernel
theorem dX4_settle_60 : decode cX4_settle 60 = .ok (.iaload, 1) := by decide +kernel
theorem dX4_settle_61 : decode cX4_settle 61 = .ok (.iadd, 1) := by decide +kernel
theorem dX4_settle_62 : decode cX4_settle 62 = .ok (.iload_n 2, 1) := by decide +kernel
theorem dX4_settle_63 : decode cX4_settle 63 = .ok (.aload_n 0, 1) := by decide +kernel
theorem dX4_settle_64 : decode cX4_settle 64 = .ok (.getfield 15, 3) := by decide +kernel
theorem dX4_settle_67 : decode cX4_settle 67 = .ok (.iload 5, 2) := by decide +kernel
theorem dX4_settle_69 : decode cX4_settle 69 = .ok (.iaload, 1) := by decide +kernel
theorem dX4_settle_70 : decode cX4_settle 70 = .ok (.iadd, 1) := by decide +kernel
theorem dX4_settle_71 : decode cX4_settle 71 = .ok (.invokevirtual 118, 3) := by decide +kernel
theorem dX4_settle_74 : decode cX4_settle 74 = .ok (.ior, 1) := by decide +kernel
theorem dX4_settle_75 : decode cX4_settle 75 = .ok (.istore_n 3, 1) := by decide +kernel
theorem dX4_settle_76 : decode cX4_settle 76 = .ok (.iload_n 3, 1) := by decide +kernel
theorem dX4_settle_77 : decode cX4_settle 77 = .ok (.aload_n 0, 1) := by decide +kernel
theorem dX4_settle_78 : decode cX4_settle 78 = .ok (.iload 5, 2) := by decide +kernel
theorem dX4_settle_80 : decode cX4_settle 80 = .ok (.iload_n 2, 1) := by decide +kernel
theorem dX4_settle_81 : decode cX4_settle 81 = .ok (.aload_n 0, 1) := by decide +kernel
theorem dX4_settle_82 : decode cX4_settle 82 = .ok (.getfield 15, 3) := by decide +kernel
theorem dX4_settle_85 : decode cX4_settle 85 = .ok (.iload 5, 2) := by decide +kernel
theorem dX4_settle_87 : decode cX4_settle 87 = .ok (.iaload, 1) := by decide +kernel
theorem dX4_settle_88 : decode cX4_settle 88 = .ok (.iadd, 1) := by decide +kernel
theorem dX4_settle_89 : decode cX4_settle 89 = .ok (.iload_n 2, 1) := by decide +kernel
theorem dX4_settle_90 : decode cX4_settle 90 = .ok (.aload_n 0, 1) := by decide +kernel
theorem dX4_settle_91 : decode cX4_settle 91 = .ok (.getfield 11, 3) := by decide +kernel
theorem dX4_settle_94 : decode cX4_settle 94 = .ok (.iload 5, 2) := by decide +kernel
theorem dX4_settle_96 : decode cX4_settle 96 = .ok (.iaload, 1) := by decide +kernel
theorem dX4_settle_97 : decode cX4_settle 97 = .ok (.iadd, 1) := by decide +kernel
theorem dX4_settle_98 : decode cX4_settle 98 = .ok (.invokevirtual 118, 3) := by decide +kernel
theorem dX4_settle_101 : decode cX4_settle 101 = .ok (.ior, 1) := by decide +kernel
theorem dX4_settle_102 : decode cX4_settle 102 = .ok (.istore_n 3, 1) := by decide +kernel
theorem dX4_settle_103 : decode cX4_settle 103 = .ok (.iinc 5 1, 3) := by decide +kernel
theorem dX4_settle_106 : decode cX4_settle 106 = .ok (.goto (-80), 3) := by decide +kernel
theorem dX4_settle_109 : decode cX4_settle 109 = .ok (.iinc 4 1, 3) := by decide +kernel
theorem dX4_settle_112 : decode cX4_settle 112 = .ok (.goto (-102), 3) := by decide +kernel
theorem dX4_settle_115 : decode cX4_settle 115 = .ok (.return_, 1) := by decide +kernel
theorem dX4_leave_0 : decode cX4_leave 0 = .ok (.iload_n 1, 1) := by decide +kernel
theorem dX4_leave_1 : decode cX4_leave 1 = .ok (.bipush 6, 2) := by decide +kernel
theorem dX4_leave_3 : decode cX4_leave 3 = .ok (.imul, 1) := by decide +kernel
theorem dX4_leave_4 : decode cX4_leave 4 = .ok (.istore_n 3, 1) := by decide +kernel
theorem dX4_leave_5 : decode cX4_leave 5 = .ok (.iconst 0, 1) := by decide +kernel
theorem dX4_leave_6 : decode cX4_leave 6 = .ok (.istore 4, 2) := by decide +kernel
theorem dX4_leave_8 : decode cX4_leave 8 = .ok (.iload 4, 2) := by decide +kernel
theorem dX4_leave_10 : decode cX4_leave 10 = .ok (.aload_n 0, 1) := by decide +kernel
theorem dX4_leave_11 : decode cX4_leave 11 = .ok (.getfield 30, 3) := by decide +kernel
theorem dX4_leave_14 : decode cX4_leave 14 = .ok (.if_icmp .ge 107, 3) := by decide +kernel
theorem dX4_leave_17 : decode cX4_leave 17 = .ok (.aload_n 0, 1) := by decide +kernel
theorem dX4_leave_18 : decode cX4_leave 18 = .ok (.getfield 21, 3) := by decide +kernel
theorem dX4_leave_21 : decode cX4_leave 21 = .ok (.iload 4, 2) := by decide +kernel
theorem dX4_leave_23 : decode cX4_leave 23 = .ok (.iaload, 1) := by decide +kernel
theorem dX4_leave_24 : decode cX4_leave 24 = .ok (.iload_n 1, 1) := by decide +kernel
theorem dX4_leave_25 : decode cX4_leave 25 = .ok (.iconst (-1), 1) := by decide +kernel
theorem dX4_leave_26 : decode cX4_leave 26 = .ok (.ixor, 1) := by decide +kernel
theorem dX4_leave_27 : decode cX4_leave 27 = .ok (.iand, 1) := by decide +kernel
theorem dX4_leave_28 : decode cX4_leave 28 = .ok (.ifCond .eq 87, 3) := by decide +kernel
theorem dX4_leave_31 : decode cX4_leave 31 = .ok (.aload_n 0, 1) := by decide +kernel
theorem dX4_leave_32 : decode cX4_leave 32 = .ok (.getfield 24, 3) := by decide +kernel
theorem dX4_leave_35 : decode cX4_leave 35 = .ok (.iload_n 1, 1) := by decide +kernel
theorem dX4_leave_36 : decode cX4_leave 36 = .ok (.aload_n 0, 1) := by decide +kernel
theorem dX4_leave_37 : decode cX4_leave 37 = .ok (.getfield 21, 3) := by decide +kernel
theorem dX4_leave_40 : decode cX4_leave 40 = .ok (.iload 4, 2) := by decide +kernel
theorem dX4_leave_42 : decode cX4_leave 42 = .ok (.iaload, 1) := by decide +kernel
theorem dX4_leave_43 : decode cX4_leave 43 = .ok (.ior, 1) := by decide +kernel
theorem dX4_leave_44 : decode cX4_leave 44 = .ok (.iaload, 1) := by decide +kernel
theorem dX4_leave_45 : decode cX4_leave 45 = .ok (.iload_n 2, 1) := by decide +kernel
theorem dX4_leave_46 : decode cX4_leave 46 = .ok (.if_icmp .gt 69, 3) := by decide +kernel
theorem dX4_leave_49 : decode cX4_leave 49 = .ok (.iload_n 1, 1) := by decide +kernel
theorem dX4_leave_50 : decode cX4_leave 50 = .ok (.aload_n 0, 1) := by decide +kernel
theorem dX4_leave_51 : decode cX4_leave 51 = .ok (.getfield 21, 3) := by decide +kernel
theorem dX4_leave_54 : decode cX4_leave 54 = .ok (.iload 4, 2) := by decide +kernel
theorem dX4_leave_56 : decode cX4_leave 56 = .ok (.iaload, 1) := by decide +kernel
theorem dX4_leave_57 : decode cX4_leave 57 = .ok (.ior, 1) := by decide +kernel
theorem dX4_leave_58 : decode cX4_leave 58 = .ok (.bipush 6, 2) := by decide +kernel
theorem dX4_leave_60 : decode cX4_leave 60 = .ok (.imul, 1) := by decide +kernel
theorem dX4_leave_61 : decode cX4_leave 61 = .ok (.istore 5, 2) := by decide +kernel
theorem dX4_leave_63 : decode cX4_leave 63 = .ok (.aload_n 0, 1) := by decide +kernel
theorem dX4_leave_64 : decode cX4_leave 64 = .ok (.iload 4, 2) := by decide +kernel
theorem dX4_leave_66 : decode cX4_leave 66 = .ok (.iload_n 3, 1) := by decide +kernel
theorem dX4_leave_67 : decode cX4_leave 67 = .ok (.aload_n 0, 1) := by decide +kernel
theorem dX4_leave_68 : decode cX4_leave 68 = .ok (.getfield 11, 3) := by decide +kernel
theorem dX4_leave_71 : decode cX4_leave 71 = .ok (.iload 4, 2) := by decide +kernel
theorem dX4_leave_73 : decode cX4_leave 73 = .ok (.iaload, 1) := by decide +kernel
theorem dX4_leave_74 : decode cX4_leave 74 = .ok (.iadd, 1) := by decide +kernel
theorem dX4_leave_75 : decode cX4_leave 75 = .ok (.iload 5, 2) := by decide +kernel
theorem dX4_leave_77 : decode cX4_leave 77 = .ok (.aload_n 0, 1) := by decide +kernel
theorem dX4_leave_78 : decode cX4_leave 78 = .ok (.getfield 15, 3) := by decide +kernel
theorem dX4_leave_81 : decode cX4_leave 81 = .ok (.iload 4, 2) := by decide +kernel
theorem dX4_leave_83 : decode cX4_leave 83 = .ok (.iaload, 1) := by decide +kernel
theorem dX4_leave_84 : decode cX4_leave 84 = .ok (.iadd, 1) := by decide +kernel
theorem dX4_leave_85 : decode cX4_leave 85 = .ok (.invokevirtual 118, 3) := by decide +kernel
theorem dX4_leave_88 : decode cX4_leave 88 = .ok (.pop, 1) := by decide +kernel
theorem dX4_leave_89 : decode cX4_leave 89 = .ok (.aload_n 0, 1) := by decide +kernel
theorem dX4_leave_90 : decode cX4_leave 90 = .ok (.iload 4, 2) := by decide +kernel
theorem dX4_leave_92 : decode cX4_leave 92 = .ok (.iload_n 3, 1) := by decide +kernel
theorem dX4_leave_93 : decode cX4_leave 93 = .ok (.aload_n 0, 1) := by decide +kernel
theorem dX4_leave_94 : decode cX4_leave 94 = .ok (.getfield 15, 3) := by decide +kernel
theorem dX4_leave_97 : decode cX4_leave 97 = .ok (.iload 4, 2) := by decide +kernel
theorem dX4_leave_99 : decode cX4_leave 99 = .ok (.iaload, 1) := by decide +kernel
theorem dX4_leave_100 : decode cX4_leave 100 = .ok (.iadd, 1) := by decide +kernel
theorem dX4_leave_101 : decode cX4_leave 101 = .ok (.iload 5, 2) := by decide +kernel
theorem dX4_leave_103 : decode cX4_leave 103 = .ok (.aload_n 0, 1) := by decide +kernel
theorem dX4_leave_104 : decode cX4_leave 104 = .ok (.getfield 11, 3) := by decide +kernel
theorem dX4_leave_107 : decode cX4_leave 107 = .ok (.iload 4, 2) := by decide +kernel
theorem dX4_leave_109 : decode cX4_leave 109 = .ok (.iaload, 1) := by decide +kernel
theorem dX4_leave_110 : decode cX4_leave 110 = .ok (.iadd, 1) := by decide +kernel
theorem dX4_leave_111 : decode cX4_leave 111 = .ok (.invokevirtual 118, 3) := by decide +kernel
theorem dX4_leave_114 : decode cX4_leave 114 = .ok (.pop, 1) := by decide +kernel
theorem dX4_leave_115 : decode cX4_leave 115 = .ok (.iinc 4 1, 3) := by decide +kernel
theorem dX4_leave_118 : decode cX4_leave 118 = .ok (.goto (-110), 3) := by decide +kernel
theorem dX4_leave_121 : decode cX4_leave 121 = .ok (.return_, 1) := by decide +kernel
theorem dX4_improve_0 : decode cX4_improve 0 = .ok (.aload_n 0, 1) := by decide +kernel
theorem dX4_improve_1 : decode cX4_improve 1 = .ok (.getfield 27, 3) := by decide +kernel
theorem dX4_improve_4 : decode cX4_improve 4 = .ok (.iload_n 2, 1) := by decide +kernel
theorem dX4_improve_5 : decode cX4_improve 5 = .ok (.iaload, 1) := by decide +kernel
theorem dX4_improve_6 : decode cX4_improve 6 = .ok (.ldc 68, 2) := by decide +kernel
theorem dX4_improve_8 : decode cX4_improve 8 = .ok (.if_icmp .ne 5, 3) := by decide +kernel
theorem dX4_improve_11 : decode cX4_improve 11 = .ok (.iconst 0, 1) := by decide +kernel
theorem dX4_improve_12 : decode cX4_improve 12 = .ok (.ireturn, 1) := by decide +kernel
theorem dX4_improve_13 : decode cX4_improve 13 = .ok (.aload_n 0, 1) := by decide +kernel
theorem dX4_improve_14 : decode cX4_improve 14 = .ok (.getfield 27, 3) := by decide +kernel
theorem dX4_improve_17 : decode cX4_improve 17 = .ok (.iload_n 2, 1) := by decide +kernel
theorem dX4_improve_18 : decode cX4_improve 18 = .ok (.iaload, 1) := by decide +kernel
theorem dX4_improve_19 : decode cX4_improve 19 = .ok (.ifCond .ne 7, 3) := by decide +kernel
theorem dX4_improve_22 : decode cX4_improve 22 = .ok (.iload_n 1, 1) := by decide +kernel
theorem dX4_improve_23 : decode cX4_improve 23 = .ok (.goto 4, 3) := by decide +kernel
theorem dX4_improve_26 : decode cX4_improve 26 = .ok (.iconst 0, 1) := by decide +kernel
theorem dX4_improve_27 : decode cX4_improve 27 = .ok (.istore 4, 2) := by decide +kernel
theorem dX4_improve_29 : decode cX4_improve 29 = .ok (.aload_n 0, 1) := by decide +kernel
theorem dX4_improve_30 : decode cX4_improve 30 = .ok (.getfield 27, 3) := by decide +kernel
theorem dX4_improve_33 : decode cX4_improve 33 = .ok (.iload_n 2, 1) := by decide +kernel
theorem dX4_improve_34 : decode cX4_improve 34 = .ok (.iaload, 1) := by decide +kernel
theorem dX4_improve_35 : decode cX4_improve 35 = .ok (.aload_n 0, 1) := by decide +kernel
theorem dX4_improve_36 : decode cX4_improve 36 = .ok (.getfield 18, 3) := by decide +kernel
theorem dX4_improve_39 : decode cX4_improve 39 = .ok (.iload_n 1, 1) := by decide +kernel
theorem dX4_improve_40 : decode cX4_improve 40 = .ok (.iaload, 1) := by decide +kernel
theorem dX4_improve_41 : decode cX4_improve 41 = .ok (.bipush 11, 2) := by decide +kernel
theorem dX4_improve_43 : decode cX4_improve 43 = .ok (.ishl, 1) := by decide +kernel
theorem dX4_improve_44 : decode cX4_improve 44 = .ok (.iadd, 1) := by decide +kernel
theorem dX4_improve_45 : decode cX4_improve 45 = .ok (.bipush 16, 2) := by decide +kernel
theorem dX4_improve_47 : decode cX4_improve 47 = .ok (.iadd, 1) := by decide +kernel
theorem dX4_improve_48 : decode cX4_improve 48 = .ok (.iload 4, 2) := by decide +kernel
theorem dX4_improve_50 : decode cX4_improve 50 = .ok (.iadd, 1) := by decide +kernel
theorem dX4_improve_51 : decode cX4_improve 51 = .ok (.istore 5, 2) := by decide +kernel
theorem dX4_improve_53 : decode cX4_improve 53 = .ok (.iload 5, 2) := by decide +kernel
theorem dX4_improve_55 : decode cX4_improve 55 = .ok (.aload_n 0, 1) := by decide +kernel
theorem dX4_improve_56 : decode cX4_improve 56 = .ok (.getfield 27, 3) := by decide +kernel
theorem dX4_improve_59 : decode cX4_improve 59 = .ok (.iload_n 3, 1) := by decide +kernel
theorem dX4_improve_60 : decode cX4_improve 60 = .ok (.iaload, 1) := by decide +kernel
theorem dX4_improve_61 : decode cX4_improve 61 = .ok (.if_icmp .ge 15, 3) := by decide +kernel
theorem dX4_improve_64 : decode cX4_improve 64 = .ok (.iload 5, 2) := by decide +kernel
theorem dX4_improve_66 : decode cX4_improve 66 = .ok (.bipush 11, 2) := by decide +kernel
theorem dX4_improve_68 : decode cX4_improve 68 = .ok (.ishr, 1) := by decide +kernel
theorem dX4_improve_69 : decode cX4_improve 69 = .ok (.aload_n 0, 1) := by decide +kernel
theorem dX4_improve_70 : decode cX4_improve 70 = .ok (.getfield 37, 3) := by decide +kernel
theorem dX4_improve_73 : decode cX4_improve 73 = .ok (.if_icmp .le 5, 3) := by decide +kernel
theorem dX4_improve_76 : decode cX4_improve 76 = .ok (.iconst 0, 1) := by decide +kernel
theorem dX4_improve_77 : decode cX4_improve 77 = .ok (.ireturn, 1) := by decide +kernel
theorem dX4_improve_78 : decode cX4_improve 78 = .ok (.aload_n 0, 1) := by decide +kernel
theorem dX4_improve_79 : decode cX4_improve 79 = .ok (.getfield 27, 3) := by decide +kernel
theorem dX4_improve_82 : decode cX4_improve 82 = .ok (.iload_n 3, 1) := by decide +kernel
theorem dX4_improve_83 : decode cX4_improve 83 = .ok (.iload 5, 2) := by decide +kernel
theorem dX4_improve_85 : decode cX4_improve 85 = .ok (.iastore, 1) := by decide +kernel
theorem dX4_improve_86 : decode cX4_improve 86 = .ok (.iconst 1, 1) := by decide +kernel
theorem dX4_improve_87 : decode cX4_improve 87 = .ok (.ireturn, 1) := by decide +kernel
theorem dX5_init_0 : decode cX5_init 0 = .ok (.aload_n 0, 1) := by decide +kernel
theorem dX5_init_1 : decode cX5_init 1 = .ok (.invokespecial 3, 3) := by decide +kernel
theorem dX5_init_4 : decode cX5_init 4 = .ok (.aload_n 0, 1) := by decide +kernel
theorem dX5_init_5 : decode cX5_init 5 = .ok (.iconst 0, 1) := by decide +kernel
theorem dX5_init_6 : decode cX5_init 6 = .ok (.putfield 9, 3) := by decide +kernel
theorem dX5_init_9 : decode cX5_init 9 = .ok (.aload_n 0, 1) := by decide +kernel
theorem dX5_init_10 : decode cX5_init 10 = .ok (.iconst 0, 1) := by decide +kernel
theorem dX5_init_11 : decode cX5_init 11 = .ok (.putfield 15, 3) := by decide +kernel
theorem dX5_init_14 : decode cX5_init 14 = .ok (.aload_n 0, 1) := by decide +kernel
theorem dX5_init_15 : decode cX5_init 15 = .ok (.iconst 0, 1) := by decide +kernel
theorem dX5_init_16 : decode cX5_init 16 = .ok (.putfield 18, 3) := by decide +kernel
theorem dX5_init_19 : decode cX5_init 19 = .ok (.aload_n 0, 1) := by decide +kernel
theorem dX5_init_20 : decode cX5_init 20 = .ok (.iconst 0, 1) := by decide +kernel
theorem dX5_init_21 : decode cX5_init 21 = .ok (.putfield 21, 3) := by decide +kernel
theorem dX5_init_24 : decode cX5_init 24 = .ok (.aload_n 0, 1) := by decide +kernel
theorem dX5_init_25 : decode cX5_init 25 = .ok (.iconst 0, 1) := by decide +kernel
theorem dX5_init_26 : decode cX5_init 26 = .ok (.putfield 24, 3) := by decide +kernel
theorem dX5_init_29 : decode cX5_init 29 = .ok (.aload_n 0, 1) := by decide +kernel
theorem dX5_init_30 : decode cX5_init 30 = .ok (.bipush 7, 2) := by decide +kernel
theorem dX5_init_32 : decode cX5_init 32 = .ok (.newarray .int, 2) := by decide +kernel
theorem dX5_init_34 : decode cX5_init 34 = .ok (.putfield 27, 3) := by decide +kernel
theorem dX5_init_37 : decode cX5_init 37 = .ok (.aload_n 0, 1) := by decide +kernel
theorem dX5_init_38 : decode cX5_init 38 = .ok (.bipush 8, 2) := by decide +kernel
theorem dX5_init_40 : decode cX5_init 40 = .ok (.anewarray 31, 3) := by decide +kernel
theorem dX5_init_43 : decode cX5_init 43 = .ok (.putfield 33, 3) := by decide +kernel
theorem dX5_init_46 : decode cX5_init 46 = .ok (.aload_n 0, 1) := by decide +kernel
theorem dX5_init_47 : decode cX5_init 47 = .ok (.iconst 4, 1) := by decide +kernel
theorem dX5_init_48 : decode cX5_init 48 = .ok (.anewarray 37, 3) := by decide +kernel
theorem dX5_init_51 : decode cX5_init 51 = .ok (.putfield 39, 3) := by decide +kernel
theorem dX5_init_54 : decode cX5_init 54 = .ok (.iconst 0, 1) := by decide +kernel
theorem dX5_init_55 : decode cX5_init 55 = .ok (.istore_n 1, 1) := by decide +kernel
theorem dX5_init_56 : decode cX5_init 56 = .ok (.iload_n 1, 1) := by decide +kernel
theorem dX5_init_57 : decode cX5_init 57 = .ok (.bipush 8, 2) := by decide +kernel
theorem dX5_init_59 : decode cX5_init 59 = .ok (.if_icmp .ge 23, 3) := by decide +kernel
theorem dX5_init_62 : decode cX5_init 62 = .ok (.aload_n 0, 1) := by decide +kernel
theorem dX5_init_63 : decode cX5_init 63 = .ok (.getfield 33, 3) := by decide +kernel
theorem dX5_init_66 : decode cX5_init 66 = .ok (.iload_n 1, 1) := by decide +kernel
theorem dX5_init_67 : decode cX5_init 67 = .ok (.new 31, 3) := by decide +kernel
theorem dX5_init_70 : decode cX5_init 70 = .ok (.dup, 1) := by decide +kernel
theorem dX5_init_71 : decode cX5_init 71 = .ok (.iload_n 1, 1) := by decide +kernel
theorem dX5_init_72 : decode cX5_init 72 = .ok (.invokespecial 43, 3) := by decide +kernel
theorem dX5_init_75 : decode cX5_init 75 = .ok (.aastore, 1) := by decide +kernel
theorem dX5_init_76 : decode cX5_init 76 = .ok (.iinc 1 1, 3) := by decide +kernel
theorem dX5_init_79 : decode cX5_init 79 = .ok (.goto (-23), 3) := by decide +kernel
theorem dX5_init_82 : decode cX5_init 82 = .ok (.iconst 0, 1) := by decide +kernel
theorem dX5_init_83 : decode cX5_init 83 = .ok (.istore_n 1, 1) := by decide +kernel
theorem dX5_init_84 : decode cX5_init 84 = .ok (.iload_n 1, 1) := by decide +kernel
theorem dX5_init_85 : decode cX5_init 85 = .ok (.iconst 4, 1) := by decide +kernel
theorem dX5_init_86 : decode cX5_init 86 = .ok (.if_icmp .ge 22, 3) := by decide +kernel
theorem dX5_init_89 : decode cX5_init 89 = .ok (.aload_n 0, 1) := by decide +kernel
theorem dX5_init_90 : decode cX5_init 90 = .ok (.getfield 39, 3) := by decide +kernel
theorem dX5_init_93 : decode cX5_init 93 = .ok (.iload_n 1, 1) := by decide +kernel
theorem dX5_init_94 : decode cX5_init 94 = .ok (.new 37, 3) := by decide +kernel
theorem dX5_init_97 : decode cX5_init 97 = .ok (.dup, 1) := by decide +kernel
theorem dX5_init_98 : decode cX5_init 98 = .ok (.invokespecial 46, 3) := by decide +kernel
theorem dX5_init_101 : decode cX5_init 101 = .ok (.aastore, 1) := by decide +kernel
theorem dX5_init_102 : decode cX5_init 102 = .ok (.iinc 1 1, 3) := by decide +kernel
theorem dX5_init_105 : decode cX5_init 105 = .ok (.goto (-21), 3) := by decide +kernel
theorem dX5_init_108 : decode cX5_init 108 = .ok (.return_, 1) := by decide +kernel
theorem dX5_startAnew_0 : decode cX5_startAnew 0 = .ok (.aload_n 0, 1) := by decide +kernel
theorem dX5_startAnew_1 : decode cX5_startAnew 1 = .ok (.iconst 0, 1) := by decide +kernel
theorem dX5_startAnew_2 : decode cX5_startAnew 2 = .ok (.putfield 18, 3) := by decide +kernel
theorem dX5_startAnew_5 : decode cX5_startAnew 5 = .ok (.aload_n 0, 1) := by decide +kernel
theorem dX5_startAnew_6 : decode cX5_startAnew 6 = .ok (.iconst 0, 1) := by decide +kernel
theorem dX5_startAnew_7 : decode cX5_startAnew 7 = .ok (.putfield 21, 3) := by decide +kernel
theorem dX5_startAnew_10 : decode cX5_startAnew 10 = .ok (.aload_n 0, 1) := by decide +kernel
theorem dX5_startAnew_11 : decode cX5_startAnew 11 = .ok (.iconst 0, 1) := by decide +kernel
theorem dX5_startAnew_12 : decode cX5_startAnew 12 = .ok (.putfield 24, 3) := by decide +kernel
theorem dX5_startAnew_15 : decode cX5_startAnew 15 = .ok (.return_, 1) := by decide +kernel
theorem dX5_become_0 : decode cX5_become 0 = .ok (.aload_n 0, 1) := by decide +kernel
theorem dX5_become_1 : decode cX5_become 1 = .ok (.aload_n 1, 1) := by decide +kernel
theorem dX5_become_2 : decode cX5_become 2 = .ok (.getfield 9, 3) := by decide +kernel
theorem dX5_become_5 : decode cX5_become 5 = .ok (.putfield 9, 3) := by decide +kernel
theorem dX5_become_8 : decode cX5_become 8 = .ok (.aload_n 0, 1) := by decide +kernel
theorem dX5_become_9 : decode cX5_become 9 = .ok (.aload_n 1, 1) := by decide +kernel
theorem dX5_become_10 : decode cX5_become 10 = .ok (.getfield 15, 3) := by decide +kernel
theorem dX5_become_13 : decode cX5_become 13 = .ok (.putfield 15, 3) := by decide +kernel
theorem dX5_become_16 : decode cX5_become 16 = .ok (.aload_n 0, 1) := by decide +kernel
theorem dX5_become_17 : decode cX5_become 17 = .ok (.aload_n 1, 1) := by decide +kernel
theorem dX5_become_18 : decode cX5_become 18 = .ok (.getfield 18, 3) := by decide +kernel
theorem dX5_become_21 : decode cX5_become 21 = .ok (.putfield 18, 3) := by decide +kernel
theorem dX5_become_24 : decode cX5_become 24 = .ok (.aload_n 0, 1) := by decide +kernel
theorem dX5_become_25 : decode cX5_become 25 = .ok (.aload_n 1, 1) := by decide +kernel
theorem dX5_become_26 : decode cX5_become 26 = .ok (.getfield 21, 3) := by decide +kernel
theorem dX5_become_29 : decode cX5_become 29 = .ok (.putfield 21, 3) := by decide +kernel
theorem dX5_become_32 : decode cX5_become 32 = .ok (.aload_n 0, 1) := by decide +kernel
theorem dX5_become_33 : decode cX5_become 33 = .ok (.aload_n 1, 1) := by decide +kernel
theorem dX5_become_34 : decode cX5_become 34 = .ok (.getfield 24, 3) := by decide +kernel
theorem dX5_become_37 : decode cX5_become 37 = .ok (.putfield 24, 3) := by decide +kernel
theorem dX5_become_40 : decode cX5_become 40 = .ok (.iconst 0, 1) := by decide +kernel
theorem dX5_become_41 : decode cX5_become 41 = .ok (.istore_n 2, 1) := by decide +kernel
theorem dX5_become_42 : decode cX5_become 42 = .ok (.iload_n 2, 1) := by decide +kernel
theorem dX5_become_43 : decode cX5_become 43 = .ok (.bipush 7, 2) := by decide +kernel
theorem dX5_become_45 : decode cX5_become 45 = .ok (.if_icmp .ge 21, 3) := by decide +kernel
theorem dX5_become_48 : decode cX5_become 48 = .ok (.aload_n 0, 1) := by decide +kernel
theorem dX5_become_49 : decode cX5_become 49 = .ok (.getfield 27, 3) := by decide +kernel
theorem dX5_become_52 : decode cX5_become 52 = .ok (.iload_n 2, 1) := by decide +kernel
theorem dX5_become_53 : decode cX5_become 53 = .ok (.aload_n 1, 1) := by decide +kernel
theorem dX5_become_54 : decode cX5_become 54 = .ok (.getfield 27, 3) := by decide +kernel
theorem dX5_become_57 : decode cX5_become 57 = .ok (.iload_n 2, 1) := by decide +kernel
theorem dX5_become_58 : decode cX5_become 58 = .ok (.iaload, 1) := by decide +kernel
theorem dX5_become_59 : decode cX5_become 59 = .ok (.iastore, 1) := by decide +kernel
theorem dX5_become_60 : decode cX5_become 60 = .ok (.iinc 2 1, 3) := by decide +kernel
theorem dX5_become_63 : decode cX5_become 63 = .ok (.goto (-21), 3) := by decide +kernel
theorem dX5_become_66 : decode cX5_become 66 = .ok (.iconst 0, 1) := by decide +kernel
theorem dX5_become_67 : decode cX5_become 67 = .ok (.istore_n 2, 1) := by decide +kernel
theorem dX5_become_68 : decode cX5_become 68 = .ok (.iload_n 2, 1) := by decide +kernel
theorem dX5_become_69 : decode cX5_become 69 = .ok (.aload_n 0, 1) := by decide +kernel
theorem dX5_become_70 : decode cX5_become 70 = .ok (.getfield 15, 3) := by decide +kernel
theorem dX5_become_73 : decode cX5_become 73 = .ok (.if_icmp .ge 24, 3) := by decide +kernel
theorem dX5_become_76 : decode cX5_become 76 = .ok (.aload_n 0, 1) := by decide +kernel
theorem dX5_become_77 : decode cX5_become 77 = .ok (.getfield 33, 3) := by decide +kernel
theorem dX5_become_80 : decode cX5_become 80 = .ok (.iload_n 2, 1) := by decide +kernel
theorem dX5_become_81 : decode cX5_become 81 = .ok (.aaload, 1) := by decide +kernel
theorem dX5_become_82 : decode cX5_become 82 = .ok (.aload_n 1, 1) := by decide +kernel
theorem dX5_become_83 : decode cX5_become 83 = .ok (.getfield 33, 3) := by decide +kernel
theorem dX5_become_86 : decode cX5_become 86 = .ok (.iload_n 2, 1) := by decide +kernel
theorem dX5_become_87 : decode cX5_become 87 = .ok (.aaload, 1) := by decide +kernel
theorem dX5_become_88 : decode cX5_become 88 = .ok (.invokevirtual 47, 3) := by decide +kernel
theorem dX5_become_91 : decode cX5_become 91 = .ok (.iinc 2 1, 3) := by decide +kernel
theorem dX5_become_94 : decode cX5_become 94 = .ok (.goto (-26), 3) := by decide +kernel
theorem dX5_become_97 : decode cX5_become 97 = .ok (.iconst 0, 1) := by decide +kernel
theorem dX5_become_98 : decode cX5_become 98 = .ok (.istore_n 2, 1) := by decide +kernel
theorem dX5_become_99 : decode cX5_become 99 = .ok (.iload_n 2, 1) := by decide +kernel
theorem dX5_become_100 : decode cX5_become 100 = .ok (.aload_n 0, 1) := by decide +kernel
theorem dX5_become_101 : decode cX5_become 101 = .ok (.getfield 18, 3) := by decide +kernel
theorem dX5_become_104 : decode cX5_become 104 = .ok (.if_icmp .ge 24, 3) := by decide +kernel
theorem dX5_become_107 : decode cX5_become 107 = .ok (.aload_n 0, 1) := by decide +kernel
theorem dX5_become_108 : decode cX5_become 108 = .ok (.getfield 39, 3) := by decide +kernel
theorem dX5_become_111 : decode cX5_become 111 = .ok (.iload_n 2, 1) := by decide +kernel
theorem dX5_become_112 : decode cX5_become 112 = .ok (.aaload, 1) := by decide +kernel
theorem dX5_become_113 : decode cX5_become 113 = .ok (.aload_n 1, 1) := by decide +kernel
theorem dX5_become_114 : decode cX5_become 114 = .ok (.getfield 39, 3) := by decide +kernel
theorem dX5_become_117 : decode cX5_become 117 = .ok (.iload_n 2, 1) := by decide +kernel
theorem dX5_become_118 : decode cX5_become 118 = .ok (.aaload, 1) := by decide +kernel
theorem dX5_become_119 : decode cX5_become 119 = .ok (.invokevirtual 51, 3) := by decide +kernel
theorem dX5_become_122 : decode cX5_become 122 = .ok (.iinc 2 1, 3) := by decide +kernel
theorem dX5_become_125 : decode cX5_become 125 = .ok (.goto (-26), 3) := by decide +kernel
theorem dX5_become_128 : decode cX5_become 128 = .ok (.return_, 1) := by decide +kernel
theorem dX5_live_0 : decode cX5_live 0 = .ok (.iload_n 2, 1) := by decide +kernel
theorem dX5_live_1 : decode cX5_live 1 = .ok (.istore_n 3, 1) := by decide +kernel
theorem dX5_live_2 : decode cX5_live 2 = .ok (.iconst 0, 1) := by decide +kernel
theorem dX5_live_3 : decode cX5_live 3 = .ok (.istore 4, 2) := by decide +kernel
theorem dX5_live_5 : decode cX5_live 5 = .ok (.iload 4, 2) := by decide +kernel
theorem dX5_live_7 : decode cX5_live 7 = .ok (.iload_n 1, 1) := by decide +kernel
theorem dX5_live_8 : decode cX5_live 8 = .ok (.if_icmp .ge 57, 3) := by decide +kernel
theorem dX5_live_11 : decode cX5_live 11 = .ok (.iconst 0, 1) := by decide +kernel
theorem dX5_live_12 : decode cX5_live 12 = .ok (.istore 5, 2) := by decide +kernel
theorem dX5_live_14 : decode cX5_live 14 = .ok (.iload 5, 2) := by decide +kernel
theorem dX5_live_16 : decode cX5_live 16 = .ok (.aload_n 0, 1) := by decide +kernel
theorem dX5_live_17 : decode cX5_live 17 = .ok (.getfield 18, 3) := by decide +kernel
theorem dX5_live_20 : decode cX5_live 20 = .ok (.if_icmp .ge 39, 3) := by decide +kernel
theorem dX5_live_23 : decode cX5_live 23 = .ok (.aload_n 0, 1) := by decide +kernel
theorem dX5_live_24 : decode cX5_live 24 = .ok (.getfield 39, 3) := by decide +kernel
theorem dX5_live_27 : decode cX5_live 27 = .ok (.iload 5, 2) := by decide +kernel
theorem dX5_live_29 : decode cX5_live 29 = .ok (.aaload, 1) := by decide +kernel
theorem dX5_live_30 : decode cX5_live 30 = .ok (.getfield 54, 3) := by decide +kernel
theorem dX5_live_33 : decode cX5_live 33 = .ok (.ifCond .ne 20, 3) := by decide +kernel
theorem dX5_live_36 : decode cX5_live 36 = .ok (.iload_n 3, 1) := by decide +kernel
theorem dX5_live_37 : decode cX5_live 37 = .ok (.invokestatic 58, 3) := by decide +kernel
theorem dX5_live_40 : decode cX5_live 40 = .ok (.istore_n 3, 1) := by decide +kernel
theorem dX5_live_41 : decode cX5_live 41 = .ok (.aload_n 0, 1) := by decide +kernel
theorem dX5_live_42 : decode cX5_live 42 = .ok (.aload_n 0, 1) := by decide +kernel
theorem dX5_live_43 : decode cX5_live 43 = .ok (.getfield 39, 3) := by decide +kernel
theorem dX5_live_46 : decode cX5_live 46 = .ok (.iload 5, 2) := by decide +kernel
theorem dX5_live_48 : decode cX5_live 48 = .ok (.aaload, 1) := by decide +kernel
theorem dX5_live_49 : decode cX5_live 49 = .ok (.iload_n 3, 1) := by decide +kernel
theorem dX5_live_50 : decode cX5_live 50 = .ok (.invokevirtual 62, 3) := by decide +kernel
theorem dX5_live_53 : decode cX5_live 53 = .ok (.iinc 5 1, 3) := by decide +kernel
theorem dX5_live_56 : decode cX5_live 56 = .ok (.goto (-42), 3) := by decide +kernel
theorem dX5_live_59 : decode cX5_live 59 = .ok (.iinc 4 1, 3) := by decide +kernel
theorem dX5_live_62 : decode cX5_live 62 = .ok (.goto (-57), 3) := by decide +kernel
theorem dX5_live_65 : decode cX5_live 65 = .ok (.iload_n 3, 1) := by decide +kernel
theorem dX5_live_66 : decode cX5_live 66 = .ok (.ireturn, 1) := by decide +kernel
theorem dX5_passMonth_0 : decode cX5_passMonth 0 = .ok (.aload_n 0, 1) := by decide +kernel
theorem dX5_passMonth_1 : decode cX5_passMonth 1 = .ok (.getfield 15, 3) := by decide +kernel
theorem dX5_passMonth_4 : decode cX5_passMonth 4 = .ok (.ifCond .ne 4, 3) := by decide +kernel
theorem dX5_passMonth_7 : decode cX5_passMonth 7 = .ok (.return_, 1) := by decide +kernel
theorem dX5_passMonth_8 : decode cX5_passMonth 8 = .ok (.aload_n 0, 1) := by decide +kernel
theorem dX5_passMonth_9 : decode cX5_passMonth 9 = .ok (.getfield 33, 3) := by decide +kernel
theorem dX5_passMonth_12 : decode cX5_passMonth 12 = .ok (.iload_n 2, 1) := by decide +kernel
theorem dX5_passMonth_13 : decode cX5_passMonth 13 = .ok (.ldc 66, 2) := by decide +kernel
theorem dX5_passMonth_15 : decode cX5_passMonth 15 = .ok (.idiv, 1) := by decide +kernel
theorem dX5_passMonth_16 : decode cX5_passMonth 16 = .ok (.aload_n 0, 1) := by decide +kernel
theorem dX5_passMonth_17 : decode cX5_passMonth 17 = .ok (.getfield 15, 3) := by decide +kernel
theorem dX5_passMonth_20 : decode cX5_passMonth 20 = .ok (.irem, 1) := by decide +kernel
theorem dX5_passMonth_21 : decode cX5_passMonth 21 = .ok (.aaload, 1) := by decide +kernel
theorem dX5_passMonth_22 : decode cX5_passMonth 22 = .ok (.astore_n 3, 1) := by decide +kernel
theorem dX5_passMonth_23 : decode cX5_passMonth 23 = .ok (.aload_n 1, 1) := by decide +kernel
theorem dX5_passMonth_24 : decode cX5_passMonth 24 = .ok (.aload_n 3, 1) := by decide +kernel
theorem dX5_passMonth_25 : decode cX5_passMonth 25 = .ok (.aload_n 3, 1) := by decide +kernel
theorem dX5_passMonth_26 : decode cX5_passMonth 26 = .ok (.getfield 67, 3) := by decide +kernel
theorem dX5_passMonth_29 : decode cX5_passMonth 29 = .ok (.invokevirtual 70, 3) := by decide +kernel
theorem dX5_passMonth_32 : decode cX5_passMonth 32 = .ok (.ifCond .eq 19, 3) := by decide +kernel
theorem dX5_passMonth_35 : decode cX5_passMonth 35 = .ok (.aload_n 1, 1) := by decide +kernel
theorem dX5_passMonth_36 : decode cX5_passMonth 36 = .ok (.aload_n 3, 1) := by decide +kernel
theorem dX5_passMonth_37 : decode cX5_passMonth 37 = .ok (.aload_n 3, 1) := by decide +kernel
theorem dX5_passMonth_38 : decode cX5_passMonth 38 = .ok (.getfield 67, 3) := by decide +kernel
theorem dX5_passMonth_41 : decode cX5_passMonth 41 = .ok (.aload_n 3, 1) := by decide +kernel
theorem dX5_passMonth_42 : decode cX5_passMonth 42 = .ok (.invokevirtual 74, 3) := by decide +kernel
theorem dX5_passMonth_45 : decode cX5_passMonth 45 = .ok (.invokevirtual 78, 3) := by decide +kernel
theorem dX5_passMonth_48 : decode cX5_passMonth 48 = .ok (.goto 7, 3) := by decide +kernel
theorem dX5_passMonth_51 : decode cX5_passMonth 51 = .ok (.aload_n 1, 1) := by decide +kernel
theorem dX5_passMonth_52 : decode cX5_passMonth 52 = .ok (.invokevirtual 82, 3) := by decide +kernel
theorem dX5_passMonth_55 : decode cX5_passMonth 55 = .ok (.aload_n 1, 1) := by decide +kernel
theorem dX5_passMonth_56 : decode cX5_passMonth 56 = .ok (.aload_n 0, 1) := by decide +kernel
theorem dX5_passMonth_57 : decode cX5_passMonth 57 = .ok (.getfield 9, 3) := by decide +kernel
theorem dX5_passMonth_60 : decode cX5_passMonth 60 = .ok (.invokevirtual 85, 3) := by decide +kernel
theorem dX5_passMonth_63 : decode cX5_passMonth 63 = .ok (.return_, 1) := by decide +kernel
theorem dX5_nextSeed_0 : decode cX5_nextSeed 0 = .ok (.ldc2_w 88, 3) := by decide +kernel
theorem dX5_nextSeed_3 : decode cX5_nextSeed 3 = .ok (.iload_n 0, 1) := by decide +kernel
theorem dX5_nextSeed_4 : decode cX5_nextSeed 4 = .ok (.i2l, 1) := by decide +kernel
theorem dX5_nextSeed_5 : decode cX5_nextSeed 5 = .ok (.lmul, 1) := by decide +kernel
theorem dX5_nextSeed_6 : decode cX5_nextSeed 6 = .ok (.ldc2_w 90, 3) := by decide +kernel
theorem dX5_nextSeed_9 : decode cX5_nextSeed 9 = .ok (.ladd, 1) := by decide +kernel
theorem dX5_nextSeed_10 : decode cX5_nextSeed 10 = .ok (.ldc2_w 92, 3) := by decide +kernel
theorem dX5_nextSeed_13 : decode cX5_nextSeed 13 = .ok (.land, 1) := by decide +kernel
theorem dX5_nextSeed_14 : decode cX5_nextSeed 14 = .ok (.l2i, 1) := by decide +kernel
theorem dX5_nextSeed_15 : decode cX5_nextSeed 15 = .ok (.ireturn, 1) := by decide +kernel
theorem dX5_letInCount_0 : decode cX5_letInCount 0 = .ok (.iconst 0, 1) := by decide +kernel
theorem dX5_letInCount_1 : decode cX5_letInCount 1 = .ok (.istore_n 1, 1) := by decide +kernel
theorem dX5_letInCount_2 : decode cX5_letInCount 2 = .ok (.iconst 0, 1) := by decide +kernel
theorem dX5_letInCount_3 : decode cX5_letInCount 3 = .ok (.istore_n 2, 1) := by decide +kernel
theorem dX5_letInCount_4 : decode cX5_letInCount 4 = .ok (.iload_n 2, 1) := by decide +kernel
theorem dX5_letInCount_5 : decode cX5_letInCount 5 = .ok (.aload_n 0, 1) := by decide +kernel
theorem dX5_letInCount_6 : decode cX5_letInCount 6 = .ok (.getfield 18, 3) := by decide +kernel
theorem dX5_letInCount_9 : decode cX5_letInCount 9 = .ok (.if_icmp .ge 29, 3) := by decide +kernel
theorem dX5_letInCount_12 : decode cX5_letInCount 12 = .ok (.iload_n 1, 1) := by decide +kernel
theorem dX5_letInCount_13 : decode cX5_letInCount 13 = .ok (.aload_n 0, 1) := by decide +kernel
theorem dX5_letInCount_14 : decode cX5_letInCount 14 = .ok (.getfield 39, 3) := by decide +kernel
theorem dX5_letInCount_17 : decode cX5_letInCount 17 = .ok (.iload_n 2, 1) := by decide +kernel
theorem dX5_letInCount_18 : decode cX5_letInCount 18 = .ok (.aaload, 1) := by decide +kernel
theorem dX5_letInCount_19 : decode cX5_letInCount 19 = .ok (.getfield 54, 3) := by decide +kernel
theorem dX5_letInCount_22 : decode cX5_letInCount 22 = .ok (.ifCond .eq 7, 3) := by decide +kernel
theorem dX5_letInCount_25 : decode cX5_letInCount 25 = .ok (.iconst 1, 1) := by decide +kernel
theorem dX5_letInCount_26 : decode cX5_letInCount 26 = .ok (.goto 4, 3) := by decide +kernel
theorem dX5_letInCount_29 : decode cX5_letInCount 29 = .ok (.iconst 0, 1) := by decide +kernel
theorem dX5_letInCount_30 : decode cX5_letInCount 30 = .ok (.iadd, 1) := by decide +kernel
theorem dX5_letInCount_31 : decode cX5_letInCount 31 = .ok (.istore_n 1, 1) := by decide +kernel
theorem dX5_letInCount_32 : decode cX5_letInCount 32 = .ok (.iinc 2 1, 3) := by decide +kernel
theorem dX5_letInCount_35 : decode cX5_letInCount 35 = .ok (.goto (-31), 3) := by decide +kernel
theorem dX5_letInCount_38 : decode cX5_letInCount 38 = .ok (.iload_n 1, 1) := by decide +kernel
theorem dX5_letInCount_39 : decode cX5_letInCount 39 = .ok (.ireturn, 1) := by decide +kernel
theorem dX5_hurtOfAll_0 : decode cX5_hurtOfAll 0 = .ok (.iconst 0, 1) := by decide +kernel
theorem dX5_hurtOfAll_1 : decode cX5_hurtOfAll 1 = .ok (.istore_n 1, 1) := by decide +kernel
theorem dX5_hurtOfAll_2 : decode cX5_hurtOfAll 2 = .ok (.iconst 0, 1) := by decide +kernel
theorem dX5_hurtOfAll_3 : decode cX5_hurtOfAll 3 = .ok (.istore_n 2, 1) := by decide +kernel
theorem dX5_hurtOfAll_4 : decode cX5_hurtOfAll 4 = .ok (.iload_n 2, 1) := by decide +kernel
theorem dX5_hurtOfAll_5 : decode cX5_hurtOfAll 5 = .ok (.aload_n 0, 1) := by decide +kernel
theorem dX5_hurtOfAll_6 : decode cX5_hurtOfAll 6 = .ok (.getfield 18, 3) := by decide +kernel
theorem dX5_hurtOfAll_9 : decode cX5_hurtOfAll 9 = .ok (.if_icmp .ge 21, 3) := by decide +kernel
theorem dX5_hurtOfAll_12 : decode cX5_hurtOfAll 12 = .ok (.iload_n 1, 1) := by decide +kernel
theorem dX5_hurtOfAll_13 : decode cX5_hurtOfAll 13 = .ok (.aload_n 0, 1) := by decide +kernel
theorem dX5_hurtOfAll_14 : decode cX5_hurtOfAll 14 = .ok (.getfield 39, 3) := by decide +kernel
theorem dX5_hurtOfAll_17 : decode cX5_hurtOfAll 17 = .ok (.iload_n 2, 1) := by decide +kernel
theorem dX5_hurtOfAll_18 : decode cX5_hurtOfAll 18 = .ok (.aaload, 1) := by decide +kernel
theorem dX5_hurtOfAll_19 : decode cX5_hurtOfAll 19 = .ok (.getfield 94, 3) := by decide +kernel
theorem dX5_hurtOfAll_22 : decode cX5_hurtOfAll 22 = .ok (.iadd, 1) := by decide +kernel
theorem dX5_hurtOfAll_23 : decode cX5_hurtOfAll 23 = .ok (.istore_n 1, 1) := by decide +kernel
theorem dX5_hurtOfAll_24 : decode cX5_hurtOfAll 24 = .ok (.iinc 2 1, 3) := by decide +kernel
theorem dX5_hurtOfAll_27 : decode cX5_hurtOfAll 27 = .ok (.goto (-23), 3) := by decide +kernel
theorem dX5_hurtOfAll_30 : decode cX5_hurtOfAll 30 = .ok (.iload_n 1, 1) := by decide +kernel
theorem dX5_hurtOfAll_31 : decode cX5_hurtOfAll 31 = .ok (.ireturn, 1) := by decide +kernel
theorem dX5_countedByAll_0 : decode cX5_countedByAll 0 = .ok (.iconst 0, 1) := by decide +kernel
theorem dX5_countedByAll_1 : decode cX5_countedByAll 1 = .ok (.istore_n 1, 1) := by decide +kernel
theorem dX5_countedByAll_2 : decode cX5_countedByAll 2 = .ok (.iconst 0, 1) := by decide +kernel
theorem dX5_countedByAll_3 : decode cX5_countedByAll 3 = .ok (.istore_n 2, 1) := by decide +kernel
theorem dX5_countedByAll_4 : decode cX5_countedByAll 4 = .ok (.iload_n 2, 1) := by decide +kernel
theorem dX5_countedByAll_5 : decode cX5_countedByAll 5 = .ok (.aload_n 0, 1) := by decide +kernel
theorem dX5_countedByAll_6 : decode cX5_countedByAll 6 = .ok (.getfield 18, 3) := by decide +kernel
theorem dX5_countedByAll_9 : decode cX5_countedByAll 9 = .ok (.if_icmp .ge 21, 3) := by decide +kernel
theorem dX5_countedByAll_12 : decode cX5_countedByAll 12 = .ok (.iload_n 1, 1) := by decide +kernel
theorem dX5_countedByAll_13 : decode cX5_countedByAll 13 = .ok (.aload_n 0, 1) := by decide +kernel
theorem dX5_countedByAll_14 : decode cX5_countedByAll 14 = .ok (.getfield 39, 3) := by decide +kernel
theorem dX5_countedByAll_17 : decode cX5_countedByAll 17 = .ok (.iload_n 2, 1) := by decide +kernel
theorem dX5_countedByAll_18 : decode cX5_countedByAll 18 = .ok (.aaload, 1) := by decide +kernel
theorem dX5_countedByAll_19 : decode cX5_countedByAll 19 = .ok (.getfield 97, 3) := by decide +kernel
theorem dX5_countedByAll_22 : decode cX5_countedByAll 22 = .ok (.iadd, 1) := by decide +kernel
theorem dX5_countedByAll_23 : decode cX5_countedByAll 23 = .ok (.istore_n 1, 1) := by decide +kernel
theorem dX5_countedByAll_24 : decode cX5_countedByAll 24 = .ok (.iinc 2 1, 3) := by decide +kernel
theorem dX5_countedByAll_27 : decode cX5_countedByAll 27 = .ok (.goto (-23), 3) := by decide +kernel
theorem dX5_countedByAll_30 : decode cX5_countedByAll 30 = .ok (.iload_n 1, 1) := by decide +kernel
theorem dX5_countedByAll_31 : decode cX5_countedByAll 31 = .ok (.ireturn, 1) := by decide +kernel
theorem dX6_init_0 : decode cX6_init 0 = .ok (.aload_n 0, 1) := by decide +kernel
theorem dX6_init_1 : decode cX6_init 1 = .ok (.invokespecial 1, 3) := by decide +kernel
theorem dX6_init_4 : decode cX6_init 4 = .ok (.aload_n 0, 1) := by decide +kernel
theorem dX6_init_5 : decode cX6_init 5 = .ok (.new 7, 3) := by decide +kernel
theorem dX6_init_8 : decode cX6_init 8 = .ok (.dup, 1) := by decide +kernel
theorem dX6_init_9 : decode cX6_init 9 = .ok (.invokespecial 9, 3) := by decide +kernel
theorem dX6_init_12 : decode cX6_init 12 = .ok (.putfield 10, 3) := by decide +kernel
theorem dX6_init_15 : decode cX6_init 15 = .ok (.aload_n 0, 1) := by decide +kernel
theorem dX6_init_16 : decode cX6_init 16 = .ok (.new 16, 3) := by decide +kernel
theorem dX6_init_19 : decode cX6_init 19 = .ok (.dup, 1) := by decide +kernel
theorem dX6_init_20 : decode cX6_init 20 = .ok (.invokespecial 18, 3) := by decide +kernel
theorem dX6_init_23 : decode cX6_init 23 = .ok (.putfield 19, 3) := by decide +kernel
theorem dX6_init_26 : decode cX6_init 26 = .ok (.aload_n 0, 1) := by decide +kernel
theorem dX6_init_27 : decode cX6_init 27 = .ok (.new 16, 3) := by decide +kernel
theorem dX6_init_30 : decode cX6_init 30 = .ok (.dup, 1) := by decide +kernel
theorem dX6_init_31 : decode cX6_init 31 = .ok (.invokespecial 18, 3) := by decide +kernel
theorem dX6_init_34 : decode cX6_init 34 = .ok (.putfield 23, 3) := by decide +kernel
theorem dX6_init_37 : decode cX6_init 37 = .ok (.aload_n 0, 1) := by decide +kernel
theorem dX6_init_38 : decode cX6_init 38 = .ok (.new 16, 3) := by decide +kernel
theorem dX6_init_41 : decode cX6_init 41 = .ok (.dup, 1) := by decide +kernel
theorem dX6_init_42 : decode cX6_init 42 = .ok (.invokespecial 18, 3) := by decide +kernel
theorem dX6_init_45 : decode cX6_init 45 = .ok (.putfield 26, 3) := by decide +kernel
theorem dX6_init_48 : decode cX6_init 48 = .ok (.aload_n 0, 1) := by decide +kernel
theorem dX6_init_49 : decode cX6_init 49 = .ok (.new 29, 3) := by decide +kernel
theorem dX6_init_52 : decode cX6_init 52 = .ok (.dup, 1) := by decide +kernel
theorem dX6_init_53 : decode cX6_init 53 = .ok (.invokespecial 31, 3) := by decide +kernel
theorem dX6_init_56 : decode cX6_init 56 = .ok (.putfield 32, 3) := by decide +kernel
theorem dX6_init_59 : decode cX6_init 59 = .ok (.aload_n 0, 1) := by decide +kernel
theorem dX6_init_60 : decode cX6_init 60 = .ok (.new 36, 3) := by decide +kernel
theorem dX6_init_63 : decode cX6_init 63 = .ok (.dup, 1) := by decide +kernel
theorem dX6_init_64 : decode cX6_init 64 = .ok (.invokespecial 38, 3) := by decide +kernel
theorem dX6_init_67 : decode cX6_init 67 = .ok (.putfield 39, 3) := by decide +kernel
theorem dX6_init_70 : decode cX6_init 70 = .ok (.aload_n 0, 1) := by decide +kernel
theorem dX6_init_71 : decode cX6_init 71 = .ok (.iconst 0, 1) := by decide +kernel
theorem dX6_init_72 : decode cX6_init 72 = .ok (.putfield 43, 3) := by decide +kernel
theorem dX6_init_75 : decode cX6_init 75 = .ok (.aload_n 0, 1) := by decide +kernel
theorem dX6_init_76 : decode cX6_init 76 = .ok (.iconst 0, 1) := by decide +kernel
theorem dX6_init_77 : decode cX6_init 77 = .ok (.putfield 47, 3) := by decide +kernel
theorem dX6_init_80 : decode cX6_init 80 = .ok (.aload_n 0, 1) := by decide +kernel
theorem dX6_init_81 : decode cX6_init 81 = .ok (.iconst 0, 1) := by decide +kernel
theorem dX6_init_82 : decode cX6_init 82 = .ok (.putfield 51, 3) := by decide +kernel
theorem dX6_init_85 : decode cX6_init 85 = .ok (.return_, 1) := by decide +kernel
theorem dX6_letter_0 : decode cX6_letter 0 = .ok (.iload_n 1, 1) := by decide +kernel
theorem dX6_letter_1 : decode cX6_letter 1 = .ok (.iconst 1, 1) := by decide +kernel
theorem dX6_letter_2 : decode cX6_letter 2 = .ok (.if_icmp .lt 9, 3) := by decide +kernel
theorem dX6_letter_5 : decode cX6_letter 5 = .ok (.iload_n 1, 1) := by decide +kernel
theorem dX6_letter_6 : decode cX6_letter 6 = .ok (.bipush 126, 2) := by decide +kernel
theorem dX6_letter_8 : decode cX6_letter 8 = .ok (.if_icmp .le 6, 3) := by decide +kernel
theorem dX6_letter_11 : decode cX6_letter 11 = .ok (.bipush (-102), 2) := by decide +kernel
theorem dX6_letter_13 : decode cX6_letter 13 = .ok (.ireturn, 1) := by decide +kernel
theorem dX6_letter_14 : decode cX6_letter 14 = .ok (.aload_n 0, 1) := by decide +kernel
theorem dX6_letter_15 : decode cX6_letter 15 = .ok (.getfield 10, 3) := by decide +kernel
theorem dX6_letter_18 : decode cX6_letter 18 = .ok (.iload_n 1, 1) := by decide +kernel
theorem dX6_letter_19 : decode cX6_letter 19 = .ok (.invokevirtual 54, 3) := by decide +kernel
theorem dX6_letter_22 : decode cX6_letter 22 = .ok (.ifCond .eq 13, 3) := by decide +kernel
theorem dX6_letter_25 : decode cX6_letter 25 = .ok (.aload_n 0, 1) := by decide +kernel
theorem dX6_letter_26 : decode cX6_letter 26 = .ok (.getfield 10, 3) := by decide +kernel
theorem dX6_letter_29 : decode cX6_letter 29 = .ok (.getfield 58, 3) := by decide +kernel
theorem dX6_letter_32 : decode cX6_letter 32 = .ok (.goto 5, 3) := by decide +kernel
theorem dX6_letter_35 : decode cX6_letter 35 = .ok (.bipush (-104), 2) := by decide +kernel
theorem dX6_letter_37 : decode cX6_letter 37 = .ok (.ireturn, 1) := by decide +kernel
theorem dX6_blank_0 : decode cX6_blank 0 = .ok (.aload_n 0, 1) := by decide +kernel
theorem dX6_blank_1 : decode cX6_blank 1 = .ok (.getfield 10, 3) := by decide +kernel
theorem dX6_blank_4 : decode cX6_blank 4 = .ok (.getfield 58, 3) := by decide +kernel
theorem dX6_blank_7 : decode cX6_blank 7 = .ok (.istore_n 1, 1) := by decide +kernel
theorem dX6_blank_8 : decode cX6_blank 8 = .ok (.aload_n 0, 1) := by decide +kernel
theorem dX6_blank_9 : decode cX6_blank 9 = .ok (.getfield 10, 3) := by decide +kernel
theorem dX6_blank_12 : decode cX6_blank 12 = .ok (.iconst 0, 1) := by decide +kernel
theorem dX6_blank_13 : decode cX6_blank 13 = .ok (.putfield 58, 3) := by decide +kernel
theorem dX6_blank_16 : decode cX6_blank 16 = .ok (.iload_n 1, 1) := by decide +kernel
theorem dX6_blank_17 : decode cX6_blank 17 = .ok (.ireturn, 1) := by decide +kernel
theorem dX6_fault_0 : decode cX6_fault 0 = .ok (.aload_n 0, 1) := by decide +kernel
theorem dX6_fault_1 : decode cX6_fault 1 = .ok (.getfield 10, 3) := by decide +kernel
theorem dX6_fault_4 : decode cX6_fault 4 = .ok (.invokevirtual 61, 3) := by decide +kernel
theorem dX6_fault_7 : decode cX6_fault 7 = .ok (.ireturn, 1) := by decide +kernel
theorem dX6_roads_0 : decode cX6_roads 0 = .ok (.aload_n 0, 1) := by decide +kernel
theorem dX6_roads_1 : decode cX6_roads 1 = .ok (.getfield 10, 3) := by decide +kernel
theorem dX6_roads_4 : decode cX6_roads 4 = .ok (.invokevirtual 65, 3) := by decide +kernel
theorem dX6_roads_7 : decode cX6_roads 7 = .ok (.ifCond .ne 6, 3) := by decide +kernel
theorem dX6_roads_10 : decode cX6_roads 10 = .ok (.bipush (-103), 2) := by decide +kernel
theorem dX6_roads_12 : decode cX6_roads 12 = .ok (.ireturn, 1) := by decide +kernel
theorem dX6_roads_13 : decode cX6_roads 13 = .ok (.aload_n 0, 1) := by decide +kernel
theorem dX6_roads_14 : decode cX6_roads 14 = .ok (.getfield 19, 3) := by decide +kernel
theorem dX6_roads_17 : decode cX6_roads 17 = .ok (.invokevirtual 69, 3) := by decide +kernel
theorem dX6_roads_20 : decode cX6_roads 20 = .ok (.aload_n 0, 1) := by decide +kernel
theorem dX6_roads_21 : decode cX6_roads 21 = .ok (.getfield 10, 3) := by decide +kernel
theorem dX6_roads_24 : decode cX6_roads 24 = .ok (.aload_n 0, 1) := by decide +kernel
theorem dX6_roads_25 : decode cX6_roads 25 = .ok (.getfield 19, 3) := by decide +kernel
theorem dX6_roads_28 : decode cX6_roads 28 = .ok (.invokevirtual 72, 3) := by decide +kernel
theorem dX6_roads_31 : decode cX6_roads 31 = .ok (.aload_n 0, 1) := by decide +kernel
theorem dX6_roads_32 : decode cX6_roads 32 = .ok (.getfield 10, 3) := by decide +kernel
theorem dX6_roads_35 : decode cX6_roads 35 = .ok (.iconst 0, 1) := by decide +kernel
theorem dX6_roads_36 : decode cX6_roads 36 = .ok (.putfield 58, 3) := by decide +kernel
theorem dX6_roads_39 : decode cX6_roads 39 = .ok (.aload_n 0, 1) := by decide +kernel
theorem dX6_roads_40 : decode cX6_roads 40 = .ok (.iconst 0, 1) := by decide +kernel
theorem dX6_roads_41 : decode cX6_roads 41 = .ok (.putfield 43, 3) := by decide +kernel
theorem dX6_roads_44 : decode cX6_roads 44 = .ok (.aload_n 0, 1) := by decide +kernel
theorem dX6_roads_45 : decode cX6_roads 45 = .ok (.dup, 1) := by decide +kernel
theorem dX6_roads_46 : decode cX6_roads 46 = .ok (.getfield 47, 3) := by decide +kernel
theorem dX6_roads_49 : decode cX6_roads 49 = .ok (.iconst 1, 1) := by decide +kernel
theorem dX6_roads_50 : decode cX6_roads 50 = .ok (.iadd, 1) := by decide +kernel
theorem dX6_roads_51 : decode cX6_roads 51 = .ok (.putfield 47, 3) := by decide +kernel
theorem dX6_roads_54 : decode cX6_roads 54 = .ok (.aload_n 0, 1) := by decide +kernel
theorem dX6_roads_55 : decode cX6_roads 55 = .ok (.getfield 39, 3) := by decide +kernel
theorem dX6_roads_58 : decode cX6_roads 58 = .ok (.invokevirtual 76, 3) := by decide +kernel
theorem dX6_roads_61 : decode cX6_roads 61 = .ok (.aload_n 0, 1) := by decide +kernel
theorem dX6_roads_62 : decode cX6_roads 62 = .ok (.getfield 19, 3) := by decide +kernel
theorem dX6_roads_65 : decode cX6_roads 65 = .ok (.getfield 79, 3) := by decide +kernel
theorem dX6_roads_68 : decode cX6_roads 68 = .ok (.ireturn, 1) := by decide +kernel
theorem dX6_road_0 : decode cX6_road 0 = .ok (.aload_n 0, 1) := by decide +kernel
theorem dX6_road_1 : decode cX6_road 1 = .ok (.iload_n 1, 1) := by decide +kernel
theorem dX6_road_2 : decode cX6_road 2 = .ok (.invokevirtual 82, 3) := by decide +kernel
theorem dX6_road_5 : decode cX6_road 5 = .ok (.ifCond .ne 6, 3) := by decide +kernel
theorem dX6_road_8 : decode cX6_road 8 = .ok (.bipush (-101), 2) := by decide +kernel
theorem dX6_road_10 : decode cX6_road 10 = .ok (.ireturn, 1) := by decide +kernel
theorem dX6_road_11 : decode cX6_road 11 = .ok (.aload_n 0, 1) := by decide +kernel
theorem dX6_road_12 : decode cX6_road 12 = .ok (.getfield 19, 3) := by decide +kernel
theorem dX6_road_15 : decode cX6_road 15 = .ok (.getfield 85, 3) := by decide +kernel
theorem dX6_road_18 : decode cX6_road 18 = .ok (.iload_n 1, 1) := by decide +kernel
theorem dX6_road_19 : decode cX6_road 19 = .ok (.aaload, 1) := by decide +kernel
theorem dX6_road_20 : decode cX6_road 20 = .ok (.astore_n 3, 1) := by decide +kernel
theorem dX6_road_21 : decode cX6_road 21 = .ok (.iload_n 2, 1) := by decide +kernel
theorem dX6_road_22 : decode cX6_road 22 = .ok (.tableswitch 71 0 5 #[38, 43, 48, 53, 58, 63], 38) := by decide +kernel
theorem dX6_road_60 : decode cX6_road 60 = .ok (.aload_n 3, 1) := by decide +kernel
theorem dX6_road_61 : decode cX6_road 61 = .ok (.getfield 89, 3) := by decide +kernel
theorem dX6_road_64 : decode cX6_road 64 = .ok (.ireturn, 1) := by decide +kernel
theorem dX6_road_65 : decode cX6_road 65 = .ok (.aload_n 3, 1) := by decide +kernel
theorem dX6_road_66 : decode cX6_road 66 = .ok (.getfield 94, 3) := by decide +kernel
theorem dX6_road_69 : decode cX6_road 69 = .ok (.ireturn, 1) := by decide +kernel
theorem dX6_road_70 : decode cX6_road 70 = .ok (.aload_n 3, 1) := by decide +kernel
theorem dX6_road_71 : decode cX6_road 71 = .ok (.getfield 97, 3) := by decide +kernel
theorem dX6_road_74 : decode cX6_road 74 = .ok (.ireturn, 1) := by decide +kernel
theorem dX6_road_75 : decode cX6_road 75 = .ok (.aload_n 3, 1) := by decide +kernel
theorem dX6_road_76 : decode cX6_road 76 = .ok (.getfield 100, 3) := by decide +kernel
theorem dX6_road_79 : decode cX6_road 79 = .ok (.ireturn, 1) := by decide +kernel
theorem dX6_road_80 : decode cX6_road 80 = .ok (.aload_n 3, 1) := by decide +kernel
theorem dX6_road_81 : decode cX6_road 81 = .ok (.invokevirtual 103, 3) := by decide +kernel
theorem dX6_road_84 : decode cX6_road 84 = .ok (.ireturn, 1) := by decide +kernel
theorem dX6_road_85 : decode cX6_road 85 = .ok (.aload_n 3, 1) := by decide +kernel
theorem dX6_road_86 : decode cX6_road 86 = .ok (.getfield 106, 3) := by decide +kernel
theorem dX6_road_89 : decode cX6_road 89 = .ok (.invokestatic 109, 3) := by decide +kernel
theorem dX6_road_92 : decode cX6_road 92 = .ok (.ireturn, 1) := by decide +kernel
theorem dX6_road_93 : decode cX6_road 93 = .ok (.bipush (-102), 2) := by decide +kernel
theorem dX6_road_95 : decode cX6_road 95 = .ok (.ireturn, 1) := by decide +kernel
theorem dX6_as_0 : decode cX6_as 0 = .ok (.aload_n 0, 1) := by decide +kernel
theorem dX6_as_1 : decode cX6_as 1 = .ok (.iload_n 1, 1) := by decide +kernel
theorem dX6_as_2 : decode cX6_as 2 = .ok (.invokevirtual 82, 3) := by decide +kernel
theorem dX6_as_5 : decode cX6_as 5 = .ok (.ifCond .ne 6, 3) := by decide +kernel
theorem dX6_as_8 : decode cX6_as 8 = .ok (.bipush (-101), 2) := by decide +kernel
theorem dX6_as_10 : decode cX6_as 10 = .ok (.ireturn, 1) := by decide +kernel
theorem dX6_as_11 : decode cX6_as 11 = .ok (.iload_n 2, 1) := by decide +kernel
theorem dX6_as_12 : decode cX6_as 12 = .ok (.ifCond .lt 8, 3) := by decide +kernel
theorem dX6_as_15 : decode cX6_as 15 = .ok (.iload_n 2, 1) := by decide +kernel
theorem dX6_as_16 : decode cX6_as 16 = .ok (.iconst 4, 1) := by decide +kernel
theorem dX6_as_17 : decode cX6_as 17 = .ok (.if_icmp .le 6, 3) := by decide +kernel
theorem dX6_as_20 : decode cX6_as 20 = .ok (.bipush (-102), 2) := by decide +kernel
theorem dX6_as_22 : decode cX6_as 22 = .ok (.ireturn, 1) := by decide +kernel
theorem dX6_as_23 : decode cX6_as 23 = .ok (.aload_n 0, 1) := by decide +kernel
theorem dX6_as_24 : decode cX6_as 24 = .ok (.getfield 19, 3) := by decide +kernel
theorem dX6_as_27 : decode cX6_as 27 = .ok (.getfield 85, 3) := by decide +kernel
theorem dX6_as_30 : decode cX6_as 30 = .ok (.iload_n 1, 1) := by decide +kernel
theorem dX6_as_31 : decode cX6_as 31 = .ok (.aaload, 1) := by decide +kernel
theorem dX6_as_32 : decode cX6_as 32 = .ok (.iload_n 2, 1) := by decide +kernel
theorem dX6_as_33 : decode cX6_as 33 = .ok (.invokevirtual 113, 3) := by decide +kernel
theorem dX6_as_36 : decode cX6_as 36 = .ok (.ifCond .eq 7, 3) := by decide +kernel
theorem dX6_as_39 : decode cX6_as 39 = .ok (.iload_n 1, 1) := by decide +kernel
theorem dX6_as_40 : decode cX6_as 40 = .ok (.goto 4, 3) := by decide +kernel
theorem dX6_as_43 : decode cX6_as 43 = .ok (.iconst (-1), 1) := by decide +kernel
theorem dX6_as_44 : decode cX6_as 44 = .ok (.ireturn, 1) := by decide +kernel
theorem dX6_worsen_0 : decode cX6_worsen 0 = .ok (.aload_n 0, 1) := by decide +kernel
theorem dX6_worsen_1 : decode cX6_worsen 1 = .ok (.iload_n 1, 1) := by decide +kernel
theorem dX6_worsen_2 : decode cX6_worsen 2 = .ok (.invokevirtual 82, 3) := by decide +kernel
theorem dX6_worsen_5 : decode cX6_worsen 5 = .ok (.ifCond .ne 6, 3) := by decide +kernel
theorem dX6_worsen_8 : decode cX6_worsen 8 = .ok (.bipush (-101), 2) := by decide +kernel
theorem dX6_worsen_10 : decode cX6_worsen 10 = .ok (.ireturn, 1) := by decide +kernel
theorem dX6_worsen_11 : decode cX6_worsen 11 = .ok (.iload_n 2, 1) := by decide +kernel
theorem dX6_worsen_12 : decode cX6_worsen 12 = .ok (.iconst 1, 1) := by decide +kernel
theorem dX6_worsen_13 : decode cX6_worsen 13 = .ok (.if_icmp .lt 9, 3) := by decide +kernel
theorem dX6_worsen_16 : decode cX6_worsen 16 = .ok (.iload_n 2, 1) := by decide +kernel
theorem dX6_worsen_17 : decode cX6_worsen 17 = .ok (.bipush 9, 2) := by decide +kernel
theorem dX6_worsen_19 : decode cX6_worsen 19 = .ok (.if_icmp .le 6, 3) := by decide +kernel
theorem dX6_worsen_22 : decode cX6_worsen 22 = .ok (.bipush (-102), 2) := by decide +kernel
theorem dX6_worsen_24 : decode cX6_worsen 24 = .ok (.ireturn, 1) := by decide +kernel
theorem dX6_worsen_25 : decode cX6_worsen 25 = .ok (.aload_n 0, 1) := by decide +kernel
theorem dX6_worsen_26 : decode cX6_worsen 26 = .ok (.getfield 19, 3) := by decide +kernel
theorem dX6_worsen_29 : decode cX6_worsen 29 = .ok (.getfield 85, 3) := by decide +kernel
theorem dX6_worsen_32 : decode cX6_worsen 32 = .ok (.iload_n 1, 1) := by decide +kernel
theorem dX6_worsen_33 : decode cX6_worsen 33 = .ok (.aaload, 1) := by decide +kernel
theorem dX6_worsen_34 : decode cX6_worsen 34 = .ok (.getfield 100, 3) := by decide +kernel
theorem dX6_worsen_37 : decode cX6_worsen 37 = .ok (.istore_n 3, 1) := by decide +kernel
theorem dX6_worsen_38 : decode cX6_worsen 38 = .ok (.aload_n 0, 1) := by decide +kernel
theorem dX6_worsen_39 : decode cX6_worsen 39 = .ok (.getfield 19, 3) := by decide +kernel
theorem dX6_worsen_42 : decode cX6_worsen 42 = .ok (.getfield 85, 3) := by decide +kernel
theorem dX6_worsen_45 : decode cX6_worsen 45 = .ok (.iload_n 1, 1) := by decide +kernel
theorem dX6_worsen_46 : decode cX6_worsen 46 = .ok (.aaload, 1) := by decide +kernel
theorem dX6_worsen_47 : decode cX6_worsen 47 = .ok (.iload_n 2, 1) := by decide +kernel
theorem dX6_worsen_48 : decode cX6_worsen 48 = .ok (.putfield 100, 3) := by decide +kernel
theorem dX6_worsen_51 : decode cX6_worsen 51 = .ok (.iload_n 3, 1) := by decide +kernel
theorem dX6_worsen_52 : decode cX6_worsen 52 = .ok (.ireturn, 1) := by decide +kernel
theorem dX6_licence_0 : decode cX6_licence 0 = .ok (.aload_n 0, 1) := by decide +kernel
theorem dX6_licence_1 : decode cX6_licence 1 = .ok (.iload_n 1, 1) := by decide +kernel
theorem dX6_licence_2 : decode cX6_licence 2 = .ok (.invokevirtual 82, 3) := by decide +kernel
theorem dX6_licence_5 : decode cX6_licence 5 = .ok (.ifCond .ne 6, 3) := by decide +kernel
theorem dX6_licence_8 : decode cX6_licence 8 = .ok (.bipush (-101), 2) := by decide +kernel
theorem dX6_licence_10 : decode cX6_licence 10 = .ok (.ireturn, 1) := by decide +kernel
theorem dX6_licence_11 : decode cX6_licence 11 = .ok (.aload_n 0, 1) := by decide +kernel
theorem dX6_licence_12 : decode cX6_licence 12 = .ok (.getfield 19, 3) := by decide +kernel
theorem dX6_licence_15 : decode cX6_licence 15 = .ok (.getfield 85, 3) := by decide +kernel
theorem dX6_licence_18 : decode cX6_licence 18 = .ok (.iload_n 1, 1) := by decide +kernel
theorem dX6_licence_19 : decode cX6_licence 19 = .ok (.aaload, 1) := by decide +kernel
theorem dX6_licence_20 : decode cX6_licence 20 = .ok (.getfield 106, 3) := by decide +kernel
theorem dX6_licence_23 : decode cX6_licence 23 = .ok (.invokestatic 109, 3) := by decide +kernel
theorem dX6_licence_26 : decode cX6_licence 26 = .ok (.istore_n 3, 1) := by decide +kernel
theorem dX6_licence_27 : decode cX6_licence 27 = .ok (.aload_n 0, 1) := by decide +kernel
theorem dX6_licence_28 : decode cX6_licence 28 = .ok (.getfield 19, 3) := by decide +kernel
theorem dX6_licence_31 : decode cX6_licence 31 = .ok (.getfield 85, 3) := by decide +kernel
theorem dX6_licence_34 : decode cX6_licence 34 = .ok (.iload_n 1, 1) := by decide +kernel
theorem dX6_licence_35 : decode cX6_licence 35 = .ok (.aaload, 1) := by decide +kernel
theorem dX6_licence_36 : decode cX6_licence 36 = .ok (.iload_n 2, 1) := by decide +kernel
theorem dX6_licence_37 : decode cX6_licence 37 = .ok (.putfield 106, 3) := by decide +kernel
theorem dX6_licence_40 : decode cX6_licence 40 = .ok (.aload_n 0, 1) := by decide +kernel
theorem dX6_licence_41 : decode cX6_licence 41 = .ok (.getfield 39, 3) := by decide +kernel
theorem dX6_licence_44 : decode cX6_licence 44 = .ok (.invokevirtual 76, 3) := by decide +kernel
theorem dX6_licence_47 : decode cX6_licence 47 = .ok (.iload_n 3, 1) := by decide +kernel
theorem dX6_licence_48 : decode cX6_licence 48 = .ok (.ireturn, 1) := by decide +kernel
theorem dX6_pilgrim_0 : decode cX6_pilgrim 0 = .ok (.aload_n 0, 1) := by decide +kernel
theorem dX6_pilgrim_1 : decode cX6_pilgrim 1 = .ok (.getfield 19, 3) := by decide +kernel
theorem dX6_pilgrim_4 : decode cX6_pilgrim 4 = .ok (.getfield 79, 3) := by decide +kernel
theorem dX6_pilgrim_7 : decode cX6_pilgrim 7 = .ok (.ifCond .ne 6, 3) := by decide +kernel
theorem dX6_pilgrim_10 : decode cX6_pilgrim 10 = .ok (.bipush (-103), 2) := by decide +kernel
theorem dX6_pilgrim_12 : decode cX6_pilgrim 12 = .ok (.ireturn, 1) := by decide +kernel
theorem dX6_pilgrim_13 : decode cX6_pilgrim 13 = .ok (.aload_n 0, 1) := by decide +kernel
theorem dX6_pilgrim_14 : decode cX6_pilgrim 14 = .ok (.getfield 19, 3) := by decide +kernel
theorem dX6_pilgrim_17 : decode cX6_pilgrim 17 = .ok (.getfield 116, 3) := by decide +kernel
theorem dX6_pilgrim_20 : decode cX6_pilgrim 20 = .ok (.iconst 4, 1) := by decide +kernel
theorem dX6_pilgrim_21 : decode cX6_pilgrim 21 = .ok (.if_icmp .lt 6, 3) := by decide +kernel
theorem dX6_pilgrim_24 : decode cX6_pilgrim 24 = .ok (.bipush (-104), 2) := by decide +kernel
theorem dX6_pilgrim_26 : decode cX6_pilgrim 26 = .ok (.ireturn, 1) := by decide +kernel
theorem dX6_pilgrim_27 : decode cX6_pilgrim 27 = .ok (.aload_n 0, 1) := by decide +kernel
theorem dX6_pilgrim_28 : decode cX6_pilgrim 28 = .ok (.getfield 19, 3) := by decide +kernel
theorem dX6_pilgrim_31 : decode cX6_pilgrim 31 = .ok (.getfield 116, 3) := by decide +kernel
theorem dX6_pilgrim_34 : decode cX6_pilgrim 34 = .ok (.istore_n 1, 1) := by decide +kernel
theorem dX6_pilgrim_35 : decode cX6_pilgrim 35 = .ok (.aload_n 0, 1) := by decide +kernel
theorem dX6_pilgrim_36 : decode cX6_pilgrim 36 = .ok (.getfield 19, 3) := by decide +kernel
theorem dX6_pilgrim_39 : decode cX6_pilgrim 39 = .ok (.getfield 119, 3) := by decide +kernel
theorem dX6_pilgrim_42 : decode cX6_pilgrim 42 = .ok (.iload_n 1, 1) := by decide +kernel
theorem dX6_pilgrim_43 : decode cX6_pilgrim 43 = .ok (.aaload, 1) := by decide +kernel
theorem dX6_pilgrim_44 : decode cX6_pilgrim 44 = .ok (.invokevirtual 123, 3) := by decide +kernel
theorem dX6_pilgrim_47 : decode cX6_pilgrim 47 = .ok (.aload_n 0, 1) := by decide +kernel
theorem dX6_pilgrim_48 : decode cX6_pilgrim 48 = .ok (.getfield 19, 3) := by decide +kernel
theorem dX6_pilgrim_51 : decode cX6_pilgrim 51 = .ok (.dup, 1) := by decide +kernel
theorem dX6_pilgrim_52 : decode cX6_pilgrim 52 = .ok (.getfield 116, 3) := by decide +kernel
theorem dX6_pilgrim_55 : decode cX6_pilgrim 55 = .ok (.iconst 1, 1) := by decide +kernel
theorem dX6_pilgrim_56 : decode cX6_pilgrim 56 = .ok (.iadd, 1) := by decide +kernel
theorem dX6_pilgrim_57 : decode cX6_pilgrim 57 = .ok (.putfield 116, 3) := by decide +kernel
theorem dX6_pilgrim_60 : decode cX6_pilgrim 60 = .ok (.iload_n 1, 1) := by decide +kernel
theorem dX6_pilgrim_61 : decode cX6_pilgrim 61 = .ok (.ireturn, 1) := by decide +kernel
theorem dX6_about_0 : decode cX6_about 0 = .ok (.aload_n 0, 1) := by decide +kernel
theorem dX6_about_1 : decode cX6_about 1 = .ok (.iload_n 1, 1) := by decide +kernel
theorem dX6_about_2 : decode cX6_about 2 = .ok (.invokevirtual 126, 3) := by decide +kernel
theorem dX6_about_5 : decode cX6_about 5 = .ok (.ifCond .ne 6, 3) := by decide +kernel
theorem dX6_about_8 : decode cX6_about 8 = .ok (.bipush (-101), 2) := by decide +kernel
theorem dX6_about_10 : decode cX6_about 10 = .ok (.ireturn, 1) := by decide +kernel
theorem dX6_about_11 : decode cX6_about 11 = .ok (.aload_n 0, 1) := by decide +kernel
theorem dX6_about_12 : decode cX6_about 12 = .ok (.getfield 19, 3) := by decide +kernel
theorem dX6_about_15 : decode cX6_about 15 = .ok (.getfield 119, 3) := by decide +kernel
theorem dX6_about_18 : decode cX6_about 18 = .ok (.iload_n 1, 1) := by decide +kernel
theorem dX6_about_19 : decode cX6_about 19 = .ok (.aaload, 1) := by decide +kernel
theorem dX6_about_20 : decode cX6_about 20 = .ok (.astore_n 3, 1) := by decide +kernel
theorem dX6_about_21 : decode cX6_about 21 = .ok (.iload_n 2, 1) := by decide +kernel
theorem dX6_about_22 : decode cX6_about 22 = .ok (.bipush 10, 2) := by decide +kernel
theorem dX6_about_24 : decode cX6_about 24 = .ok (.if_icmp .lt 19, 3) := by decide +kernel
theorem dX6_about_27 : decode cX6_about 27 = .ok (.iload_n 2, 1) := by decide +kernel
theorem dX6_about_28 : decode cX6_about 28 = .ok (.bipush 18, 2) := by decide +kernel
theorem dX6_about_30 : decode cX6_about 30 = .ok (.if_icmp .ge 13, 3) := by decide +kernel
theorem dX6_about_33 : decode cX6_about 33 = .ok (.aload_n 3, 1) := by decide +kernel
theorem dX6_about_34 : decode cX6_about 34 = .ok (.getfield 129, 3) := by decide +kernel
theorem dX6_about_37 : decode cX6_about 37 = .ok (.iload_n 2, 1) := by decide +kernel
theorem dX6_about_38 : decode cX6_about 38 = .ok (.bipush 10, 2) := by decide +kernel
theorem dX6_about_40 : decode cX6_about 40 = .ok (.isub, 1) := by decide +kernel
theorem dX6_about_41 : decode cX6_about 41 = .ok (.iaload, 1) := by decide +kernel
theorem dX6_about_42 : decode cX6_about 42 = .ok (.ireturn, 1) := by decide +kernel
theorem dX6_about_43 : decode cX6_about 43 = .ok (.iload_n 2, 1) := by decide +kernel
theorem dX6_about_44 : decode cX6_about 44 = .ok (.tableswitch 64 0 4 #[36, 41, 46, 51, 59], 36) := by decide +kernel
theorem dX6_about_80 : decode cX6_about 80 = .ok (.aload_n 3, 1) := by decide +kernel
theorem dX6_about_81 : decode cX6_about 81 = .ok (.getfield 133, 3) := by decide +kernel
theorem dX6_about_84 : decode cX6_about 84 = .ok (.ireturn, 1) := by decide +kernel
theorem dX6_about_85 : decode cX6_about 85 = .ok (.aload_n 3, 1) := by decide +kernel
theorem dX6_about_86 : decode cX6_about 86 = .ok (.getfield 136, 3) := by decide +kernel
theorem dX6_about_89 : decode cX6_about 89 = .ok (.ireturn, 1) := by decide +kernel
theorem dX6_about_90 : decode cX6_about 90 = .ok (.aload_n 3, 1) := by decide +kernel
theorem dX6_about_91 : decode cX6_about 91 = .ok (.getfield 139, 3) := by decide +kernel
theorem dX6_about_94 : decode cX6_about 94 = .ok (.ireturn, 1) := by decide +kernel
theorem dX6_about_95 : decode cX6_about 95 = .ok (.aload_n 3, 1) := by decide +kernel
theorem dX6_about_96 : decode cX6_about 96 = .ok (.getfield 142, 3) := by decide +kernel
theorem dX6_about_99 : decode cX6_about 99 = .ok (.invokestatic 109, 3) := by decide +kernel
theorem dX6_about_102 : decode cX6_about 102 = .ok (.ireturn, 1) := by decide +kernel
theorem dX6_about_103 : decode cX6_about 103 = .ok (.aload_n 3, 1) := by decide +kernel
theorem dX6_about_104 : decode cX6_about 104 = .ok (.getfield 145, 3) := by decide +kernel
theorem dX6_about_107 : decode cX6_about 107 = .ok (.ireturn, 1) := by decide +kernel
theorem dX6_about_108 : decode cX6_about 108 = .ok (.bipush (-102), 2) := by decide +kernel
theorem dX6_about_110 : decode cX6_about 110 = .ok (.ireturn, 1) := by decide +kernel
theorem dX6_walk_0 : decode cX6_walk 0 = .ok (.aload_n 0, 1) := by decide +kernel
theorem dX6_walk_1 : decode cX6_walk 1 = .ok (.iload_n 1, 1) := by decide +kernel
theorem dX6_walk_2 : decode cX6_walk 2 = .ok (.invokevirtual 126, 3) := by decide +kernel
theorem dX6_walk_5 : decode cX6_walk 5 = .ok (.ifCond .eq 11, 3) := by decide +kernel
theorem dX6_walk_8 : decode cX6_walk 8 = .ok (.aload_n 0, 1) := by decide +kernel
theorem dX6_walk_9 : decode cX6_walk 9 = .ok (.iload_n 2, 1) := by decide +kernel
theorem dX6_walk_10 : decode cX6_walk 10 = .ok (.invokevirtual 82, 3) := by decide +kernel
theorem dX6_walk_13 : decode cX6_walk 13 = .ok (.ifCond .ne 6, 3) := by decide +kernel
theorem dX6_walk_16 : decode cX6_walk 16 = .ok (.bipush (-101), 2) := by decide +kernel
theorem dX6_walk_18 : decode cX6_walk 18 = .ok (.ireturn, 1) := by decide +kernel
theorem dX6_walk_19 : decode cX6_walk 19 = .ok (.aload_n 0, 1) := by decide +kernel
theorem dX6_walk_20 : decode cX6_walk 20 = .ok (.getfield 19, 3) := by decide +kernel
theorem dX6_walk_23 : decode cX6_walk 23 = .ok (.getfield 119, 3) := by decide +kernel
theorem dX6_walk_26 : decode cX6_walk 26 = .ok (.iload_n 1, 1) := by decide +kernel
theorem dX6_walk_27 : decode cX6_walk 27 = .ok (.aaload, 1) := by decide +kernel
theorem dX6_walk_28 : decode cX6_walk 28 = .ok (.astore_n 3, 1) := by decide +kernel
theorem dX6_walk_29 : decode cX6_walk 29 = .ok (.aload_n 0, 1) := by decide +kernel
theorem dX6_walk_30 : decode cX6_walk 30 = .ok (.getfield 19, 3) := by decide +kernel
theorem dX6_walk_33 : decode cX6_walk 33 = .ok (.getfield 85, 3) := by decide +kernel
theorem dX6_walk_36 : decode cX6_walk 36 = .ok (.iload_n 2, 1) := by decide +kernel
theorem dX6_walk_37 : decode cX6_walk 37 = .ok (.aaload, 1) := by decide +kernel
theorem dX6_walk_38 : decode cX6_walk 38 = .ok (.astore 4, 2) := by decide +kernel
theorem dX6_walk_40 : decode cX6_walk 40 = .ok (.aload_n 3, 1) := by decide +kernel
theorem dX6_walk_41 : decode cX6_walk 41 = .ok (.aload 4, 2) := by decide +kernel
theorem dX6_walk_43 : decode cX6_walk 43 = .ok (.aload 4, 2) := by decide +kernel
theorem dX6_walk_45 : decode cX6_walk 45 = .ok (.getfield 100, 3) := by decide +kernel
theorem dX6_walk_48 : decode cX6_walk 48 = .ok (.invokevirtual 148, 3) := by decide +kernel
theorem dX6_walk_51 : decode cX6_walk 51 = .ok (.ifCond .ne 6, 3) := by decide +kernel
theorem dX6_walk_54 : decode cX6_walk 54 = .ok (.bipush (-103), 2) := by decide +kernel
theorem dX6_walk_56 : decode cX6_walk 56 = .ok (.ireturn, 1) := by decide +kernel
theorem dX6_walk_57 : decode cX6_walk 57 = .ok (.aload_n 3, 1) := by decide +kernel
theorem dX6_walk_58 : decode cX6_walk 58 = .ok (.aload 4, 2) := by decide +kernel
theorem dX6_walk_60 : decode cX6_walk 60 = .ok (.aload 4, 2) := by decide +kernel
theorem dX6_walk_62 : decode cX6_walk 62 = .ok (.getfield 100, 3) := by decide +kernel
theorem dX6_walk_65 : decode cX6_walk 65 = .ok (.aload 4, 2) := by decide +kernel
theorem dX6_walk_67 : decode cX6_walk 67 = .ok (.invokevirtual 103, 3) := by decide +kernel
theorem dX6_walk_70 : decode cX6_walk 70 = .ok (.invokevirtual 152, 3) := by decide +kernel
theorem dX6_walk_73 : decode cX6_walk 73 = .ok (.aload_n 0, 1) := by decide +kernel
theorem dX6_walk_74 : decode cX6_walk 74 = .ok (.getfield 19, 3) := by decide +kernel
theorem dX6_walk_77 : decode cX6_walk 77 = .ok (.dup, 1) := by decide +kernel
theorem dX6_walk_78 : decode cX6_walk 78 = .ok (.getfield 156, 3) := by decide +kernel
theorem dX6_walk_81 : decode cX6_walk 81 = .ok (.iconst 1, 1) := by decide +kernel
theorem dX6_walk_82 : decode cX6_walk 82 = .ok (.iadd, 1) := by decide +kernel
theorem dX6_walk_83 : decode cX6_walk 83 = .ok (.putfield 156, 3) := by decide +kernel
theorem dX6_walk_86 : decode cX6_walk 86 = .ok (.aload_n 3, 1) := by decide +kernel
theorem dX6_walk_87 : decode cX6_walk 87 = .ok (.getfield 133, 3) := by decide +kernel
theorem dX6_walk_90 : decode cX6_walk 90 = .ok (.ireturn, 1) := by decide +kernel
theorem dX6_together_0 : decode cX6_together 0 = .ok (.aload_n 0, 1) := by decide +kernel
theorem dX6_together_1 : decode cX6_together 1 = .ok (.iload_n 1, 1) := by decide +kernel
theorem dX6_together_2 : decode cX6_together 2 = .ok (.invokevirtual 126, 3) := by decide +kernel
theorem dX6_together_5 : decode cX6_together 5 = .ok (.ifCond .eq 24, 3) := by decide +kernel
theorem dX6_together_8 : decode cX6_together 8 = .ok (.aload_n 0, 1) := by decide +kernel
theorem dX6_together_9 : decode cX6_together 9 = .ok (.iload_n 2, 1) := by decide +kernel
theorem dX6_together_10 : decode cX6_together 10 = .ok (.invokevirtual 126, 3) := by decide +kernel
theorem dX6_together_13 : decode cX6_together 13 = .ok (.ifCond .eq 16, 3) := by decide +kernel
theorem dX6_together_16 : decode cX6_together 16 = .ok (.iload_n 1, 1) := by decide +kernel
theorem dX6_together_17 : decode cX6_together 17 = .ok (.iload_n 2, 1) := by decide +kernel
theorem dX6_together_18 : decode cX6_together 18 = .ok (.if_icmp .eq 11, 3) := by decide +kernel
theorem dX6_together_21 : decode cX6_together 21 = .ok (.aload_n 0, 1) := by decide +kernel
theorem dX6_together_22 : decode cX6_together 22 = .ok (.iload_n 3, 1) := by decide +kernel
theorem dX6_together_23 : decode cX6_together 23 = .ok (.invokevirtual 82, 3) := by decide +kernel
theorem dX6_together_26 : decode cX6_together 26 = .ok (.ifCond .ne 6, 3) := by decide +kernel
theorem dX6_together_29 : decode cX6_together 29 = .ok (.bipush (-101), 2) := by decide +kernel
theorem dX6_together_31 : decode cX6_together 31 = .ok (.ireturn, 1) := by decide +kernel
theorem dX6_together_32 : decode cX6_together 32 = .ok (.aload_n 0, 1) := by decide +kernel
theorem dX6_together_33 : decode cX6_together 33 = .ok (.getfield 19, 3) := by decide +kernel
theorem dX6_together_36 : decode cX6_together 36 = .ok (.getfield 119, 3) := by decide +kernel
theorem dX6_together_39 : decode cX6_together 39 = .ok (.iload_n 1, 1) := by decide +kernel
theorem dX6_together_40 : decode cX6_together 40 = .ok (.aaload, 1) := by decide +kernel
theorem dX6_together_41 : decode cX6_together 41 = .ok (.astore 4, 2) := by decide +kernel
theorem dX6_together_43 : decode cX6_together 43 = .ok (.aload_n 0, 1) := by decide +kernel
theorem dX6_together_44 : decode cX6_together 44 = .ok (.getfield 19, 3) := by decide +kernel
theorem dX6_together_47 : decode cX6_together 47 = .ok (.getfield 119, 3) := by decide +kernel
theorem dX6_together_50 : decode cX6_together 50 = .ok (.iload_n 2, 1) := by decide +kernel
theorem dX6_together_51 : decode cX6_together 51 = .ok (.aaload, 1) := by decide +kernel
theorem dX6_together_52 : decode cX6_together 52 = .ok (.astore 5, 2) := by decide +kernel
theorem dX6_together_54 : decode cX6_together 54 = .ok (.aload_n 0, 1) := by decide +kernel
theorem dX6_together_55 : decode cX6_together 55 = .ok (.getfield 19, 3) := by decide +kernel
theorem dX6_together_58 : decode cX6_together 58 = .ok (.getfield 85, 3) := by decide +kernel
theorem dX6_together_61 : decode cX6_together 61 = .ok (.iload_n 3, 1) := by decide +kernel
theorem dX6_together_62 : decode cX6_together 62 = .ok (.aaload, 1) := by decide +kernel
theorem dX6_together_63 : decode cX6_together 63 = .ok (.astore 6, 2) := by decide +kernel
theorem dX6_together_65 : decode cX6_together 65 = .ok (.aload 6, 2) := by decide +kernel
theorem dX6_together_67 : decode cX6_together 67 = .ok (.getfield 100, 3) := by decide +kernel
theorem dX6_together_70 : decode cX6_together 70 = .ok (.iconst 1, 1) := by decide +kernel
theorem dX6_together_71 : decode cX6_together 71 = .ok (.iadd, 1) := by decide +kernel
theorem dX6_together_72 : decode cX6_together 72 = .ok (.iconst 2, 1) := by decide +kernel
theorem dX6_together_73 : decode cX6_together 73 = .ok (.idiv, 1) := by decide +kernel
theorem dX6_together_74 : decode cX6_together 74 = .ok (.istore 7, 2) := by decide +kernel
theorem dX6_together_76 : decode cX6_together 76 = .ok (.aload 4, 2) := by decide +kernel
theorem dX6_together_78 : decode cX6_together 78 = .ok (.getfield 133, 3) := by decide +kernel
theorem dX6_together_81 : decode cX6_together 81 = .ok (.aload 5, 2) := by decide +kernel
theorem dX6_together_83 : decode cX6_together 83 = .ok (.getfield 133, 3) := by decide +kernel
theorem dX6_together_86 : decode cX6_together 86 = .ok (.if_icmp .ne 27, 3) := by decide +kernel
theorem dX6_together_89 : decode cX6_together 89 = .ok (.aload 4, 2) := by decide +kernel
theorem dX6_together_91 : decode cX6_together 91 = .ok (.aload 6, 2) := by decide +kernel
theorem dX6_together_93 : decode cX6_together 93 = .ok (.iload 7, 2) := by decide +kernel
theorem dX6_together_95 : decode cX6_together 95 = .ok (.invokevirtual 148, 3) := by decide +kernel
theorem dX6_together_98 : decode cX6_together 98 = .ok (.ifCond .eq 15, 3) := by decide +kernel
theorem dX6_together_101 : decode cX6_together 101 = .ok (.aload 5, 2) := by decide +kernel
theorem dX6_together_103 : decode cX6_together 103 = .ok (.aload 6, 2) := by decide +kernel
theorem dX6_together_105 : decode cX6_together 105 = .ok (.iload 7, 2) := by decide +kernel
theorem dX6_together_107 : decode cX6_together 107 = .ok (.invokevirtual 148, 3) := by decide +kernel
theorem dX6_together_110 : decode cX6_together 110 = .ok (.ifCond .ne 6, 3) := by decide +kernel
theorem dX6_together_113 : decode cX6_together 113 = .ok (.bipush (-103), 2) := by decide +kernel
theorem dX6_together_115 : decode cX6_together 115 = .ok (.ireturn, 1) := by decide +kernel
theorem dX6_together_116 : decode cX6_together 116 = .ok (.aload 4, 2) := by decide +kernel
theorem dX6_together_118 : decode cX6_together 118 = .ok (.aload 6, 2) := by decide +kernel
theorem dX6_together_120 : decode cX6_together 120 = .ok (.iload 7, 2) := by decide +kernel
theorem dX6_together_122 : decode cX6_together 122 = .ok (.aload 6, 2) := by decide +kernel
theorem dX6_together_124 : decode cX6_together 124 = .ok (.invokevirtual 103, 3) := by decide +kernel
theorem dX6_together_127 : decode cX6_together 127 = .ok (.invokevirtual 152, 3) := by decide +kernel
theorem dX6_together_130 : decode cX6_together 130 = .ok (.aload 5, 2) := by decide +kernel
theorem dX6_together_132 : decode cX6_together 132 = .ok (.aload 6, 2) := by decide +kernel
theorem dX6_together_134 : decode cX6_together 134 = .ok (.iload 7, 2) := by decide +kernel
theorem dX6_together_136 : decode cX6_together 136 = .ok (.aload 6, 2) := by decide +kernel
theorem dX6_together_138 : decode cX6_together 138 = .ok (.invokevirtual 103, 3) := by decide +kernel
theorem dX6_together_141 : decode cX6_together 141 = .ok (.iconst 2, 1) := by decide +kernel
theorem dX6_together_142 : decode cX6_together 142 = .ok (.idiv, 1) := by decide +kernel
theorem dX6_together_143 : decode cX6_together 143 = .ok (.invokevirtual 152, 3) := by decide +kernel
theorem dX6_together_146 : decode cX6_together 146 = .ok (.aload_n 0, 1) := by decide +kernel
theorem dX6_together_147 : decode cX6_together 147 = .ok (.getfield 19, 3) := by decide +kernel
theorem dX6_together_150 : decode cX6_together 150 = .ok (.dup, 1) := by decide +kernel
theorem dX6_together_151 : decode cX6_together 151 = .ok (.getfield 156, 3) := by decide +kernel
theorem dX6_together_154 : decode cX6_together 154 = .ok (.iconst 1, 1) := by decide +kernel
theorem dX6_together_155 : decode cX6_together 155 = .ok (.iadd, 1) := by decide +kernel
theorem dX6_together_156 : decode cX6_together 156 = .ok (.putfield 156, 3) := by decide +kernel
theorem dX6_together_159 : decode cX6_together 159 = .ok (.aload 4, 2) := by decide +kernel
theorem dX6_together_161 : decode cX6_together 161 = .ok (.getfield 133, 3) := by decide +kernel
theorem dX6_together_164 : decode cX6_together 164 = .ok (.ireturn, 1) := by decide +kernel
theorem dX6_rest_0 : decode cX6_rest 0 = .ok (.aload_n 0, 1) := by decide +kernel
theorem dX6_rest_1 : decode cX6_rest 1 = .ok (.iload_n 1, 1) := by decide +kernel
theorem dX6_rest_2 : decode cX6_rest 2 = .ok (.invokevirtual 126, 3) := by decide +kernel
theorem dX6_rest_5 : decode cX6_rest 5 = .ok (.ifCond .ne 6, 3) := by decide +kernel
theorem dX6_rest_8 : decode cX6_rest 8 = .ok (.bipush (-101), 2) := by decide +kernel
theorem dX6_rest_10 : decode cX6_rest 10 = .ok (.ireturn, 1) := by decide +kernel
theorem dX6_rest_11 : decode cX6_rest 11 = .ok (.aload_n 0, 1) := by decide +kernel
theorem dX6_rest_12 : decode cX6_rest 12 = .ok (.getfield 19, 3) := by decide +kernel
theorem dX6_rest_15 : decode cX6_rest 15 = .ok (.getfield 119, 3) := by decide +kernel
theorem dX6_rest_18 : decode cX6_rest 18 = .ok (.iload_n 1, 1) := by decide +kernel
theorem dX6_rest_19 : decode cX6_rest 19 = .ok (.aaload, 1) := by decide +kernel
theorem dX6_rest_20 : decode cX6_rest 20 = .ok (.astore_n 2, 1) := by decide +kernel
theorem dX6_rest_21 : decode cX6_rest 21 = .ok (.aload_n 2, 1) := by decide +kernel
theorem dX6_rest_22 : decode cX6_rest 22 = .ok (.getfield 142, 3) := by decide +kernel
theorem dX6_rest_25 : decode cX6_rest 25 = .ok (.ifCond .eq 6, 3) := by decide +kernel
theorem dX6_rest_28 : decode cX6_rest 28 = .ok (.bipush (-103), 2) := by decide +kernel
theorem dX6_rest_30 : decode cX6_rest 30 = .ok (.ireturn, 1) := by decide +kernel
theorem dX6_rest_31 : decode cX6_rest 31 = .ok (.aload_n 2, 1) := by decide +kernel
theorem dX6_rest_32 : decode cX6_rest 32 = .ok (.invokevirtual 159, 3) := by decide +kernel
theorem dX6_rest_35 : decode cX6_rest 35 = .ok (.aload_n 0, 1) := by decide +kernel
theorem dX6_rest_36 : decode cX6_rest 36 = .ok (.getfield 19, 3) := by decide +kernel
theorem dX6_rest_39 : decode cX6_rest 39 = .ok (.dup, 1) := by decide +kernel
theorem dX6_rest_40 : decode cX6_rest 40 = .ok (.getfield 156, 3) := by decide +kernel
theorem dX6_rest_43 : decode cX6_rest 43 = .ok (.iconst 1, 1) := by decide +kernel
theorem dX6_rest_44 : decode cX6_rest 44 = .ok (.iadd, 1) := by decide +kernel
theorem dX6_rest_45 : decode cX6_rest 45 = .ok (.putfield 156, 3) := by decide +kernel
theorem dX6_rest_48 : decode cX6_rest 48 = .ok (.aload_n 2, 1) := by decide +kernel
theorem dX6_rest_49 : decode cX6_rest 49 = .ok (.getfield 136, 3) := by decide +kernel
theorem dX6_rest_52 : decode cX6_rest 52 = .ok (.ireturn, 1) := by decide +kernel
theorem dX6_enter_0 : decode cX6_enter 0 = .ok (.aload_n 0, 1) := by decide +kernel
theorem dX6_enter_1 : decode cX6_enter 1 = .ok (.iload_n 1, 1) := by decide +kernel
theorem dX6_enter_2 : decode cX6_enter 2 = .ok (.invokevirtual 126, 3) := by decide +kernel
theorem dX6_enter_5 : decode cX6_enter 5 = .ok (.ifCond .ne 6, 3) := by decide +kernel
theorem dX6_enter_8 : decode cX6_enter 8 = .ok (.bipush (-101), 2) := by decide +kernel
theorem dX6_enter_10 : decode cX6_enter 10 = .ok (.ireturn, 1) := by decide +kernel
theorem dX6_enter_11 : decode cX6_enter 11 = .ok (.aload_n 0, 1) := by decide +kernel
theorem dX6_enter_12 : decode cX6_enter 12 = .ok (.getfield 19, 3) := by decide +kernel
theorem dX6_enter_15 : decode cX6_enter 15 = .ok (.getfield 119, 3) := by decide +kernel
theorem dX6_enter_18 : decode cX6_enter 18 = .ok (.iload_n 1, 1) := by decide +kernel
theorem dX6_enter_19 : decode cX6_enter 19 = .ok (.aaload, 1) := by decide +kernel
theorem dX6_enter_20 : decode cX6_enter 20 = .ok (.astore_n 2, 1) := by decide +kernel
theorem dX6_enter_21 : decode cX6_enter 21 = .ok (.aload_n 2, 1) := by decide +kernel
theorem dX6_enter_22 : decode cX6_enter 22 = .ok (.getfield 142, 3) := by decide +kernel
theorem dX6_enter_25 : decode cX6_enter 25 = .ok (.ifCond .ne 11, 3) := by decide +kernel
theorem dX6_enter_28 : decode cX6_enter 28 = .ok (.aload_n 2, 1) := by decide +kernel
theorem dX6_enter_29 : decode cX6_enter 29 = .ok (.getfield 133, 3) := by decide +kernel
theorem dX6_enter_32 : decode cX6_enter 32 = .ok (.iconst 5, 1) := by decide +kernel
theorem dX6_enter_33 : decode cX6_enter 33 = .ok (.if_icmp .eq 6, 3) := by decide +kernel
theorem dX6_enter_36 : decode cX6_enter 36 = .ok (.bipush (-103), 2) := by decide +kernel
theorem dX6_enter_38 : decode cX6_enter 38 = .ok (.ireturn, 1) := by decide +kernel
theorem dX6_enter_39 : decode cX6_enter 39 = .ok (.aload_n 2, 1) := by decide +kernel
theorem dX6_enter_40 : decode cX6_enter 40 = .ok (.aload_n 0, 1) := by decide +kernel
theorem dX6_enter_41 : decode cX6_enter 41 = .ok (.getfield 19, 3) := by decide +kernel
theorem dX6_enter_44 : decode cX6_enter 44 = .ok (.getfield 162, 3) := by decide +kernel
theorem dX6_enter_47 : decode cX6_enter 47 = .ok (.invokevirtual 165, 3) := by decide +kernel
theorem dX6_enter_50 : decode cX6_enter 50 = .ok (.aload_n 0, 1) := by decide +kernel
theorem dX6_enter_51 : decode cX6_enter 51 = .ok (.getfield 19, 3) := by decide +kernel
theorem dX6_enter_54 : decode cX6_enter 54 = .ok (.getfield 162, 3) := by decide +kernel
theorem dX6_enter_57 : decode cX6_enter 57 = .ok (.aload_n 2, 1) := by decide +kernel
theorem dX6_enter_58 : decode cX6_enter 58 = .ok (.getfield 139, 3) := by decide +kernel
theorem dX6_enter_61 : decode cX6_enter 61 = .ok (.isub, 1) := by decide +kernel
theorem dX6_enter_62 : decode cX6_enter 62 = .ok (.ireturn, 1) := by decide +kernel
theorem dX6_way_0 : decode cX6_way 0 = .ok (.aload_n 0, 1) := by decide +kernel
theorem dX6_way_1 : decode cX6_way 1 = .ok (.iload_n 1, 1) := by decide +kernel
theorem dX6_way_2 : decode cX6_way 2 = .ok (.invokevirtual 126, 3) := by decide +kernel
theorem dX6_way_5 : decode cX6_way 5 = .ok (.ifCond .ne 6, 3) := by decide +kernel
theorem dX6_way_8 : decode cX6_way 8 = .ok (.bipush (-101), 2) := by decide +kernel
theorem dX6_way_10 : decode cX6_way 10 = .ok (.ireturn, 1) := by decide +kernel
theorem dX6_way_11 : decode cX6_way 11 = .ok (.iload_n 2, 1) := by decide +kernel
theorem dX6_way_12 : decode cX6_way 12 = .ok (.ifCond .lt 8, 3) := by decide +kernel
theorem dX6_way_15 : decode cX6_way 15 = .ok (.iload_n 2, 1) := by decide +kernel
theorem dX6_way_16 : decode cX6_way 16 = .ok (.iconst 2, 1) := by decide +kernel
theorem dX6_way_17 : decode cX6_way 17 = .ok (.if_icmp .le 6, 3) := by decide +kernel
theorem dX6_way_20 : decode cX6_way 20 = .ok (.bipush (-102), 2) := by decide +kernel
theorem dX6_way_22 : decode cX6_way 22 = .ok (.ireturn, 1) := by decide +kernel
theorem dX6_way_23 : decode cX6_way 23 = .ok (.aload_n 0, 1) := by decide +kernel
theorem dX6_way_24 : decode cX6_way 24 = .ok (.iload_n 1, 1) := by decide +kernel
theorem dX6_way_25 : decode cX6_way 25 = .ok (.invokevirtual 169, 3) := by decide +kernel
theorem dX6_way_28 : decode cX6_way 28 = .ok (.ifCond .ne 6, 3) := by decide +kernel
theorem dX6_way_31 : decode cX6_way 31 = .ok (.bipush (-103), 2) := by decide +kernel
theorem dX6_way_33 : decode cX6_way 33 = .ok (.ireturn, 1) := by decide +kernel
theorem dX6_way_34 : decode cX6_way 34 = .ok (.aload_n 0, 1) := by decide +kernel
theorem dX6_way_35 : decode cX6_way 35 = .ok (.dup, 1) := by decide +kernel
theorem dX6_way_36 : decode cX6_way 36 = .ok (.getfield 51, 3) := by decide +kernel
theorem dX6_way_39 : decode cX6_way 39 = .ok (.iconst 1, 1) := by decide +kernel
theorem dX6_way_40 : decode cX6_way 40 = .ok (.iadd, 1) := by decide +kernel
theorem dX6_way_41 : decode cX6_way 41 = .ok (.putfield 51, 3) := by decide +kernel
theorem dX6_way_44 : decode cX6_way 44 = .ok (.aload_n 0, 1) := by decide +kernel
theorem dX6_way_45 : decode cX6_way 45 = .ok (.getfield 32, 3) := by decide +kernel
theorem dX6_way_48 : decode cX6_way 48 = .ok (.aload_n 0, 1) := by decide +kernel
theorem dX6_way_49 : decode cX6_way 49 = .ok (.getfield 19, 3) := by decide +kernel
theorem dX6_way_52 : decode cX6_way 52 = .ok (.aload_n 0, 1) := by decide +kernel
theorem dX6_way_53 : decode cX6_way 53 = .ok (.getfield 19, 3) := by decide +kernel
theorem dX6_way_56 : decode cX6_way 56 = .ok (.getfield 119, 3) := by decide +kernel
theorem dX6_way_59 : decode cX6_way 59 = .ok (.iload_n 1, 1) := by decide +kernel
theorem dX6_way_60 : decode cX6_way 60 = .ok (.aaload, 1) := by decide +kernel
theorem dX6_way_61 : decode cX6_way 61 = .ok (.iconst (-1), 1) := by decide +kernel
theorem dX6_way_62 : decode cX6_way 62 = .ok (.invokevirtual 172, 3) := by decide +kernel
theorem dX6_way_65 : decode cX6_way 65 = .ok (.istore_n 3, 1) := by decide +kernel
theorem dX6_way_66 : decode cX6_way 66 = .ok (.iload_n 3, 1) := by decide +kernel
theorem dX6_way_67 : decode cX6_way 67 = .ok (.ldc 176, 2) := by decide +kernel
theorem dX6_way_69 : decode cX6_way 69 = .ok (.if_icmp .ne 5, 3) := by decide +kernel
theorem dX6_way_72 : decode cX6_way 72 = .ok (.iconst (-1), 1) := by decide +kernel
theorem dX6_way_73 : decode cX6_way 73 = .ok (.ireturn, 1) := by decide +kernel
theorem dX6_way_74 : decode cX6_way 74 = .ok (.iload_n 2, 1) := by decide +kernel
theorem dX6_way_75 : decode cX6_way 75 = .ok (.lookupswitch 35 #[(0, 25), (1, 30)], 25) := by decide +kernel
theorem dX6_way_100 : decode cX6_way 100 = .ok (.iload_n 3, 1) := by decide +kernel
theorem dX6_way_101 : decode cX6_way 101 = .ok (.invokestatic 177, 3) := by decide +kernel
theorem dX6_way_104 : decode cX6_way 104 = .ok (.ireturn, 1) := by decide +kernel
theorem dX6_way_105 : decode cX6_way 105 = .ok (.iload_n 3, 1) := by decide +kernel
theorem dX6_way_106 : decode cX6_way 106 = .ok (.invokestatic 181, 3) := by decide +kernel
theorem dX6_way_109 : decode cX6_way 109 = .ok (.ireturn, 1) := by decide +kernel
theorem dX6_way_110 : decode cX6_way 110 = .ok (.iload_n 3, 1) := by decide +kernel
theorem dX6_way_111 : decode cX6_way 111 = .ok (.invokestatic 184, 3) := by decide +kernel
theorem dX6_way_114 : decode cX6_way 114 = .ok (.ireturn, 1) := by decide +kernel
theorem dX6_bars_0 : decode cX6_bars 0 = .ok (.aload_n 0, 1) := by decide +kernel
theorem dX6_bars_1 : decode cX6_bars 1 = .ok (.iload_n 1, 1) := by decide +kernel
theorem dX6_bars_2 : decode cX6_bars 2 = .ok (.invokevirtual 126, 3) := by decide +kernel
theorem dX6_bars_5 : decode cX6_bars 5 = .ok (.ifCond .ne 6, 3) := by decide +kernel
theorem dX6_bars_8 : decode cX6_bars 8 = .ok (.bipush (-101), 2) := by decide +kernel
theorem dX6_bars_10 : decode cX6_bars 10 = .ok (.ireturn, 1) := by decide +kernel
theorem dX6_bars_11 : decode cX6_bars 11 = .ok (.aload_n 0, 1) := by decide +kernel
theorem dX6_bars_12 : decode cX6_bars 12 = .ok (.iload_n 1, 1) := by decide +kernel
theorem dX6_bars_13 : decode cX6_bars 13 = .ok (.invokevirtual 169, 3) := by decide +kernel
theorem dX6_bars_16 : decode cX6_bars 16 = .ok (.ifCond .ne 6, 3) := by decide +kernel
theorem dX6_bars_19 : decode cX6_bars 19 = .ok (.bipush (-103), 2) := by decide +kernel
theorem dX6_bars_21 : decode cX6_bars 21 = .ok (.ireturn, 1) := by decide +kernel
theorem dX6_bars_22 : decode cX6_bars 22 = .ok (.aload_n 0, 1) := by decide +kernel
theorem dX6_bars_23 : decode cX6_bars 23 = .ok (.dup, 1) := by decide +kernel
theorem dX6_bars_24 : decode cX6_bars 24 = .ok (.getfield 51, 3) := by decide +kernel
theorem dX6_bars_27 : decode cX6_bars 27 = .ok (.iconst 1, 1) := by decide +kernel
theorem dX6_bars_28 : decode cX6_bars 28 = .ok (.iadd, 1) := by decide +kernel
theorem dX6_bars_29 : decode cX6_bars 29 = .ok (.putfield 51, 3) := by decide +kernel
theorem dX6_bars_32 : decode cX6_bars 32 = .ok (.aload_n 0, 1) := by decide +kernel
theorem dX6_bars_33 : decode cX6_bars 33 = .ok (.getfield 32, 3) := by decide +kernel
theorem dX6_bars_36 : decode cX6_bars 36 = .ok (.aload_n 0, 1) := by decide +kernel
theorem dX6_bars_37 : decode cX6_bars 37 = .ok (.getfield 19, 3) := by decide +kernel
theorem dX6_bars_40 : decode cX6_bars 40 = .ok (.aload_n 0, 1) := by decide +kernel
theorem dX6_bars_41 : decode cX6_bars 41 = .ok (.getfield 19, 3) := by decide +kernel
theorem dX6_bars_44 : decode cX6_bars 44 = .ok (.getfield 119, 3) := by decide +kernel
theorem dX6_bars_47 : decode cX6_bars 47 = .ok (.iload_n 1, 1) := by decide +kernel
theorem dX6_bars_48 : decode cX6_bars 48 = .ok (.aaload, 1) := by decide +kernel
theorem dX6_bars_49 : decode cX6_bars 49 = .ok (.invokevirtual 187, 3) := by decide +kernel
theorem dX6_bars_52 : decode cX6_bars 52 = .ok (.ireturn, 1) := by decide +kernel
theorem dX6_most_0 : decode cX6_most 0 = .ok (.aload_n 0, 1) := by decide +kernel
theorem dX6_most_1 : decode cX6_most 1 = .ok (.iload_n 1, 1) := by decide +kernel
theorem dX6_most_2 : decode cX6_most 2 = .ok (.invokevirtual 126, 3) := by decide +kernel
theorem dX6_most_5 : decode cX6_most 5 = .ok (.ifCond .ne 6, 3) := by decide +kernel
theorem dX6_most_8 : decode cX6_most 8 = .ok (.bipush (-101), 2) := by decide +kernel
theorem dX6_most_10 : decode cX6_most 10 = .ok (.ireturn, 1) := by decide +kernel
theorem dX6_most_11 : decode cX6_most 11 = .ok (.iload_n 2, 1) := by decide +kernel
theorem dX6_most_12 : decode cX6_most 12 = .ok (.ifCond .lt 9, 3) := by decide +kernel
theorem dX6_most_15 : decode cX6_most 15 = .ok (.iload_n 2, 1) := by decide +kernel
theorem dX6_most_16 : decode cX6_most 16 = .ok (.bipush 60, 2) := by decide +kernel
theorem dX6_most_18 : decode cX6_most 18 = .ok (.if_icmp .le 6, 3) := by decide +kernel
theorem dX6_most_21 : decode cX6_most 21 = .ok (.bipush (-102), 2) := by decide +kernel
theorem dX6_most_23 : decode cX6_most 23 = .ok (.ireturn, 1) := by decide +kernel
theorem dX6_most_24 : decode cX6_most 24 = .ok (.aload_n 0, 1) := by decide +kernel
theorem dX6_most_25 : decode cX6_most 25 = .ok (.iload_n 1, 1) := by decide +kernel
theorem dX6_most_26 : decode cX6_most 26 = .ok (.invokevirtual 169, 3) := by decide +kernel
theorem dX6_most_29 : decode cX6_most 29 = .ok (.ifCond .ne 6, 3) := by decide +kernel
theorem dX6_most_32 : decode cX6_most 32 = .ok (.bipush (-103), 2) := by decide +kernel
theorem dX6_most_34 : decode cX6_most 34 = .ok (.ireturn, 1) := by decide +kernel
theorem dX6_most_35 : decode cX6_most 35 = .ok (.aload_n 0, 1) := by decide +kernel
theorem dX6_most_36 : decode cX6_most 36 = .ok (.dup, 1) := by decide +kernel
theorem dX6_most_37 : decode cX6_most 37 = .ok (.getfield 51, 3) := by decide +kernel
theorem dX6_most_40 : decode cX6_most 40 = .ok (.iconst 1, 1) := by decide +kernel
theorem dX6_most_41 : decode cX6_most 41 = .ok (.iadd, 1) := by decide +kernel
theorem dX6_most_42 : decode cX6_most 42 = .ok (.putfield 51, 3) := by decide +kernel
theorem dX6_most_45 : decode cX6_most 45 = .ok (.aload_n 0, 1) := by decide +kernel
theorem dX6_most_46 : decode cX6_most 46 = .ok (.getfield 32, 3) := by decide +kernel
theorem dX6_most_49 : decode cX6_most 49 = .ok (.aload_n 0, 1) := by decide +kernel
theorem dX6_most_50 : decode cX6_most 50 = .ok (.getfield 19, 3) := by decide +kernel
theorem dX6_most_53 : decode cX6_most 53 = .ok (.aload_n 0, 1) := by decide +kernel
theorem dX6_most_54 : decode cX6_most 54 = .ok (.getfield 19, 3) := by decide +kernel
theorem dX6_most_57 : decode cX6_most 57 = .ok (.getfield 119, 3) := by decide +kernel
theorem dX6_most_60 : decode cX6_most 60 = .ok (.iload_n 1, 1) := by decide +kernel
theorem dX6_most_61 : decode cX6_most 61 = .ok (.aaload, 1) := by decide +kernel
theorem dX6_most_62 : decode cX6_most 62 = .ok (.iload_n 2, 1) := by decide +kernel
theorem dX6_most_63 : decode cX6_most 63 = .ok (.invokevirtual 191, 3) := by decide +kernel
theorem dX6_most_66 : decode cX6_most 66 = .ok (.ireturn, 1) := by decide +kernel
theorem dX6_bridge_0 : decode cX6_bridge 0 = .ok (.aload_n 0, 1) := by decide +kernel
theorem dX6_bridge_1 : decode cX6_bridge 1 = .ok (.iload_n 1, 1) := by decide +kernel
theorem dX6_bridge_2 : decode cX6_bridge 2 = .ok (.invokevirtual 126, 3) := by decide +kernel
theorem dX6_bridge_5 : decode cX6_bridge 5 = .ok (.ifCond .ne 6, 3) := by decide +kernel
theorem dX6_bridge_8 : decode cX6_bridge 8 = .ok (.bipush (-101), 2) := by decide +kernel
theorem dX6_bridge_10 : decode cX6_bridge 10 = .ok (.ireturn, 1) := by decide +kernel
theorem dX6_bridge_11 : decode cX6_bridge 11 = .ok (.aload_n 0, 1) := by decide +kernel
theorem dX6_bridge_12 : decode cX6_bridge 12 = .ok (.iload_n 1, 1) := by decide +kernel
theorem dX6_bridge_13 : decode cX6_bridge 13 = .ok (.invokevirtual 169, 3) := by decide +kernel
theorem dX6_bridge_16 : decode cX6_bridge 16 = .ok (.ifCond .ne 6, 3) := by decide +kernel
theorem dX6_bridge_19 : decode cX6_bridge 19 = .ok (.bipush (-103), 2) := by decide +kernel
theorem dX6_bridge_21 : decode cX6_bridge 21 = .ok (.ireturn, 1) := by decide +kernel
theorem dX6_bridge_22 : decode cX6_bridge 22 = .ok (.aload_n 0, 1) := by decide +kernel
theorem dX6_bridge_23 : decode cX6_bridge 23 = .ok (.dup, 1) := by decide +kernel
theorem dX6_bridge_24 : decode cX6_bridge 24 = .ok (.getfield 51, 3) := by decide +kernel
theorem dX6_bridge_27 : decode cX6_bridge 27 = .ok (.iconst 1, 1) := by decide +kernel
theorem dX6_bridge_28 : decode cX6_bridge 28 = .ok (.iadd, 1) := by decide +kernel
theorem dX6_bridge_29 : decode cX6_bridge 29 = .ok (.putfield 51, 3) := by decide +kernel
theorem dX6_bridge_32 : decode cX6_bridge 32 = .ok (.aload_n 0, 1) := by decide +kernel
theorem dX6_bridge_33 : decode cX6_bridge 33 = .ok (.getfield 32, 3) := by decide +kernel
theorem dX6_bridge_36 : decode cX6_bridge 36 = .ok (.aload_n 0, 1) := by decide +kernel
theorem dX6_bridge_37 : decode cX6_bridge 37 = .ok (.getfield 19, 3) := by decide +kernel
theorem dX6_bridge_40 : decode cX6_bridge 40 = .ok (.aload_n 0, 1) := by decide +kernel
theorem dX6_bridge_41 : decode cX6_bridge 41 = .ok (.getfield 19, 3) := by decide +kernel
theorem dX6_bridge_44 : decode cX6_bridge 44 = .ok (.getfield 119, 3) := by decide +kernel
theorem dX6_bridge_47 : decode cX6_bridge 47 = .ok (.iload_n 1, 1) := by decide +kernel
theorem dX6_bridge_48 : decode cX6_bridge 48 = .ok (.aaload, 1) := by decide +kernel
theorem dX6_bridge_49 : decode cX6_bridge 49 = .ok (.invokevirtual 194, 3) := by decide +kernel
theorem dX6_bridge_52 : decode cX6_bridge 52 = .ok (.ireturn, 1) := by decide +kernel
theorem dX6_log_0 : decode cX6_log 0 = .ok (.iload_n 1, 1) := by decide +kernel
theorem dX6_log_1 : decode cX6_log 1 = .ok (.iconst (-1), 1) := by decide +kernel
theorem dX6_log_2 : decode cX6_log 2 = .ok (.if_icmp .eq 16, 3) := by decide +kernel
theorem dX6_log_5 : decode cX6_log 5 = .ok (.iload_n 1, 1) := by decide +kernel
theorem dX6_log_6 : decode cX6_log 6 = .ok (.ifCond .lt 9, 3) := by decide +kernel
theorem dX6_log_9 : decode cX6_log 9 = .ok (.iload_n 1, 1) := by decide +kernel
theorem dX6_log_10 : decode cX6_log 10 = .ok (.bipush 6, 2) := by decide +kernel
theorem dX6_log_12 : decode cX6_log 12 = .ok (.if_icmp .lt 6, 3) := by decide +kernel
theorem dX6_log_15 : decode cX6_log 15 = .ok (.bipush (-101), 2) := by decide +kernel
theorem dX6_log_17 : decode cX6_log 17 = .ok (.ireturn, 1) := by decide +kernel
theorem dX6_log_18 : decode cX6_log 18 = .ok (.aload_n 0, 1) := by decide +kernel
theorem dX6_log_19 : decode cX6_log 19 = .ok (.getfield 19, 3) := by decide +kernel
theorem dX6_log_22 : decode cX6_log 22 = .ok (.getfield 197, 3) := by decide +kernel
theorem dX6_log_25 : decode cX6_log 25 = .ok (.bipush 7, 2) := by decide +kernel
theorem dX6_log_27 : decode cX6_log 27 = .ok (.if_icmp .lt 6, 3) := by decide +kernel
theorem dX6_log_30 : decode cX6_log 30 = .ok (.bipush (-104), 2) := by decide +kernel
theorem dX6_log_32 : decode cX6_log 32 = .ok (.ireturn, 1) := by decide +kernel
theorem dX6_log_33 : decode cX6_log 33 = .ok (.aload_n 0, 1) := by decide +kernel
theorem dX6_log_34 : decode cX6_log 34 = .ok (.getfield 19, 3) := by decide +kernel
theorem dX6_log_37 : decode cX6_log 37 = .ok (.getfield 200, 3) := by decide +kernel
theorem dX6_log_40 : decode cX6_log 40 = .ok (.aload_n 0, 1) := by decide +kernel
theorem dX6_log_41 : decode cX6_log 41 = .ok (.getfield 19, 3) := by decide +kernel
theorem dX6_log_44 : decode cX6_log 44 = .ok (.getfield 197, 3) := by decide +kernel
theorem dX6_log_47 : decode cX6_log 47 = .ok (.iload_n 1, 1) := by decide +kernel
theorem dX6_log_48 : decode cX6_log 48 = .ok (.iastore, 1) := by decide +kernel
theorem dX6_log_49 : decode cX6_log 49 = .ok (.aload_n 0, 1) := by decide +kernel
theorem dX6_log_50 : decode cX6_log 50 = .ok (.getfield 19, 3) := by decide +kernel
theorem dX6_log_53 : decode cX6_log 53 = .ok (.dup, 1) := by decide +kernel
theorem dX6_log_54 : decode cX6_log 54 = .ok (.getfield 197, 3) := by decide +kernel
theorem dX6_log_57 : decode cX6_log 57 = .ok (.iconst 1, 1) := by decide +kernel
theorem dX6_log_58 : decode cX6_log 58 = .ok (.iadd, 1) := by decide +kernel
theorem dX6_log_59 : decode cX6_log 59 = .ok (.putfield 197, 3) := by decide +kernel
theorem dX6_log_62 : decode cX6_log 62 = .ok (.aload_n 0, 1) := by decide +kernel
theorem dX6_log_63 : decode cX6_log 63 = .ok (.getfield 39, 3) := by decide +kernel
theorem dX6_log_66 : decode cX6_log 66 = .ok (.invokevirtual 76, 3) := by decide +kernel
theorem dX6_log_69 : decode cX6_log 69 = .ok (.aload_n 0, 1) := by decide +kernel
theorem dX6_log_70 : decode cX6_log 70 = .ok (.getfield 19, 3) := by decide +kernel
theorem dX6_log_73 : decode cX6_log 73 = .ok (.getfield 197, 3) := by decide +kernel
theorem dX6_log_76 : decode cX6_log 76 = .ok (.ireturn, 1) := by decide +kernel
theorem dX6_forget_0 : decode cX6_forget 0 = .ok (.aload_n 0, 1) := by decide +kernel
theorem dX6_forget_1 : decode cX6_forget 1 = .ok (.getfield 19, 3) := by decide +kernel
theorem dX6_forget_4 : decode cX6_forget 4 = .ok (.getfield 197, 3) := by decide +kernel
theorem dX6_forget_7 : decode cX6_forget 7 = .ok (.istore_n 1, 1) := by decide +kernel
theorem dX6_forget_8 : decode cX6_forget 8 = .ok (.aload_n 0, 1) := by decide +kernel
theorem dX6_forget_9 : decode cX6_forget 9 = .ok (.getfield 19, 3) := by decide +kernel
theorem dX6_forget_12 : decode cX6_forget 12 = .ok (.iconst 0, 1) := by decide +kernel
theorem dX6_forget_13 : decode cX6_forget 13 = .ok (.putfield 197, 3) := by decide +kernel
theorem dX6_forget_16 : decode cX6_forget 16 = .ok (.aload_n 0, 1) := by decide +kernel
theorem dX6_forget_17 : decode cX6_forget 17 = .ok (.getfield 39, 3) := by decide +kernel
theorem dX6_forget_20 : decode cX6_forget 20 = .ok (.invokevirtual 76, 3) := by decide +kernel
theorem dX6_forget_23 : decode cX6_forget 23 = .ok (.iload_n 1, 1) := by decide +kernel
theorem dX6_forget_24 : decode cX6_forget 24 = .ok (.ireturn, 1) := by decide +kernel
theorem dX6_walks_0 : decode cX6_walks 0 = .ok (.aload_n 0, 1) := by decide +kernel
theorem dX6_walks_1 : decode cX6_walks 1 = .ok (.getfield 19, 3) := by decide +kernel
theorem dX6_walks_4 : decode cX6_walks 4 = .ok (.getfield 79, 3) := by decide +kernel
theorem dX6_walks_7 : decode cX6_walks 7 = .ok (.ifCond .ne 6, 3) := by decide +kernel
theorem dX6_walks_10 : decode cX6_walks 10 = .ok (.bipush (-103), 2) := by decide +kernel
theorem dX6_walks_12 : decode cX6_walks 12 = .ok (.ireturn, 1) := by decide +kernel
theorem dX6_walks_13 : decode cX6_walks 13 = .ok (.aload_n 0, 1) := by decide +kernel
theorem dX6_walks_14 : decode cX6_walks 14 = .ok (.getfield 39, 3) := by decide +kernel
theorem dX6_walks_17 : decode cX6_walks 17 = .ok (.aload_n 0, 1) := by decide +kernel
theorem dX6_walks_18 : decode cX6_walks 18 = .ok (.getfield 19, 3) := by decide +kernel
theorem dX6_walks_21 : decode cX6_walks 21 = .ok (.invokevirtual 203, 3) := by decide +kernel
theorem dX6_walks_24 : decode cX6_walks 24 = .ok (.aload_n 0, 1) := by decide +kernel
theorem dX6_walks_25 : decode cX6_walks 25 = .ok (.getfield 39, 3) := by decide +kernel
theorem dX6_walks_28 : decode cX6_walks 28 = .ok (.getfield 206, 3) := by decide +kernel
theorem dX6_walks_31 : decode cX6_walks 31 = .ok (.ireturn, 1) := by decide +kernel
theorem dX6_walksBy_0 : decode cX6_walksBy 0 = .ok (.iload_n 1, 1) := by decide +kernel
theorem dX6_walksBy_1 : decode cX6_walksBy 1 = .ok (.ifCond .lt 9, 3) := by decide +kernel
theorem dX6_walksBy_4 : decode cX6_walksBy 4 = .ok (.iload_n 1, 1) := by decide +kernel
theorem dX6_walksBy_5 : decode cX6_walksBy 5 = .ok (.bipush 60, 2) := by decide +kernel
theorem dX6_walksBy_7 : decode cX6_walksBy 7 = .ok (.if_icmp .le 6, 3) := by decide +kernel
theorem dX6_walksBy_10 : decode cX6_walksBy 10 = .ok (.bipush (-102), 2) := by decide +kernel
theorem dX6_walksBy_12 : decode cX6_walksBy 12 = .ok (.ireturn, 1) := by decide +kernel
theorem dX6_walksBy_13 : decode cX6_walksBy 13 = .ok (.aload_n 0, 1) := by decide +kernel
theorem dX6_walksBy_14 : decode cX6_walksBy 14 = .ok (.getfield 19, 3) := by decide +kernel
theorem dX6_walksBy_17 : decode cX6_walksBy 17 = .ok (.getfield 79, 3) := by decide +kernel
theorem dX6_walksBy_20 : decode cX6_walksBy 20 = .ok (.ifCond .ne 6, 3) := by decide +kernel
theorem dX6_walksBy_23 : decode cX6_walksBy 23 = .ok (.bipush (-103), 2) := by decide +kernel
theorem dX6_walksBy_25 : decode cX6_walksBy 25 = .ok (.ireturn, 1) := by decide +kernel
theorem dX6_walksBy_26 : decode cX6_walksBy 26 = .ok (.aload_n 0, 1) := by decide +kernel
theorem dX6_walksBy_27 : decode cX6_walksBy 27 = .ok (.getfield 39, 3) := by decide +kernel
theorem dX6_walksBy_30 : decode cX6_walksBy 30 = .ok (.aload_n 0, 1) := by decide +kernel
theorem dX6_walksBy_31 : decode cX6_walksBy 31 = .ok (.getfield 19, 3) := by decide +kernel
theorem dX6_walksBy_34 : decode cX6_walksBy 34 = .ok (.invokevirtual 203, 3) := by decide +kernel
theorem dX6_walksBy_37 : decode cX6_walksBy 37 = .ok (.aload_n 0, 1) := by decide +kernel
theorem dX6_walksBy_38 : decode cX6_walksBy 38 = .ok (.getfield 39, 3) := by decide +kernel
theorem dX6_walksBy_41 : decode cX6_walksBy 41 = .ok (.getfield 209, 3) := by decide +kernel
theorem dX6_walksBy_44 : decode cX6_walksBy 44 = .ok (.iload_n 1, 1) := by decide +kernel
theorem dX6_walksBy_45 : decode cX6_walksBy 45 = .ok (.iaload, 1) := by decide +kernel
theorem dX6_walksBy_46 : decode cX6_walksBy 46 = .ok (.ireturn, 1) := by decide +kernel
theorem dX6_last_0 : decode cX6_last 0 = .ok (.aload_n 0, 1) := by decide +kernel
theorem dX6_last_1 : decode cX6_last 1 = .ok (.getfield 19, 3) := by decide +kernel
theorem dX6_last_4 : decode cX6_last 4 = .ok (.getfield 79, 3) := by decide +kernel
theorem dX6_last_7 : decode cX6_last 7 = .ok (.ifCond .ne 6, 3) := by decide +kernel
theorem dX6_last_10 : decode cX6_last 10 = .ok (.bipush (-103), 2) := by decide +kernel
theorem dX6_last_12 : decode cX6_last 12 = .ok (.ireturn, 1) := by decide +kernel
theorem dX6_last_13 : decode cX6_last 13 = .ok (.aload_n 0, 1) := by decide +kernel
theorem dX6_last_14 : decode cX6_last 14 = .ok (.getfield 39, 3) := by decide +kernel
theorem dX6_last_17 : decode cX6_last 17 = .ok (.aload_n 0, 1) := by decide +kernel
theorem dX6_last_18 : decode cX6_last 18 = .ok (.getfield 19, 3) := by decide +kernel
theorem dX6_last_21 : decode cX6_last 21 = .ok (.invokevirtual 203, 3) := by decide +kernel
theorem dX6_last_24 : decode cX6_last 24 = .ok (.aload_n 0, 1) := by decide +kernel
theorem dX6_last_25 : decode cX6_last 25 = .ok (.getfield 39, 3) := by decide +kernel
theorem dX6_last_28 : decode cX6_last 28 = .ok (.getfield 212, 3) := by decide +kernel
theorem dX6_last_31 : decode cX6_last 31 = .ok (.ireturn, 1) := by decide +kernel
theorem dX6_months_0 : decode cX6_months 0 = .ok (.iload_n 1, 1) := by decide +kernel
theorem dX6_months_1 : decode cX6_months 1 = .ok (.iconst 1, 1) := by decide +kernel
theorem dX6_months_2 : decode cX6_months 2 = .ok (.if_icmp .lt 22, 3) := by decide +kernel
theorem dX6_months_5 : decode cX6_months 5 = .ok (.iload_n 1, 1) := by decide +kernel
theorem dX6_months_6 : decode cX6_months 6 = .ok (.bipush 60, 2) := by decide +kernel
theorem dX6_months_8 : decode cX6_months 8 = .ok (.if_icmp .gt 16, 3) := by decide +kernel
theorem dX6_months_11 : decode cX6_months 11 = .ok (.iload_n 2, 1) := by decide +kernel
theorem dX6_months_12 : decode cX6_months 12 = .ok (.ifCond .lt 12, 3) := by decide +kernel
theorem dX6_months_15 : decode cX6_months 15 = .ok (.iload_n 3, 1) := by decide +kernel
theorem dX6_months_16 : decode cX6_months 16 = .ok (.ifCond .lt 8, 3) := by decide +kernel
theorem dX6_months_19 : decode cX6_months 19 = .ok (.iload_n 3, 1) := by decide +kernel
theorem dX6_months_20 : decode cX6_months 20 = .ok (.iconst 3, 1) := by decide +kernel
theorem dX6_months_21 : decode cX6_months 21 = .ok (.if_icmp .le 6, 3) := by decide +kernel
theorem dX6_months_24 : decode cX6_months 24 = .ok (.bipush (-102), 2) := by decide +kernel
theorem dX6_months_26 : decode cX6_months 26 = .ok (.ireturn, 1) := by decide +kernel
theorem dX6_months_27 : decode cX6_months 27 = .ok (.aload_n 0, 1) := by decide +kernel
theorem dX6_months_28 : decode cX6_months 28 = .ok (.getfield 19, 3) := by decide +kernel
theorem dX6_months_31 : decode cX6_months 31 = .ok (.getfield 79, 3) := by decide +kernel
theorem dX6_months_34 : decode cX6_months 34 = .ok (.ifCond .ne 6, 3) := by decide +kernel
theorem dX6_months_37 : decode cX6_months 37 = .ok (.bipush (-103), 2) := by decide +kernel
theorem dX6_months_39 : decode cX6_months 39 = .ok (.ireturn, 1) := by decide +kernel
theorem dX6_months_40 : decode cX6_months 40 = .ok (.aload_n 0, 1) := by decide +kernel
theorem dX6_months_41 : decode cX6_months 41 = .ok (.getfield 26, 3) := by decide +kernel
theorem dX6_months_44 : decode cX6_months 44 = .ok (.aload_n 0, 1) := by decide +kernel
theorem dX6_months_45 : decode cX6_months 45 = .ok (.getfield 19, 3) := by decide +kernel
theorem dX6_months_48 : decode cX6_months 48 = .ok (.invokevirtual 215, 3) := by decide +kernel
theorem dX6_months_51 : decode cX6_months 51 = .ok (.aload_n 0, 1) := by decide +kernel
theorem dX6_months_52 : decode cX6_months 52 = .ok (.getfield 26, 3) := by decide +kernel
theorem dX6_months_55 : decode cX6_months 55 = .ok (.iload_n 1, 1) := by decide +kernel
theorem dX6_months_56 : decode cX6_months 56 = .ok (.iload_n 2, 1) := by decide +kernel
theorem dX6_months_57 : decode cX6_months 57 = .ok (.invokevirtual 218, 3) := by decide +kernel
theorem dX6_months_60 : decode cX6_months 60 = .ok (.istore 4, 2) := by decide +kernel
theorem dX6_months_62 : decode cX6_months 62 = .ok (.iload_n 3, 1) := by decide +kernel
theorem dX6_months_63 : decode cX6_months 63 = .ok (.tableswitch 49 0 2 #[25, 33, 41], 25) := by decide +kernel
theorem dX6_months_88 : decode cX6_months 88 = .ok (.aload_n 0, 1) := by decide +kernel
theorem dX6_months_89 : decode cX6_months 89 = .ok (.getfield 26, 3) := by decide +kernel
theorem dX6_months_92 : decode cX6_months 92 = .ok (.invokevirtual 222, 3) := by decide +kernel
theorem dX6_months_95 : decode cX6_months 95 = .ok (.ireturn, 1) := by decide +kernel
theorem dX6_months_96 : decode cX6_months 96 = .ok (.aload_n 0, 1) := by decide +kernel
theorem dX6_months_97 : decode cX6_months 97 = .ok (.getfield 26, 3) := by decide +kernel
theorem dX6_months_100 : decode cX6_months 100 = .ok (.invokevirtual 225, 3) := by decide +kernel
theorem dX6_months_103 : decode cX6_months 103 = .ok (.ireturn, 1) := by decide +kernel
theorem dX6_months_104 : decode cX6_months 104 = .ok (.aload_n 0, 1) := by decide +kernel
theorem dX6_months_105 : decode cX6_months 105 = .ok (.getfield 26, 3) := by decide +kernel
theorem dX6_months_108 : decode cX6_months 108 = .ok (.invokevirtual 228, 3) := by decide +kernel
theorem dX6_months_111 : decode cX6_months 111 = .ok (.ireturn, 1) := by decide +kernel
theorem dX6_months_112 : decode cX6_months 112 = .ok (.iload 4, 2) := by decide +kernel
theorem dX6_months_114 : decode cX6_months 114 = .ok (.ireturn, 1) := by decide +kernel
theorem dX6_image_0 : decode cX6_image 0 = .ok (.aload_n 0, 1) := by decide +kernel
theorem dX6_image_1 : decode cX6_image 1 = .ok (.getfield 19, 3) := by decide +kernel
theorem dX6_image_4 : decode cX6_image 4 = .ok (.getfield 79, 3) := by decide +kernel
theorem dX6_image_7 : decode cX6_image 7 = .ok (.ifCond .ne 6, 3) := by decide +kernel
theorem dX6_image_10 : decode cX6_image 10 = .ok (.bipush (-103), 2) := by decide +kernel
theorem dX6_image_12 : decode cX6_image 12 = .ok (.ireturn, 1) := by decide +kernel
theorem dX6_image_13 : decode cX6_image 13 = .ok (.aload_n 0, 1) := by decide +kernel
theorem dX6_image_14 : decode cX6_image 14 = .ok (.getfield 23, 3) := by decide +kernel
theorem dX6_image_17 : decode cX6_image 17 = .ok (.aload_n 0, 1) := by decide +kernel
theorem dX6_image_18 : decode cX6_image 18 = .ok (.getfield 19, 3) := by decide +kernel
theorem dX6_image_21 : decode cX6_image 21 = .ok (.invokevirtual 215, 3) := by decide +kernel
theorem dX6_image_24 : decode cX6_image 24 = .ok (.aload_n 0, 1) := by decide +kernel
theorem dX6_image_25 : decode cX6_image 25 = .ok (.iconst 1, 1) := by decide +kernel
theorem dX6_image_26 : decode cX6_image 26 = .ok (.putfield 43, 3) := by decide +kernel
theorem dX6_image_29 : decode cX6_image 29 = .ok (.aload_n 0, 1) := by decide +kernel
theorem dX6_image_30 : decode cX6_image 30 = .ok (.getfield 19, 3) := by decide +kernel
theorem dX6_image_33 : decode cX6_image 33 = .ok (.getfield 156, 3) := by decide +kernel
theorem dX6_image_36 : decode cX6_image 36 = .ok (.ireturn, 1) := by decide +kernel
theorem dX6_restore_0 : decode cX6_restore 0 = .ok (.aload_n 0, 1) := by decide +kernel
theorem dX6_restore_1 : decode cX6_restore 1 = .ok (.getfield 43, 3) := by decide +kernel
theorem dX6_restore_4 : decode cX6_restore 4 = .ok (.ifCond .ne 6, 3) := by decide +kernel
theorem dX6_restore_7 : decode cX6_restore 7 = .ok (.bipush (-103), 2) := by decide +kernel
theorem dX6_restore_9 : decode cX6_restore 9 = .ok (.ireturn, 1) := by decide +kernel
theorem dX6_restore_10 : decode cX6_restore 10 = .ok (.aload_n 0, 1) := by decide +kernel
theorem dX6_restore_11 : decode cX6_restore 11 = .ok (.getfield 19, 3) := by decide +kernel
theorem dX6_restore_14 : decode cX6_restore 14 = .ok (.aload_n 0, 1) := by decide +kernel
theorem dX6_restore_15 : decode cX6_restore 15 = .ok (.getfield 23, 3) := by decide +kernel
theorem dX6_restore_18 : decode cX6_restore 18 = .ok (.invokevirtual 215, 3) := by decide +kernel
theorem dX6_restore_21 : decode cX6_restore 21 = .ok (.aload_n 0, 1) := by decide +kernel
theorem dX6_restore_22 : decode cX6_restore 22 = .ok (.getfield 39, 3) := by decide +kernel
theorem dX6_restore_25 : decode cX6_restore 25 = .ok (.invokevirtual 76, 3) := by decide +kernel
theorem dX6_restore_28 : decode cX6_restore 28 = .ok (.aload_n 0, 1) := by decide +kernel
theorem dX6_restore_29 : decode cX6_restore 29 = .ok (.getfield 19, 3) := by decide +kernel
theorem dX6_restore_32 : decode cX6_restore 32 = .ok (.getfield 156, 3) := by decide +kernel
theorem dX6_restore_35 : decode cX6_restore 35 = .ok (.ireturn, 1) := by decide +kernel
theorem dX6_count_0 : decode cX6_count 0 = .ok (.iload_n 1, 1) := by decide +kernel
theorem dX6_count_1 : decode cX6_count 1 = .ok (.tableswitch 117 0 8 #[51, 59, 67, 75, 83, 91, 99, 107, 112], 51) := by decide +kernel
theorem dX6_count_52 : decode cX6_count 52 = .ok (.aload_n 0, 1) := by decide +kernel
theorem dX6_count_53 : decode cX6_count 53 = .ok (.getfield 19, 3) := by decide +kernel
theorem dX6_count_56 : decode cX6_count 56 = .ok (.getfield 79, 3) := by decide +kernel
theorem dX6_count_59 : decode cX6_count 59 = .ok (.ireturn, 1) := by decide +kernel
theorem dX6_count_60 : decode cX6_count 60 = .ok (.aload_n 0, 1) := by decide +kernel
theorem dX6_count_61 : decode cX6_count 61 = .ok (.getfield 19, 3) := by decide +kernel
theorem dX6_count_64 : decode cX6_count 64 = .ok (.getfield 162, 3) := by decide +kernel
theorem dX6_count_67 : decode cX6_count 67 = .ok (.ireturn, 1) := by decide +kernel
theorem dX6_count_68 : decode cX6_count 68 = .ok (.aload_n 0, 1) := by decide +kernel
theorem dX6_count_69 : decode cX6_count 69 = .ok (.getfield 19, 3) := by decide +kernel
theorem dX6_count_72 : decode cX6_count 72 = .ok (.getfield 116, 3) := by decide +kernel
theorem dX6_count_75 : decode cX6_count 75 = .ok (.ireturn, 1) := by decide +kernel
theorem dX6_count_76 : decode cX6_count 76 = .ok (.aload_n 0, 1) := by decide +kernel
theorem dX6_count_77 : decode cX6_count 77 = .ok (.getfield 19, 3) := by decide +kernel
theorem dX6_count_80 : decode cX6_count 80 = .ok (.invokevirtual 222, 3) := by decide +kernel
theorem dX6_count_83 : decode cX6_count 83 = .ok (.ireturn, 1) := by decide +kernel
theorem dX6_count_84 : decode cX6_count 84 = .ok (.aload_n 0, 1) := by decide +kernel
theorem dX6_count_85 : decode cX6_count 85 = .ok (.getfield 19, 3) := by decide +kernel
theorem dX6_count_88 : decode cX6_count 88 = .ok (.getfield 156, 3) := by decide +kernel
theorem dX6_count_91 : decode cX6_count 91 = .ok (.ireturn, 1) := by decide +kernel
theorem dX6_count_92 : decode cX6_count 92 = .ok (.aload_n 0, 1) := by decide +kernel
theorem dX6_count_93 : decode cX6_count 93 = .ok (.getfield 19, 3) := by decide +kernel
theorem dX6_count_96 : decode cX6_count 96 = .ok (.getfield 197, 3) := by decide +kernel
theorem dX6_count_99 : decode cX6_count 99 = .ok (.ireturn, 1) := by decide +kernel
theorem dX6_count_100 : decode cX6_count 100 = .ok (.aload_n 0, 1) := by decide +kernel
theorem dX6_count_101 : decode cX6_count 101 = .ok (.getfield 10, 3) := by decide +kernel
theorem dX6_count_104 : decode cX6_count 104 = .ok (.getfield 58, 3) := by decide +kernel
theorem dX6_count_107 : decode cX6_count 107 = .ok (.ireturn, 1) := by decide +kernel
theorem dX6_count_108 : decode cX6_count 108 = .ok (.aload_n 0, 1) := by decide +kernel
theorem dX6_count_109 : decode cX6_count 109 = .ok (.getfield 47, 3) := by decide +kernel
theorem dX6_count_112 : decode cX6_count 112 = .ok (.ireturn, 1) := by decide +kernel
theorem dX6_count_113 : decode cX6_count 113 = .ok (.aload_n 0, 1) := by decide +kernel
theorem dX6_count_114 : decode cX6_count 114 = .ok (.getfield 51, 3) := by decide +kernel
theorem dX6_count_117 : decode cX6_count 117 = .ok (.ireturn, 1) := by decide +kernel
theorem dX6_count_118 : decode cX6_count 118 = .ok (.bipush (-102), 2) := by decide +kernel
theorem dX6_count_120 : decode cX6_count 120 = .ok (.ireturn, 1) := by decide +kernel
theorem dX6_digest_0 : decode cX6_digest 0 = .ok (.aload_n 0, 1) := by decide +kernel
theorem dX6_digest_1 : decode cX6_digest 1 = .ok (.aload_n 0, 1) := by decide +kernel
theorem dX6_digest_2 : decode cX6_digest 2 = .ok (.ldc2_w 231, 3) := by decide +kernel
theorem dX6_digest_5 : decode cX6_digest 5 = .ok (.invokevirtual 233, 3) := by decide +kernel
theorem dX6_digest_8 : decode cX6_digest 8 = .ok (.invokevirtual 237, 3) := by decide +kernel
theorem dX6_digest_11 : decode cX6_digest 11 = .ok (.lstore_n 1, 1) := by decide +kernel
theorem dX6_digest_12 : decode cX6_digest 12 = .ok (.aload_n 0, 1) := by decide +kernel
theorem dX6_digest_13 : decode cX6_digest 13 = .ok (.getfield 19, 3) := by decide +kernel
theorem dX6_digest_16 : decode cX6_digest 16 = .ok (.getfield 79, 3) := by decide +kernel
theorem dX6_digest_19 : decode cX6_digest 19 = .ok (.ifCond .le 46, 3) := by decide +kernel
theorem dX6_digest_22 : decode cX6_digest 22 = .ok (.ldc2_w 240, 3) := by decide +kernel
theorem dX6_digest_25 : decode cX6_digest 25 = .ok (.lload_n 1, 1) := by decide +kernel
theorem dX6_digest_26 : decode cX6_digest 26 = .ok (.lmul, 1) := by decide +kernel
theorem dX6_digest_27 : decode cX6_digest 27 = .ok (.aload_n 0, 1) := by decide +kernel
theorem dX6_digest_28 : decode cX6_digest 28 = .ok (.invokevirtual 242, 3) := by decide +kernel
theorem dX6_digest_31 : decode cX6_digest 31 = .ok (.i2l, 1) := by decide +kernel
theorem dX6_digest_32 : decode cX6_digest 32 = .ok (.ladd, 1) := by decide +kernel
theorem dX6_digest_33 : decode cX6_digest 33 = .ok (.lstore_n 1, 1) := by decide +kernel
theorem dX6_digest_34 : decode cX6_digest 34 = .ok (.ldc2_w 240, 3) := by decide +kernel
theorem dX6_digest_37 : decode cX6_digest 37 = .ok (.lload_n 1, 1) := by decide +kernel
theorem dX6_digest_38 : decode cX6_digest 38 = .ok (.lmul, 1) := by decide +kernel
theorem dX6_digest_39 : decode cX6_digest 39 = .ok (.aload_n 0, 1) := by decide +kernel
theorem dX6_digest_40 : decode cX6_digest 40 = .ok (.aload_n 0, 1) := by decide +kernel
theorem dX6_digest_41 : decode cX6_digest 41 = .ok (.getfield 19, 3) := by decide +kernel
theorem dX6_digest_44 : decode cX6_digest 44 = .ok (.getfield 162, 3) := by decide +kernel
theorem dX6_digest_47 : decode cX6_digest 47 = .ok (.invokevirtual 245, 3) := by decide +kernel
theorem dX6_digest_50 : decode cX6_digest 50 = .ok (.i2l, 1) := by decide +kernel
theorem dX6_digest_51 : decode cX6_digest 51 = .ok (.ladd, 1) := by decide +kernel
theorem dX6_digest_52 : decode cX6_digest 52 = .ok (.lstore_n 1, 1) := by decide +kernel
theorem dX6_digest_53 : decode cX6_digest 53 = .ok (.ldc2_w 240, 3) := by decide +kernel
theorem dX6_digest_56 : decode cX6_digest 56 = .ok (.lload_n 1, 1) := by decide +kernel
theorem dX6_digest_57 : decode cX6_digest 57 = .ok (.lmul, 1) := by decide +kernel
theorem dX6_digest_58 : decode cX6_digest 58 = .ok (.aload_n 0, 1) := by decide +kernel
theorem dX6_digest_59 : decode cX6_digest 59 = .ok (.invokevirtual 248, 3) := by decide +kernel
theorem dX6_digest_62 : decode cX6_digest 62 = .ok (.i2l, 1) := by decide +kernel
theorem dX6_digest_63 : decode cX6_digest 63 = .ok (.ladd, 1) := by decide +kernel
theorem dX6_digest_64 : decode cX6_digest 64 = .ok (.lstore_n 1, 1) := by decide +kernel
theorem dX6_digest_65 : decode cX6_digest 65 = .ok (.iconst 0, 1) := by decide +kernel
theorem dX6_digest_66 : decode cX6_digest 66 = .ok (.istore_n 3, 1) := by decide +kernel
theorem dX6_digest_67 : decode cX6_digest 67 = .ok (.iload_n 3, 1) := by decide +kernel
theorem dX6_digest_68 : decode cX6_digest 68 = .ok (.aload_n 0, 1) := by decide +kernel
theorem dX6_digest_69 : decode cX6_digest 69 = .ok (.getfield 10, 3) := by decide +kernel
theorem dX6_digest_72 : decode cX6_digest 72 = .ok (.getfield 58, 3) := by decide +kernel
theorem dX6_digest_75 : decode cX6_digest 75 = .ok (.if_icmp .ge 32, 3) := by decide +kernel
theorem dX6_digest_78 : decode cX6_digest 78 = .ok (.iload_n 3, 1) := by decide +kernel
theorem dX6_digest_79 : decode cX6_digest 79 = .ok (.bipush 44, 2) := by decide +kernel
theorem dX6_digest_81 : decode cX6_digest 81 = .ok (.if_icmp .ge 26, 3) := by decide +kernel
theorem dX6_digest_84 : decode cX6_digest 84 = .ok (.ldc2_w 240, 3) := by decide +kernel
theorem dX6_digest_87 : decode cX6_digest 87 = .ok (.lload_n 1, 1) := by decide +kernel
theorem dX6_digest_88 : decode cX6_digest 88 = .ok (.lmul, 1) := by decide +kernel
theorem dX6_digest_89 : decode cX6_digest 89 = .ok (.aload_n 0, 1) := by decide +kernel
theorem dX6_digest_90 : decode cX6_digest 90 = .ok (.getfield 10, 3) := by decide +kernel
theorem dX6_digest_93 : decode cX6_digest 93 = .ok (.getfield 251, 3) := by decide +kernel
theorem dX6_digest_96 : decode cX6_digest 96 = .ok (.iload_n 3, 1) := by decide +kernel
theorem dX6_digest_97 : decode cX6_digest 97 = .ok (.iaload, 1) := by decide +kernel
theorem dX6_digest_98 : decode cX6_digest 98 = .ok (.i2l, 1) := by decide +kernel
theorem dX6_digest_99 : decode cX6_digest 99 = .ok (.ladd, 1) := by decide +kernel
theorem dX6_digest_100 : decode cX6_digest 100 = .ok (.lstore_n 1, 1) := by decide +kernel
theorem dX6_digest_101 : decode cX6_digest 101 = .ok (.iinc 3 1, 3) := by decide +kernel
theorem dX6_digest_104 : decode cX6_digest 104 = .ok (.goto (-37), 3) := by decide +kernel
theorem dX6_digest_107 : decode cX6_digest 107 = .ok (.iconst 0, 1) := by decide +kernel
theorem dX6_digest_108 : decode cX6_digest 108 = .ok (.istore_n 3, 1) := by decide +kernel
theorem dX6_digest_109 : decode cX6_digest 109 = .ok (.iload_n 3, 1) := by decide +kernel
theorem dX6_digest_110 : decode cX6_digest 110 = .ok (.bipush 8, 2) := by decide +kernel
theorem dX6_digest_112 : decode cX6_digest 112 = .ok (.if_icmp .gt 22, 3) := by decide +kernel
theorem dX6_digest_115 : decode cX6_digest 115 = .ok (.ldc2_w 240, 3) := by decide +kernel
theorem dX6_digest_118 : decode cX6_digest 118 = .ok (.lload_n 1, 1) := by decide +kernel
theorem dX6_digest_119 : decode cX6_digest 119 = .ok (.lmul, 1) := by decide +kernel
theorem dX6_digest_120 : decode cX6_digest 120 = .ok (.aload_n 0, 1) := by decide +kernel
theorem dX6_digest_121 : decode cX6_digest 121 = .ok (.iload_n 3, 1) := by decide +kernel
theorem dX6_digest_122 : decode cX6_digest 122 = .ok (.invokevirtual 254, 3) := by decide +kernel
theorem dX6_digest_125 : decode cX6_digest 125 = .ok (.i2l, 1) := by decide +kernel
theorem dX6_digest_126 : decode cX6_digest 126 = .ok (.ladd, 1) := by decide +kernel
theorem dX6_digest_127 : decode cX6_digest 127 = .ok (.lstore_n 1, 1) := by decide +kernel
theorem dX6_digest_128 : decode cX6_digest 128 = .ok (.iinc 3 1, 3) := by decide +kernel
theorem dX6_digest_131 : decode cX6_digest 131 = .ok (.goto (-22), 3) := by decide +kernel
theorem dX6_digest_134 : decode cX6_digest 134 = .ok (.lload_n 1, 1) := by decide +kernel
theorem dX6_digest_135 : decode cX6_digest 135 = .ok (.lreturn, 1) := by decide +kernel
theorem dX6_digestOfRoads_0 : decode cX6_digestOfRoads 0 = .ok (.lload_n 1, 1) := by decide +kernel
theorem dX6_digestOfRoads_1 : decode cX6_digestOfRoads 1 = .ok (.lstore_n 3, 1) := by decide +kernel
theorem dX6_digestOfRoads_2 : decode cX6_digestOfRoads 2 = .ok (.iconst 0, 1) := by decide +kernel
theorem dX6_digestOfRoads_3 : decode cX6_digestOfRoads 3 = .ok (.istore 5, 2) := by decide +kernel
theorem dX6_digestOfRoads_5 : decode cX6_digestOfRoads 5 = .ok (.iload 5, 2) := by decide +kernel
theorem dX6_digestOfRoads_7 : decode cX6_digestOfRoads 7 = .ok (.aload_n 0, 1) := by decide +kernel
theorem dX6_digestOfRoads_8 : decode cX6_digestOfRoads 8 = .ok (.getfield 19, 3) := by decide +kernel
theorem dX6_digestOfRoads_11 : decode cX6_digestOfRoads 11 = .ok (.getfield 79, 3) := by decide +kernel
theorem dX6_digestOfRoads_14 : decode cX6_digestOfRoads 14 = .ok (.if_icmp .ge 40, 3) := by decide +kernel
theorem dX6_digestOfRoads_17 : decode cX6_digestOfRoads 17 = .ok (.iconst 0, 1) := by decide +kernel
theorem dX6_digestOfRoads_18 : decode cX6_digestOfRoads 18 = .ok (.istore 6, 2) := by decide +kernel
theorem dX6_digestOfRoads_20 : decode cX6_digestOfRoads 20 = .ok (.iload 6, 2) := by decide +kernel
theorem dX6_digestOfRoads_22 : decode cX6_digestOfRoads 22 = .ok (.iconst 5, 1) := by decide +kernel
theorem dX6_digestOfRoads_23 : decode cX6_digestOfRoads 23 = .ok (.if_icmp .gt 25, 3) := by decide +kernel
theorem dX6_digestOfRoads_26 : decode cX6_digestOfRoads 26 = .ok (.ldc2_w 240, 3) := by decide +kernel
theorem dX6_digestOfRoads_29 : decode cX6_digestOfRoads 29 = .ok (.lload_n 3, 1) := by decide +kernel
theorem dX6_digestOfRoads_30 : decode cX6_digestOfRoads 30 = .ok (.lmul, 1) := by decide +kernel
theorem dX6_digestOfRoads_31 : decode cX6_digestOfRoads 31 = .ok (.aload_n 0, 1) := by decide +kernel
theorem dX6_digestOfRoads_32 : decode cX6_digestOfRoads 32 = .ok (.iload 5, 2) := by decide +kernel
theorem dX6_digestOfRoads_34 : decode cX6_digestOfRoads 34 = .ok (.iload 6, 2) := by decide +kernel
theorem dX6_digestOfRoads_36 : decode cX6_digestOfRoads 36 = .ok (.invokevirtual 257, 3) := by decide +kernel
theorem dX6_digestOfRoads_39 : decode cX6_digestOfRoads 39 = .ok (.i2l, 1) := by decide +kernel
theorem dX6_digestOfRoads_40 : decode cX6_digestOfRoads 40 = .ok (.ladd, 1) := by decide +kernel
theorem dX6_digestOfRoads_41 : decode cX6_digestOfRoads 41 = .ok (.lstore_n 3, 1) := by decide +kernel
theorem dX6_digestOfRoads_42 : decode cX6_digestOfRoads 42 = .ok (.iinc 6 1, 3) := by decide +kernel
theorem dX6_digestOfRoads_45 : decode cX6_digestOfRoads 45 = .ok (.goto (-25), 3) := by decide +kernel
theorem dX6_digestOfRoads_48 : decode cX6_digestOfRoads 48 = .ok (.iinc 5 1, 3) := by decide +kernel
theorem dX6_digestOfRoads_51 : decode cX6_digestOfRoads 51 = .ok (.goto (-46), 3) := by decide +kernel
theorem dX6_digestOfRoads_54 : decode cX6_digestOfRoads 54 = .ok (.lload_n 3, 1) := by decide +kernel
theorem dX6_digestOfRoads_55 : decode cX6_digestOfRoads 55 = .ok (.lreturn, 1) := by decide +kernel
theorem dX6_digestOfPilgrims_0 : decode cX6_digestOfPilgrims 0 = .ok (.lload_n 1, 1) := by decide +kernel
theorem dX6_digestOfPilgrims_1 : decode cX6_digestOfPilgrims 1 = .ok (.lstore_n 3, 1) := by decide +kernel
theorem dX6_digestOfPilgrims_2 : decode cX6_digestOfPilgrims 2 = .ok (.iconst 0, 1) := by decide +kernel
theorem dX6_digestOfPilgrims_3 : decode cX6_digestOfPilgrims 3 = .ok (.istore 5, 2) := by decide +kernel
theorem dX6_digestOfPilgrims_5 : decode cX6_digestOfPilgrims 5 = .ok (.iload 5, 2) := by decide +kernel
theorem dX6_digestOfPilgrims_7 : decode cX6_digestOfPilgrims 7 = .ok (.aload_n 0, 1) := by decide +kernel
theorem dX6_digestOfPilgrims_8 : decode cX6_digestOfPilgrims 8 = .ok (.getfield 19, 3) := by decide +kernel
theorem dX6_digestOfPilgrims_11 : decode cX6_digestOfPilgrims 11 = .ok (.getfield 116, 3) := by decide +kernel
theorem dX6_digestOfPilgrims_14 : decode cX6_digestOfPilgrims 14 = .ok (.if_icmp .ge 73, 3) := by decide +kernel
theorem dX6_digestOfPilgrims_17 : decode cX6_digestOfPilgrims 17 = .ok (.iconst 0, 1) := by decide +kernel
theorem dX6_digestOfPilgrims_18 : decode cX6_digestOfPilgrims 18 = .ok (.istore 6, 2) := by decide +kernel
theorem dX6_digestOfPilgrims_20 : decode cX6_digestOfPilgrims 20 = .ok (.iload 6, 2) := by decide +kernel
theorem dX6_digestOfPilgrims_22 : decode cX6_digestOfPilgrims 22 = .ok (.iconst 4, 1) := by decide +kernel
theorem dX6_digestOfPilgrims_23 : decode cX6_digestOfPilgrims 23 = .ok (.if_icmp .gt 25, 3) := by decide +kernel
theorem dX6_digestOfPilgrims_26 : decode cX6_digestOfPilgrims 26 = .ok (.ldc2_w 240, 3) := by decide +kernel
theorem dX6_digestOfPilgrims_29 : decode cX6_digestOfPilgrims 29 = .ok (.lload_n 3, 1) := by decide +kernel
theorem dX6_digestOfPilgrims_30 : decode cX6_digestOfPilgrims 30 = .ok (.lmul, 1) := by decide +kernel
theorem dX6_digestOfPilgrims_31 : decode cX6_digestOfPilgrims 31 = .ok (.aload_n 0, 1) := by decide +kernel
theorem dX6_digestOfPilgrims_32 : decode cX6_digestOfPilgrims 32 = .ok (.iload 5, 2) := by decide +kernel
theorem dX6_digestOfPilgrims_34 : decode cX6_digestOfPilgrims 34 = .ok (.iload 6, 2) := by decide +kernel
theorem dX6_digestOfPilgrims_36 : decode cX6_digestOfPilgrims 36 = .ok (.invokevirtual 260, 3) := by decide +kernel
theorem dX6_digestOfPilgrims_39 : decode cX6_digestOfPilgrims 39 = .ok (.i2l, 1) := by decide +kernel
theorem dX6_digestOfPilgrims_40 : decode cX6_digestOfPilgrims 40 = .ok (.ladd, 1) := by decide +kernel
theorem dX6_digestOfPilgrims_41 : decode cX6_digestOfPilgrims 41 = .ok (.lstore_n 3, 1) := by decide +kernel
theorem dX6_digestOfPilgrims_42 : decode cX6_digestOfPilgrims 42 = .ok (.iinc 6 1, 3) := by decide +kernel
theorem dX6_digestOfPilgrims_45 : decode cX6_digestOfPilgrims 45 = .ok (.goto (-25), 3) := by decide +kernel
theorem dX6_digestOfPilgrims_48 : decode cX6_digestOfPilgrims 48 = .ok (.bipush 10, 2) := by decide +kernel
theorem dX6_digestOfPilgrims_50 : decode cX6_digestOfPilgrims 50 = .ok (.istore 6, 2) := by decide +kernel
theorem dX6_digestOfPilgrims_52 : decode cX6_digestOfPilgrims 52 = .ok (.iload 6, 2) := by decide +kernel
theorem dX6_digestOfPilgrims_54 : decode cX6_digestOfPilgrims 54 = .ok (.bipush 18, 2) := by decide +kernel
theorem dX6_digestOfPilgrims_56 : decode cX6_digestOfPilgrims 56 = .ok (.if_icmp .ge 25, 3) := by decide +kernel
theorem dX6_digestOfPilgrims_59 : decode cX6_digestOfPilgrims 59 = .ok (.ldc2_w 240, 3) := by decide +kernel
theorem dX6_digestOfPilgrims_62 : decode cX6_digestOfPilgrims 62 = .ok (.lload_n 3, 1) := by decide +kernel
theorem dX6_digestOfPilgrims_63 : decode cX6_digestOfPilgrims 63 = .ok (.lmul, 1) := by decide +kernel
theorem dX6_digestOfPilgrims_64 : decode cX6_digestOfPilgrims 64 = .ok (.aload_n 0, 1) := by decide +kernel
theorem dX6_digestOfPilgrims_65 : decode cX6_digestOfPilgrims 65 = .ok (.iload 5, 2) := by decide +kernel
theorem dX6_digestOfPilgrims_67 : decode cX6_digestOfPilgrims 67 = .ok (.iload 6, 2) := by decide +kernel
theorem dX6_digestOfPilgrims_69 : decode cX6_digestOfPilgrims 69 = .ok (.invokevirtual 260, 3) := by decide +kernel
theorem dX6_digestOfPilgrims_72 : decode cX6_digestOfPilgrims 72 = .ok (.i2l, 1) := by decide +kernel
theorem dX6_digestOfPilgrims_73 : decode cX6_digestOfPilgrims 73 = .ok (.ladd, 1) := by decide +kernel
theorem dX6_digestOfPilgrims_74 : decode cX6_digestOfPilgrims 74 = .ok (.lstore_n 3, 1) := by decide +kernel
theorem dX6_digestOfPilgrims_75 : decode cX6_digestOfPilgrims 75 = .ok (.iinc 6 1, 3) := by decide +kernel
theorem dX6_digestOfPilgrims_78 : decode cX6_digestOfPilgrims 78 = .ok (.goto (-26), 3) := by decide +kernel
theorem dX6_digestOfPilgrims_81 : decode cX6_digestOfPilgrims 81 = .ok (.iinc 5 1, 3) := by decide +kernel
theorem dX6_digestOfPilgrims_84 : decode cX6_digestOfPilgrims 84 = .ok (.goto (-79), 3) := by decide +kernel
theorem dX6_digestOfPilgrims_87 : decode cX6_digestOfPilgrims 87 = .ok (.lload_n 3, 1) := by decide +kernel
theorem dX6_digestOfPilgrims_88 : decode cX6_digestOfPilgrims 88 = .ok (.lreturn, 1) := by decide +kernel
theorem dX6_isRoad_0 : decode cX6_isRoad 0 = .ok (.iload_n 1, 1) := by decide +kernel
theorem dX6_isRoad_1 : decode cX6_isRoad 1 = .ok (.ifCond .lt 18, 3) := by decide +kernel
theorem dX6_isRoad_4 : decode cX6_isRoad 4 = .ok (.iload_n 1, 1) := by decide +kernel
theorem dX6_isRoad_5 : decode cX6_isRoad 5 = .ok (.aload_n 0, 1) := by decide +kernel
theorem dX6_isRoad_6 : decode cX6_isRoad 6 = .ok (.getfield 19, 3) := by decide +kernel
theorem dX6_isRoad_9 : decode cX6_isRoad 9 = .ok (.getfield 79, 3) := by decide +kernel
theorem dX6_isRoad_12 : decode cX6_isRoad 12 = .ok (.if_icmp .ge 7, 3) := by decide +kernel
theorem dX6_isRoad_15 : decode cX6_isRoad 15 = .ok (.iconst 1, 1) := by decide +kernel
theorem dX6_isRoad_16 : decode cX6_isRoad 16 = .ok (.goto 4, 3) := by decide +kernel
theorem dX6_isRoad_19 : decode cX6_isRoad 19 = .ok (.iconst 0, 1) := by decide +kernel
theorem dX6_isRoad_20 : decode cX6_isRoad 20 = .ok (.ireturn, 1) := by decide +kernel
theorem dX6_isPilgrim_0 : decode cX6_isPilgrim 0 = .ok (.iload_n 1, 1) := by decide +kernel
theorem dX6_isPilgrim_1 : decode cX6_isPilgrim 1 = .ok (.ifCond .lt 18, 3) := by decide +kernel
theorem dX6_isPilgrim_4 : decode cX6_isPilgrim 4 = .ok (.iload_n 1, 1) := by decide +kernel
theorem dX6_isPilgrim_5 : decode cX6_isPilgrim 5 = .ok (.aload_n 0, 1) := by decide +kernel
theorem dX6_isPilgrim_6 : decode cX6_isPilgrim 6 = .ok (.getfield 19, 3) := by decide +kernel
theorem dX6_isPilgrim_9 : decode cX6_isPilgrim 9 = .ok (.getfield 116, 3) := by decide +kernel
theorem dX6_isPilgrim_12 : decode cX6_isPilgrim 12 = .ok (.if_icmp .ge 7, 3) := by decide +kernel
theorem dX6_isPilgrim_15 : decode cX6_isPilgrim 15 = .ok (.iconst 1, 1) := by decide +kernel
theorem dX6_isPilgrim_16 : decode cX6_isPilgrim 16 = .ok (.goto 4, 3) := by decide +kernel
theorem dX6_isPilgrim_19 : decode cX6_isPilgrim 19 = .ok (.iconst 0, 1) := by decide +kernel
theorem dX6_isPilgrim_20 : decode cX6_isPilgrim 20 = .ok (.ireturn, 1) := by decide +kernel
theorem dX6_mayForesee_0 : decode cX6_mayForesee 0 = .ok (.aload_n 0, 1) := by decide +kernel
theorem dX6_mayForesee_1 : decode cX6_mayForesee 1 = .ok (.getfield 19, 3) := by decide +kernel
theorem dX6_mayForesee_4 : decode cX6_mayForesee 4 = .ok (.getfield 119, 3) := by decide +kernel
theorem dX6_mayForesee_7 : decode cX6_mayForesee 7 = .ok (.iload_n 1, 1) := by decide +kernel
theorem dX6_mayForesee_8 : decode cX6_mayForesee 8 = .ok (.aaload, 1) := by decide +kernel
theorem dX6_mayForesee_9 : decode cX6_mayForesee 9 = .ok (.getfield 142, 3) := by decide +kernel
theorem dX6_mayForesee_12 : decode cX6_mayForesee 12 = .ok (.ifCond .ne 16, 3) := by decide +kernel
theorem dX6_mayForesee_15 : decode cX6_mayForesee 15 = .ok (.aload_n 0, 1) := by decide +kernel
theorem dX6_mayForesee_16 : decode cX6_mayForesee 16 = .ok (.getfield 51, 3) := by decide +kernel
theorem dX6_mayForesee_19 : decode cX6_mayForesee 19 = .ok (.bipush 24, 2) := by decide +kernel
theorem dX6_mayForesee_21 : decode cX6_mayForesee 21 = .ok (.if_icmp .ge 7, 3) := by decide +kernel
theorem dX6_mayForesee_24 : decode cX6_mayForesee 24 = .ok (.iconst 1, 1) := by decide +kernel
theorem dX6_mayForesee_25 : decode cX6_mayForesee 25 = .ok (.goto 4, 3) := by decide +kernel
theorem dX6_mayForesee_28 : decode cX6_mayForesee 28 = .ok (.iconst 0, 1) := by decide +kernel
theorem dX6_mayForesee_29 : decode cX6_mayForesee 29 = .ok (.ireturn, 1) := by decide +kernel
theorem dX6_asNumber_0 : decode cX6_asNumber 0 = .ok (.iload_n 0, 1) := by decide +kernel
theorem dX6_asNumber_1 : decode cX6_asNumber 1 = .ok (.ifCond .eq 7, 3) := by decide +kernel
theorem dX6_asNumber_4 : decode cX6_asNumber 4 = .ok (.iconst 1, 1) := by decide +kernel
theorem dX6_asNumber_5 : decode cX6_asNumber 5 = .ok (.goto 4, 3) := by decide +kernel
theorem dX6_asNumber_8 : decode cX6_asNumber 8 = .ok (.iconst 0, 1) := by decide +kernel
theorem dX6_asNumber_9 : decode cX6_asNumber 9 = .ok (.ireturn, 1) := by decide +kernel
theorem dX7_init_0 : decode cX7_init 0 = .ok (.aload_n 0, 1) := by decide +kernel
theorem dX7_init_1 : decode cX7_init 1 = .ok (.invokespecial 1, 3) := by decide +kernel
theorem dX7_init_4 : decode cX7_init 4 = .ok (.aload_n 0, 1) := by decide +kernel
theorem dX7_init_5 : decode cX7_init 5 = .ok (.bipush 44, 2) := by decide +kernel
theorem dX7_init_7 : decode cX7_init 7 = .ok (.newarray .int, 2) := by decide +kernel
theorem dX7_init_9 : decode cX7_init 9 = .ok (.putfield 7, 3) := by decide +kernel
theorem dX7_init_12 : decode cX7_init 12 = .ok (.aload_n 0, 1) := by decide +kernel
theorem dX7_init_13 : decode cX7_init 13 = .ok (.bipush 32, 2) := by decide +kernel
theorem dX7_init_15 : decode cX7_init 15 = .ok (.newarray .int, 2) := by decide +kernel
theorem dX7_init_17 : decode cX7_init 17 = .ok (.putfield 13, 3) := by decide +kernel
theorem dX7_init_20 : decode cX7_init 20 = .ok (.aload_n 0, 1) := by decide +kernel
theorem dX7_init_21 : decode cX7_init 21 = .ok (.bipush 45, 2) := by decide +kernel
theorem dX7_init_23 : decode cX7_init 23 = .ok (.newarray .int, 2) := by decide +kernel
theorem dX7_init_25 : decode cX7_init 25 = .ok (.putfield 16, 3) := by decide +kernel
theorem dX7_init_28 : decode cX7_init 28 = .ok (.aload_n 0, 1) := by decide +kernel
theorem dX7_init_29 : decode cX7_init 29 = .ok (.bipush 20, 2) := by decide +kernel
theorem dX7_init_31 : decode cX7_init 31 = .ok (.newarray .int, 2) := by decide +kernel
theorem dX7_init_33 : decode cX7_init 33 = .ok (.putfield 19, 3) := by decide +kernel
theorem dX7_init_36 : decode cX7_init 36 = .ok (.aload_n 0, 1) := by decide +kernel
theorem dX7_init_37 : decode cX7_init 37 = .ok (.bipush 32, 2) := by decide +kernel
theorem dX7_init_39 : decode cX7_init 39 = .ok (.newarray .int, 2) := by decide +kernel
theorem dX7_init_41 : decode cX7_init 41 = .ok (.putfield 22, 3) := by decide +kernel
theorem dX7_init_44 : decode cX7_init 44 = .ok (.aload_n 0, 1) := by decide +kernel
theorem dX7_init_45 : decode cX7_init 45 = .ok (.sipush 3072, 3) := by decide +kernel
theorem dX7_init_48 : decode cX7_init 48 = .ok (.newarray .int, 2) := by decide +kernel
theorem dX7_init_50 : decode cX7_init 50 = .ok (.putfield 25, 3) := by decide +kernel
theorem dX7_init_53 : decode cX7_init 53 = .ok (.aload_n 0, 1) := by decide +kernel
theorem dX7_init_54 : decode cX7_init 54 = .ok (.sipush 3072, 3) := by decide +kernel
theorem dX7_init_57 : decode cX7_init 57 = .ok (.newarray .int, 2) := by decide +kernel
theorem dX7_init_59 : decode cX7_init 59 = .ok (.putfield 28, 3) := by decide +kernel
theorem dX7_init_62 : decode cX7_init 62 = .ok (.aload_n 0, 1) := by decide +kernel
theorem dX7_init_63 : decode cX7_init 63 = .ok (.sipush 3072, 3) := by decide +kernel
theorem dX7_init_66 : decode cX7_init 66 = .ok (.newarray .int, 2) := by decide +kernel
theorem dX7_init_68 : decode cX7_init 68 = .ok (.putfield 31, 3) := by decide +kernel
theorem dX7_init_71 : decode cX7_init 71 = .ok (.aload_n 0, 1) := by decide +kernel
theorem dX7_init_72 : decode cX7_init 72 = .ok (.bipush 7, 2) := by decide +kernel
theorem dX7_init_74 : decode cX7_init 74 = .ok (.newarray .int, 2) := by decide +kernel
theorem dX7_init_76 : decode cX7_init 76 = .ok (.putfield 34, 3) := by decide +kernel
theorem dX7_init_79 : decode cX7_init 79 = .ok (.aload_n 0, 1) := by decide +kernel
theorem dX7_init_80 : decode cX7_init 80 = .ok (.sipush 13824, 3) := by decide +kernel
theorem dX7_init_83 : decode cX7_init 83 = .ok (.newarray .int, 2) := by decide +kernel
theorem dX7_init_85 : decode cX7_init 85 = .ok (.putfield 37, 3) := by decide +kernel
theorem dX7_init_88 : decode cX7_init 88 = .ok (.aload_n 0, 1) := by decide +kernel
theorem dX7_init_89 : decode cX7_init 89 = .ok (.sipush 13824, 3) := by decide +kernel
theorem dX7_init_92 : decode cX7_init 92 = .ok (.newarray .int, 2) := by decide +kernel
theorem dX7_init_94 : decode cX7_init 94 = .ok (.putfield 40, 3) := by decide +kernel
theorem dX7_init_97 : decode cX7_init 97 = .ok (.aload_n 0, 1) := by decide +kernel
theorem dX7_init_98 : decode cX7_init 98 = .ok (.bipush 20, 2) := by decide +kernel
theorem dX7_init_100 : decode cX7_init 100 = .ok (.newarray .int, 2) := by decide +kernel
theorem dX7_init_102 : decode cX7_init 102 = .ok (.putfield 43, 3) := by decide +kernel
theorem dX7_init_105 : decode cX7_init 105 = .ok (.aload_n 0, 1) := by decide +kernel
theorem dX7_init_106 : decode cX7_init 106 = .ok (.bipush 32, 2) := by decide +kernel
theorem dX7_init_108 : decode cX7_init 108 = .ok (.newarray .int, 2) := by decide +kernel
theorem dX7_init_110 : decode cX7_init 110 = .ok (.putfield 46, 3) := by decide +kernel
theorem dX7_init_113 : decode cX7_init 113 = .ok (.aload_n 0, 1) := by decide +kernel
theorem dX7_init_114 : decode cX7_init 114 = .ok (.bipush 45, 2) := by decide +kernel
theorem dX7_init_116 : decode cX7_init 116 = .ok (.newarray .int, 2) := by decide +kernel
theorem dX7_init_118 : decode cX7_init 118 = .ok (.putfield 49, 3) := by decide +kernel
theorem dX7_init_121 : decode cX7_init 121 = .ok (.aload_n 0, 1) := by decide +kernel
theorem dX7_init_122 : decode cX7_init 122 = .ok (.bipush 20, 2) := by decide +kernel
theorem dX7_init_124 : decode cX7_init 124 = .ok (.newarray .int, 2) := by decide +kernel
theorem dX7_init_126 : decode cX7_init 126 = .ok (.putfield 52, 3) := by decide +kernel
theorem dX7_init_129 : decode cX7_init 129 = .ok (.aload_n 0, 1) := by decide +kernel
theorem dX7_init_130 : decode cX7_init 130 = .ok (.bipush 32, 2) := by decide +kernel
theorem dX7_init_132 : decode cX7_init 132 = .ok (.newarray .int, 2) := by decide +kernel
theorem dX7_init_134 : decode cX7_init 134 = .ok (.putfield 55, 3) := by decide +kernel
theorem dX7_init_137 : decode cX7_init 137 = .ok (.aload_n 0, 1) := by decide +kernel
theorem dX7_init_138 : decode cX7_init 138 = .ok (.bipush 7, 2) := by decide +kernel
theorem dX7_init_140 : decode cX7_init 140 = .ok (.newarray .int, 2) := by decide +kernel
theorem dX7_init_142 : decode cX7_init 142 = .ok (.putfield 58, 3) := by decide +kernel
theorem dX7_init_145 : decode cX7_init 145 = .ok (.aload_n 0, 1) := by decide +kernel
theorem dX7_init_146 : decode cX7_init 146 = .ok (.iconst (-1), 1) := by decide +kernel
theorem dX7_init_147 : decode cX7_init 147 = .ok (.putfield 61, 3) := by decide +kernel
theorem dX7_init_150 : decode cX7_init 150 = .ok (.return_, 1) := by decide +kernel
theorem dX7_in_0 : decode cX7_in 0 = .ok (.lload_n 0, 1) := by decide +kernel
theorem dX7_in_1 : decode cX7_in 1 = .ok (.lload_n 2, 1) := by decide +kernel
theorem dX7_in_2 : decode cX7_in 2 = .ok (.lcmp, 1) := by decide +kernel
theorem dX7_in_3 : decode cX7_in 3 = .ok (.ifCond .lt 14, 3) := by decide +kernel
theorem dX7_in_6 : decode cX7_in 6 = .ok (.lload_n 0, 1) := by decide +kernel
theorem dX7_in_7 : decode cX7_in 7 = .ok (.lload 4, 2) := by decide +kernel
theorem dX7_in_9 : decode cX7_in 9 = .ok (.lcmp, 1) := by decide +kernel
theorem dX7_in_10 : decode cX7_in 10 = .ok (.ifCond .gt 7, 3) := by decide +kernel
theorem dX7_in_13 : decode cX7_in 13 = .ok (.iconst 1, 1) := by decide +kernel
theorem dX7_in_14 : decode cX7_in 14 = .ok (.goto 4, 3) := by decide +kernel
theorem dX7_in_17 : decode cX7_in 17 = .ok (.iconst 0, 1) := by decide +kernel
theorem dX7_in_18 : decode cX7_in 18 = .ok (.ireturn, 1) := by decide +kernel
theorem dX7_letter_0 : decode cX7_letter 0 = .ok (.iload_n 1, 1) := by decide +kernel
theorem dX7_letter_1 : decode cX7_letter 1 = .ok (.i2l, 1) := by decide +kernel
theorem dX7_letter_2 : decode cX7_letter 2 = .ok (.lconst 1, 1) := by decide +kernel
theorem dX7_letter_3 : decode cX7_letter 3 = .ok (.ldc2_w 65, 3) := by decide +kernel
theorem dX7_letter_6 : decode cX7_letter 6 = .ok (.invokestatic 67, 3) := by decide +kernel
theorem dX7_letter_9 : decode cX7_letter 9 = .ok (.ifCond .ne 6, 3) := by decide +kernel
theorem dX7_letter_12 : decode cX7_letter 12 = .ok (.bipush (-102), 2) := by decide +kernel
theorem dX7_letter_14 : decode cX7_letter 14 = .ok (.ireturn, 1) := by decide +kernel
theorem dX7_letter_15 : decode cX7_letter 15 = .ok (.aload_n 0, 1) := by decide +kernel
theorem dX7_letter_16 : decode cX7_letter 16 = .ok (.getfield 71, 3) := by decide +kernel
theorem dX7_letter_19 : decode cX7_letter 19 = .ok (.bipush 44, 2) := by decide +kernel
theorem dX7_letter_21 : decode cX7_letter 21 = .ok (.if_icmp .ne 6, 3) := by decide +kernel
theorem dX7_letter_24 : decode cX7_letter 24 = .ok (.bipush (-104), 2) := by decide +kernel
theorem dX7_letter_26 : decode cX7_letter 26 = .ok (.ireturn, 1) := by decide +kernel
theorem dX7_letter_27 : decode cX7_letter 27 = .ok (.aload_n 0, 1) := by decide +kernel
theorem dX7_letter_28 : decode cX7_letter 28 = .ok (.getfield 7, 3) := by decide +kernel
theorem dX7_letter_31 : decode cX7_letter 31 = .ok (.aload_n 0, 1) := by decide +kernel
theorem dX7_letter_32 : decode cX7_letter 32 = .ok (.getfield 71, 3) := by decide +kernel
theorem dX7_letter_35 : decode cX7_letter 35 = .ok (.iload_n 1, 1) := by decide +kernel
theorem dX7_letter_36 : decode cX7_letter 36 = .ok (.iastore, 1) := by decide +kernel
theorem dX7_letter_37 : decode cX7_letter 37 = .ok (.aload_n 0, 1) := by decide +kernel
theorem dX7_letter_38 : decode cX7_letter 38 = .ok (.dup, 1) := by decide +kernel
theorem dX7_letter_39 : decode cX7_letter 39 = .ok (.getfield 71, 3) := by decide +kernel
theorem dX7_letter_42 : decode cX7_letter 42 = .ok (.iconst 1, 1) := by decide +kernel
theorem dX7_letter_43 : decode cX7_letter 43 = .ok (.iadd, 1) := by decide +kernel
theorem dX7_letter_44 : decode cX7_letter 44 = .ok (.putfield 71, 3) := by decide +kernel
theorem dX7_letter_47 : decode cX7_letter 47 = .ok (.aload_n 0, 1) := by decide +kernel
theorem dX7_letter_48 : decode cX7_letter 48 = .ok (.getfield 71, 3) := by decide +kernel
theorem dX7_letter_51 : decode cX7_letter 51 = .ok (.ireturn, 1) := by decide +kernel
theorem dX7_blank_0 : decode cX7_blank 0 = .ok (.aload_n 0, 1) := by decide +kernel
theorem dX7_blank_1 : decode cX7_blank 1 = .ok (.getfield 71, 3) := by decide +kernel
theorem dX7_blank_4 : decode cX7_blank 4 = .ok (.istore_n 1, 1) := by decide +kernel
theorem dX7_blank_5 : decode cX7_blank 5 = .ok (.aload_n 0, 1) := by decide +kernel
theorem dX7_blank_6 : decode cX7_blank 6 = .ok (.iconst 0, 1) := by decide +kernel
theorem dX7_blank_7 : decode cX7_blank 7 = .ok (.putfield 71, 3) := by decide +kernel
theorem dX7_blank_10 : decode cX7_blank 10 = .ok (.iload_n 1, 1) := by decide +kernel
theorem dX7_blank_11 : decode cX7_blank 11 = .ok (.ireturn, 1) := by decide +kernel
theorem dX7_kindBy_0 : decode cX7_kindBy 0 = .ok (.iload_n 0, 1) := by decide +kernel
theorem dX7_kindBy_1 : decode cX7_kindBy 1 = .ok (.bipush 102, 2) := by decide +kernel
theorem dX7_kindBy_3 : decode cX7_kindBy 3 = .ok (.if_icmp .ne 7, 3) := by decide +kernel
theorem dX7_kindBy_6 : decode cX7_kindBy 6 = .ok (.iconst 1, 1) := by decide +kernel
theorem dX7_kindBy_7 : decode cX7_kindBy 7 = .ok (.goto 34, 3) := by decide +kernel
theorem dX7_kindBy_10 : decode cX7_kindBy 10 = .ok (.iload_n 0, 1) := by decide +kernel
theorem dX7_kindBy_11 : decode cX7_kindBy 11 = .ok (.bipush 98, 2) := by decide +kernel
theorem dX7_kindBy_13 : decode cX7_kindBy 13 = .ok (.if_icmp .ne 7, 3) := by decide +kernel
theorem dX7_kindBy_16 : decode cX7_kindBy 16 = .ok (.iconst 2, 1) := by decide +kernel
theorem dX7_kindBy_17 : decode cX7_kindBy 17 = .ok (.goto 24, 3) := by decide +kernel
theorem dX7_kindBy_20 : decode cX7_kindBy 20 = .ok (.iload_n 0, 1) := by decide +kernel
theorem dX7_kindBy_21 : decode cX7_kindBy 21 = .ok (.bipush 100, 2) := by decide +kernel
theorem dX7_kindBy_23 : decode cX7_kindBy 23 = .ok (.if_icmp .ne 7, 3) := by decide +kernel
theorem dX7_kindBy_26 : decode cX7_kindBy 26 = .ok (.iconst 3, 1) := by decide +kernel
theorem dX7_kindBy_27 : decode cX7_kindBy 27 = .ok (.goto 14, 3) := by decide +kernel
theorem dX7_kindBy_30 : decode cX7_kindBy 30 = .ok (.iload_n 0, 1) := by decide +kernel
theorem dX7_kindBy_31 : decode cX7_kindBy 31 = .ok (.bipush 103, 2) := by decide +kernel
theorem dX7_kindBy_33 : decode cX7_kindBy 33 = .ok (.if_icmp .ne 7, 3) := by decide +kernel
theorem dX7_kindBy_36 : decode cX7_kindBy 36 = .ok (.iconst 4, 1) := by decide +kernel
theorem dX7_kindBy_37 : decode cX7_kindBy 37 = .ok (.goto 4, 3) := by decide +kernel
theorem dX7_kindBy_40 : decode cX7_kindBy 40 = .ok (.iconst 0, 1) := by decide +kernel
theorem dX7_kindBy_41 : decode cX7_kindBy 41 = .ok (.ireturn, 1) := by decide +kernel
theorem dX7_goRoad_0 : decode cX7_goRoad 0 = .ok (.iload_n 1, 1) := by decide +kernel
theorem dX7_goRoad_1 : decode cX7_goRoad 1 = .ok (.bipush 48, 2) := by decide +kernel
theorem dX7_goRoad_3 : decode cX7_goRoad 3 = .ok (.isub, 1) := by decide +kernel
theorem dX7_goRoad_4 : decode cX7_goRoad 4 = .ok (.istore_n 2, 1) := by decide +kernel
theorem dX7_goRoad_5 : decode cX7_goRoad 5 = .ok (.iconst 4, 1) := by decide +kernel
theorem dX7_goRoad_6 : decode cX7_goRoad 6 = .ok (.aload_n 0, 1) := by decide +kernel
theorem dX7_goRoad_7 : decode cX7_goRoad 7 = .ok (.getfield 74, 3) := by decide +kernel
theorem dX7_goRoad_10 : decode cX7_goRoad 10 = .ok (.imul, 1) := by decide +kernel
theorem dX7_goRoad_11 : decode cX7_goRoad 11 = .ok (.istore_n 3, 1) := by decide +kernel
theorem dX7_goRoad_12 : decode cX7_goRoad 12 = .ok (.aload_n 0, 1) := by decide +kernel
theorem dX7_goRoad_13 : decode cX7_goRoad 13 = .ok (.getfield 77, 3) := by decide +kernel
theorem dX7_goRoad_16 : decode cX7_goRoad 16 = .ok (.bipush 7, 2) := by decide +kernel
theorem dX7_goRoad_18 : decode cX7_goRoad 18 = .ok (.if_icmp .ne 29, 3) := by decide +kernel
theorem dX7_goRoad_21 : decode cX7_goRoad 21 = .ok (.aload_n 0, 1) := by decide +kernel
theorem dX7_goRoad_22 : decode cX7_goRoad 22 = .ok (.iconst 3, 1) := by decide +kernel
theorem dX7_goRoad_23 : decode cX7_goRoad 23 = .ok (.putfield 77, 3) := by decide +kernel
theorem dX7_goRoad_26 : decode cX7_goRoad 26 = .ok (.iload_n 1, 1) := by decide +kernel
theorem dX7_goRoad_27 : decode cX7_goRoad 27 = .ok (.bipush 44, 2) := by decide +kernel
theorem dX7_goRoad_29 : decode cX7_goRoad 29 = .ok (.if_icmp .ne 16, 3) := by decide +kernel
theorem dX7_goRoad_32 : decode cX7_goRoad 32 = .ok (.aload_n 0, 1) := by decide +kernel
theorem dX7_goRoad_33 : decode cX7_goRoad 33 = .ok (.getfield 74, 3) := by decide +kernel
theorem dX7_goRoad_36 : decode cX7_goRoad 36 = .ok (.bipush 8, 2) := by decide +kernel
theorem dX7_goRoad_38 : decode cX7_goRoad 38 = .ok (.if_icmp .ge 7, 3) := by decide +kernel
theorem dX7_goRoad_41 : decode cX7_goRoad 41 = .ok (.iconst 1, 1) := by decide +kernel
theorem dX7_goRoad_42 : decode cX7_goRoad 42 = .ok (.goto 4, 3) := by decide +kernel
theorem dX7_goRoad_45 : decode cX7_goRoad 45 = .ok (.iconst 0, 1) := by decide +kernel
theorem dX7_goRoad_46 : decode cX7_goRoad 46 = .ok (.ireturn, 1) := by decide +kernel
theorem dX7_goRoad_47 : decode cX7_goRoad 47 = .ok (.aload_n 0, 1) := by decide +kernel
theorem dX7_goRoad_48 : decode cX7_goRoad 48 = .ok (.getfield 77, 3) := by decide +kernel
theorem dX7_goRoad_51 : decode cX7_goRoad 51 = .ok (.bipush 6, 2) := by decide +kernel
theorem dX7_goRoad_53 : decode cX7_goRoad 53 = .ok (.if_icmp .ne 38, 3) := by decide +kernel
theorem dX7_goRoad_56 : decode cX7_goRoad 56 = .ok (.aload_n 0, 1) := by decide +kernel
theorem dX7_goRoad_57 : decode cX7_goRoad 57 = .ok (.getfield 13, 3) := by decide +kernel
theorem dX7_goRoad_60 : decode cX7_goRoad 60 = .ok (.iload_n 3, 1) := by decide +kernel
theorem dX7_goRoad_61 : decode cX7_goRoad 61 = .ok (.iconst 3, 1) := by decide +kernel
theorem dX7_goRoad_62 : decode cX7_goRoad 62 = .ok (.iadd, 1) := by decide +kernel
theorem dX7_goRoad_63 : decode cX7_goRoad 63 = .ok (.iload_n 2, 1) := by decide +kernel
theorem dX7_goRoad_64 : decode cX7_goRoad 64 = .ok (.iastore, 1) := by decide +kernel
theorem dX7_goRoad_65 : decode cX7_goRoad 65 = .ok (.aload_n 0, 1) := by decide +kernel
theorem dX7_goRoad_66 : decode cX7_goRoad 66 = .ok (.dup, 1) := by decide +kernel
theorem dX7_goRoad_67 : decode cX7_goRoad 67 = .ok (.getfield 74, 3) := by decide +kernel
theorem dX7_goRoad_70 : decode cX7_goRoad 70 = .ok (.iconst 1, 1) := by decide +kernel
theorem dX7_goRoad_71 : decode cX7_goRoad 71 = .ok (.iadd, 1) := by decide +kernel
theorem dX7_goRoad_72 : decode cX7_goRoad 72 = .ok (.putfield 74, 3) := by decide +kernel
theorem dX7_goRoad_75 : decode cX7_goRoad 75 = .ok (.aload_n 0, 1) := by decide +kernel
theorem dX7_goRoad_76 : decode cX7_goRoad 76 = .ok (.bipush 7, 2) := by decide +kernel
theorem dX7_goRoad_78 : decode cX7_goRoad 78 = .ok (.putfield 77, 3) := by decide +kernel
theorem dX7_goRoad_81 : decode cX7_goRoad 81 = .ok (.iload_n 2, 1) := by decide +kernel
theorem dX7_goRoad_82 : decode cX7_goRoad 82 = .ok (.i2l, 1) := by decide +kernel
theorem dX7_goRoad_83 : decode cX7_goRoad 83 = .ok (.lconst 1, 1) := by decide +kernel
theorem dX7_goRoad_84 : decode cX7_goRoad 84 = .ok (.ldc2_w 80, 3) := by decide +kernel
theorem dX7_goRoad_87 : decode cX7_goRoad 87 = .ok (.invokestatic 67, 3) := by decide +kernel
theorem dX7_goRoad_90 : decode cX7_goRoad 90 = .ok (.ireturn, 1) := by decide +kernel
theorem dX7_goRoad_91 : decode cX7_goRoad 91 = .ok (.aload_n 0, 1) := by decide +kernel
theorem dX7_goRoad_92 : decode cX7_goRoad 92 = .ok (.getfield 77, 3) := by decide +kernel
theorem dX7_goRoad_95 : decode cX7_goRoad 95 = .ok (.iconst 5, 1) := by decide +kernel
theorem dX7_goRoad_96 : decode cX7_goRoad 96 = .ok (.if_icmp .ne 48, 3) := by decide +kernel
theorem dX7_goRoad_99 : decode cX7_goRoad 99 = .ok (.aload_n 0, 1) := by decide +kernel
theorem dX7_goRoad_100 : decode cX7_goRoad 100 = .ok (.getfield 13, 3) := by decide +kernel
theorem dX7_goRoad_103 : decode cX7_goRoad 103 = .ok (.iload_n 3, 1) := by decide +kernel
theorem dX7_goRoad_104 : decode cX7_goRoad 104 = .ok (.iconst 2, 1) := by decide +kernel
theorem dX7_goRoad_105 : decode cX7_goRoad 105 = .ok (.iadd, 1) := by decide +kernel
theorem dX7_goRoad_106 : decode cX7_goRoad 106 = .ok (.iload_n 2, 1) := by decide +kernel
theorem dX7_goRoad_107 : decode cX7_goRoad 107 = .ok (.iastore, 1) := by decide +kernel
theorem dX7_goRoad_108 : decode cX7_goRoad 108 = .ok (.aload_n 0, 1) := by decide +kernel
theorem dX7_goRoad_109 : decode cX7_goRoad 109 = .ok (.bipush 6, 2) := by decide +kernel
theorem dX7_goRoad_111 : decode cX7_goRoad 111 = .ok (.putfield 77, 3) := by decide +kernel
theorem dX7_goRoad_114 : decode cX7_goRoad 114 = .ok (.iload_n 2, 1) := by decide +kernel
theorem dX7_goRoad_115 : decode cX7_goRoad 115 = .ok (.i2l, 1) := by decide +kernel
theorem dX7_goRoad_116 : decode cX7_goRoad 116 = .ok (.lconst 0, 1) := by decide +kernel
theorem dX7_goRoad_117 : decode cX7_goRoad 117 = .ok (.ldc2_w 82, 3) := by decide +kernel
theorem dX7_goRoad_120 : decode cX7_goRoad 120 = .ok (.invokestatic 67, 3) := by decide +kernel
theorem dX7_goRoad_123 : decode cX7_goRoad 123 = .ok (.ifCond .eq 19, 3) := by decide +kernel
theorem dX7_goRoad_126 : decode cX7_goRoad 126 = .ok (.iload_n 2, 1) := by decide +kernel
theorem dX7_goRoad_127 : decode cX7_goRoad 127 = .ok (.aload_n 0, 1) := by decide +kernel
theorem dX7_goRoad_128 : decode cX7_goRoad 128 = .ok (.getfield 13, 3) := by decide +kernel
theorem dX7_goRoad_131 : decode cX7_goRoad 131 = .ok (.iload_n 3, 1) := by decide +kernel
theorem dX7_goRoad_132 : decode cX7_goRoad 132 = .ok (.iconst 1, 1) := by decide +kernel
theorem dX7_goRoad_133 : decode cX7_goRoad 133 = .ok (.iadd, 1) := by decide +kernel
theorem dX7_goRoad_134 : decode cX7_goRoad 134 = .ok (.iaload, 1) := by decide +kernel
theorem dX7_goRoad_135 : decode cX7_goRoad 135 = .ok (.if_icmp .eq 7, 3) := by decide +kernel
theorem dX7_goRoad_138 : decode cX7_goRoad 138 = .ok (.iconst 1, 1) := by decide +kernel
theorem dX7_goRoad_139 : decode cX7_goRoad 139 = .ok (.goto 4, 3) := by decide +kernel
theorem dX7_goRoad_142 : decode cX7_goRoad 142 = .ok (.iconst 0, 1) := by decide +kernel
theorem dX7_goRoad_143 : decode cX7_goRoad 143 = .ok (.ireturn, 1) := by decide +kernel
theorem dX7_goRoad_144 : decode cX7_goRoad 144 = .ok (.aload_n 0, 1) := by decide +kernel
theorem dX7_goRoad_145 : decode cX7_goRoad 145 = .ok (.getfield 77, 3) := by decide +kernel
theorem dX7_goRoad_148 : decode cX7_goRoad 148 = .ok (.iconst 3, 1) := by decide +kernel
theorem dX7_goRoad_149 : decode cX7_goRoad 149 = .ok (.if_icmp .ne 29, 3) := by decide +kernel
theorem dX7_goRoad_152 : decode cX7_goRoad 152 = .ok (.aload_n 0, 1) := by decide +kernel
theorem dX7_goRoad_153 : decode cX7_goRoad 153 = .ok (.getfield 13, 3) := by decide +kernel
theorem dX7_goRoad_156 : decode cX7_goRoad 156 = .ok (.iload_n 3, 1) := by decide +kernel
theorem dX7_goRoad_157 : decode cX7_goRoad 157 = .ok (.iload_n 1, 1) := by decide +kernel
theorem dX7_goRoad_158 : decode cX7_goRoad 158 = .ok (.invokestatic 84, 3) := by decide +kernel
theorem dX7_goRoad_161 : decode cX7_goRoad 161 = .ok (.iastore, 1) := by decide +kernel
theorem dX7_goRoad_162 : decode cX7_goRoad 162 = .ok (.aload_n 0, 1) := by decide +kernel
theorem dX7_goRoad_163 : decode cX7_goRoad 163 = .ok (.getfield 13, 3) := by decide +kernel
theorem dX7_goRoad_166 : decode cX7_goRoad 166 = .ok (.iload_n 3, 1) := by decide +kernel
theorem dX7_goRoad_167 : decode cX7_goRoad 167 = .ok (.iaload, 1) := by decide +kernel
theorem dX7_goRoad_168 : decode cX7_goRoad 168 = .ok (.ifCond .le 10, 3) := by decide +kernel
theorem dX7_goRoad_171 : decode cX7_goRoad 171 = .ok (.aload_n 0, 1) := by decide +kernel
theorem dX7_goRoad_172 : decode cX7_goRoad 172 = .ok (.iconst 4, 1) := by decide +kernel
theorem dX7_goRoad_173 : decode cX7_goRoad 173 = .ok (.putfield 77, 3) := by decide +kernel
theorem dX7_goRoad_176 : decode cX7_goRoad 176 = .ok (.iconst 1, 1) := by decide +kernel
theorem dX7_goRoad_177 : decode cX7_goRoad 177 = .ok (.ireturn, 1) := by decide +kernel
theorem dX7_goRoad_178 : decode cX7_goRoad 178 = .ok (.aload_n 0, 1) := by decide +kernel
theorem dX7_goRoad_179 : decode cX7_goRoad 179 = .ok (.getfield 13, 3) := by decide +kernel
theorem dX7_goRoad_182 : decode cX7_goRoad 182 = .ok (.iload_n 3, 1) := by decide +kernel
theorem dX7_goRoad_183 : decode cX7_goRoad 183 = .ok (.iconst 1, 1) := by decide +kernel
theorem dX7_goRoad_184 : decode cX7_goRoad 184 = .ok (.iadd, 1) := by decide +kernel
theorem dX7_goRoad_185 : decode cX7_goRoad 185 = .ok (.iload_n 2, 1) := by decide +kernel
theorem dX7_goRoad_186 : decode cX7_goRoad 186 = .ok (.iastore, 1) := by decide +kernel
theorem dX7_goRoad_187 : decode cX7_goRoad 187 = .ok (.aload_n 0, 1) := by decide +kernel
theorem dX7_goRoad_188 : decode cX7_goRoad 188 = .ok (.iconst 5, 1) := by decide +kernel
theorem dX7_goRoad_189 : decode cX7_goRoad 189 = .ok (.putfield 77, 3) := by decide +kernel
theorem dX7_goRoad_192 : decode cX7_goRoad 192 = .ok (.iload_n 2, 1) := by decide +kernel
theorem dX7_goRoad_193 : decode cX7_goRoad 193 = .ok (.i2l, 1) := by decide +kernel
theorem dX7_goRoad_194 : decode cX7_goRoad 194 = .ok (.lconst 0, 1) := by decide +kernel
theorem dX7_goRoad_195 : decode cX7_goRoad 195 = .ok (.ldc2_w 82, 3) := by decide +kernel
theorem dX7_goRoad_198 : decode cX7_goRoad 198 = .ok (.invokestatic 67, 3) := by decide +kernel
theorem dX7_goRoad_201 : decode cX7_goRoad 201 = .ok (.ireturn, 1) := by decide +kernel
theorem dX7_go_0 : decode cX7_go 0 = .ok (.iload_n 1, 1) := by decide +kernel
theorem dX7_go_1 : decode cX7_go 1 = .ok (.bipush 48, 2) := by decide +kernel
theorem dX7_go_3 : decode cX7_go 3 = .ok (.isub, 1) := by decide +kernel
theorem dX7_go_4 : decode cX7_go 4 = .ok (.istore_n 2, 1) := by decide +kernel
theorem dX7_go_5 : decode cX7_go 5 = .ok (.aload_n 0, 1) := by decide +kernel
theorem dX7_go_6 : decode cX7_go 6 = .ok (.getfield 77, 3) := by decide +kernel
theorem dX7_go_9 : decode cX7_go 9 = .ok (.iconst 2, 1) := by decide +kernel
theorem dX7_go_10 : decode cX7_go 10 = .ok (.if_icmp .le 9, 3) := by decide +kernel
theorem dX7_go_13 : decode cX7_go 13 = .ok (.aload_n 0, 1) := by decide +kernel
theorem dX7_go_14 : decode cX7_go 14 = .ok (.iload_n 1, 1) := by decide +kernel
theorem dX7_go_15 : decode cX7_go 15 = .ok (.invokevirtual 88, 3) := by decide +kernel
theorem dX7_go_18 : decode cX7_go 18 = .ok (.ireturn, 1) := by decide +kernel
theorem dX7_go_19 : decode cX7_go 19 = .ok (.aload_n 0, 1) := by decide +kernel
theorem dX7_go_20 : decode cX7_go 20 = .ok (.dup, 1) := by decide +kernel
theorem dX7_go_21 : decode cX7_go 21 = .ok (.getfield 77, 3) := by decide +kernel
theorem dX7_go_24 : decode cX7_go 24 = .ok (.iconst 1, 1) := by decide +kernel
theorem dX7_go_25 : decode cX7_go 25 = .ok (.iadd, 1) := by decide +kernel
theorem dX7_go_26 : decode cX7_go 26 = .ok (.putfield 77, 3) := by decide +kernel
theorem dX7_go_29 : decode cX7_go 29 = .ok (.aload_n 0, 1) := by decide +kernel
theorem dX7_go_30 : decode cX7_go 30 = .ok (.getfield 77, 3) := by decide +kernel
theorem dX7_go_33 : decode cX7_go 33 = .ok (.iconst 3, 1) := by decide +kernel
theorem dX7_go_34 : decode cX7_go 34 = .ok (.if_icmp .ne 15, 3) := by decide +kernel
theorem dX7_go_37 : decode cX7_go 37 = .ok (.iload_n 1, 1) := by decide +kernel
theorem dX7_go_38 : decode cX7_go 38 = .ok (.bipush 58, 2) := by decide +kernel
theorem dX7_go_40 : decode cX7_go 40 = .ok (.if_icmp .ne 7, 3) := by decide +kernel
theorem dX7_go_43 : decode cX7_go 43 = .ok (.iconst 1, 1) := by decide +kernel
theorem dX7_go_44 : decode cX7_go 44 = .ok (.goto 4, 3) := by decide +kernel
theorem dX7_go_47 : decode cX7_go 47 = .ok (.iconst 0, 1) := by decide +kernel
theorem dX7_go_48 : decode cX7_go 48 = .ok (.ireturn, 1) := by decide +kernel
theorem dX7_go_49 : decode cX7_go 49 = .ok (.aload_n 0, 1) := by decide +kernel
theorem dX7_go_50 : decode cX7_go 50 = .ok (.bipush 10, 2) := by decide +kernel
theorem dX7_go_52 : decode cX7_go 52 = .ok (.aload_n 0, 1) := by decide +kernel
theorem dX7_go_53 : decode cX7_go 53 = .ok (.getfield 92, 3) := by decide +kernel
theorem dX7_go_56 : decode cX7_go 56 = .ok (.imul, 1) := by decide +kernel
theorem dX7_go_57 : decode cX7_go 57 = .ok (.iload_n 2, 1) := by decide +kernel
theorem dX7_go_58 : decode cX7_go 58 = .ok (.iadd, 1) := by decide +kernel
theorem dX7_go_59 : decode cX7_go 59 = .ok (.putfield 92, 3) := by decide +kernel
theorem dX7_go_62 : decode cX7_go 62 = .ok (.iload_n 2, 1) := by decide +kernel
theorem dX7_go_63 : decode cX7_go 63 = .ok (.i2l, 1) := by decide +kernel
theorem dX7_go_64 : decode cX7_go 64 = .ok (.lconst 0, 1) := by decide +kernel
theorem dX7_go_65 : decode cX7_go 65 = .ok (.ldc2_w 80, 3) := by decide +kernel
theorem dX7_go_68 : decode cX7_go 68 = .ok (.invokestatic 67, 3) := by decide +kernel
theorem dX7_go_71 : decode cX7_go 71 = .ok (.ifCond .eq 39, 3) := by decide +kernel
theorem dX7_go_74 : decode cX7_go 74 = .ok (.aload_n 0, 1) := by decide +kernel
theorem dX7_go_75 : decode cX7_go 75 = .ok (.getfield 77, 3) := by decide +kernel
theorem dX7_go_78 : decode cX7_go 78 = .ok (.iconst 1, 1) := by decide +kernel
theorem dX7_go_79 : decode cX7_go 79 = .ok (.if_icmp .ne 12, 3) := by decide +kernel
theorem dX7_go_82 : decode cX7_go 82 = .ok (.iload_n 2, 1) := by decide +kernel
theorem dX7_go_83 : decode cX7_go 83 = .ok (.bipush 7, 2) := by decide +kernel
theorem dX7_go_85 : decode cX7_go 85 = .ok (.if_icmp .ge 25, 3) := by decide +kernel
theorem dX7_go_88 : decode cX7_go 88 = .ok (.goto 18, 3) := by decide +kernel
theorem dX7_go_91 : decode cX7_go 91 = .ok (.aload_n 0, 1) := by decide +kernel
theorem dX7_go_92 : decode cX7_go 92 = .ok (.getfield 92, 3) := by decide +kernel
theorem dX7_go_95 : decode cX7_go 95 = .ok (.i2l, 1) := by decide +kernel
theorem dX7_go_96 : decode cX7_go 96 = .ok (.lconst 1, 1) := by decide +kernel
theorem dX7_go_97 : decode cX7_go 97 = .ok (.ldc2_w 95, 3) := by decide +kernel
theorem dX7_go_100 : decode cX7_go 100 = .ok (.invokestatic 67, 3) := by decide +kernel
theorem dX7_go_103 : decode cX7_go 103 = .ok (.ifCond .eq 7, 3) := by decide +kernel
theorem dX7_go_106 : decode cX7_go 106 = .ok (.iconst 1, 1) := by decide +kernel
theorem dX7_go_107 : decode cX7_go 107 = .ok (.goto 4, 3) := by decide +kernel
theorem dX7_go_110 : decode cX7_go 110 = .ok (.iconst 0, 1) := by decide +kernel
theorem dX7_go_111 : decode cX7_go 111 = .ok (.ireturn, 1) := by decide +kernel
theorem dX7_faultOf_0 : decode cX7_faultOf 0 = .ok (.aload_n 0, 1) := by decide +kernel
theorem dX7_faultOf_1 : decode cX7_faultOf 1 = .ok (.iconst 0, 1) := by decide +kernel
theorem dX7_faultOf_2 : decode cX7_faultOf 2 = .ok (.putfield 74, 3) := by decide +kernel
theorem dX7_faultOf_5 : decode cX7_faultOf 5 = .ok (.aload_n 0, 1) := by decide +kernel
theorem dX7_faultOf_6 : decode cX7_faultOf 6 = .ok (.iconst 0, 1) := by decide +kernel
theorem dX7_faultOf_7 : decode cX7_faultOf 7 = .ok (.putfield 92, 3) := by decide +kernel
theorem dX7_faultOf_10 : decode cX7_faultOf 10 = .ok (.aload_n 0, 1) := by decide +kernel
theorem dX7_faultOf_11 : decode cX7_faultOf 11 = .ok (.iconst 0, 1) := by decide +kernel
theorem dX7_faultOf_12 : decode cX7_faultOf 12 = .ok (.putfield 77, 3) := by decide +kernel
theorem dX7_faultOf_15 : decode cX7_faultOf 15 = .ok (.iconst 0, 1) := by decide +kernel
theorem dX7_faultOf_16 : decode cX7_faultOf 16 = .ok (.istore_n 1, 1) := by decide +kernel
theorem dX7_faultOf_17 : decode cX7_faultOf 17 = .ok (.iload_n 1, 1) := by decide +kernel
theorem dX7_faultOf_18 : decode cX7_faultOf 18 = .ok (.aload_n 0, 1) := by decide +kernel
theorem dX7_faultOf_19 : decode cX7_faultOf 19 = .ok (.getfield 71, 3) := by decide +kernel
theorem dX7_faultOf_22 : decode cX7_faultOf 22 = .ok (.if_icmp .ge 22, 3) := by decide +kernel
theorem dX7_faultOf_25 : decode cX7_faultOf 25 = .ok (.aload_n 0, 1) := by decide +kernel
theorem dX7_faultOf_26 : decode cX7_faultOf 26 = .ok (.aload_n 0, 1) := by decide +kernel
theorem dX7_faultOf_27 : decode cX7_faultOf 27 = .ok (.getfield 7, 3) := by decide +kernel
theorem dX7_faultOf_30 : decode cX7_faultOf 30 = .ok (.iload_n 1, 1) := by decide +kernel
theorem dX7_faultOf_31 : decode cX7_faultOf 31 = .ok (.iaload, 1) := by decide +kernel
theorem dX7_faultOf_32 : decode cX7_faultOf 32 = .ok (.invokevirtual 97, 3) := by decide +kernel
theorem dX7_faultOf_35 : decode cX7_faultOf 35 = .ok (.ifCond .eq 9, 3) := by decide +kernel
theorem dX7_faultOf_38 : decode cX7_faultOf 38 = .ok (.iinc 1 1, 3) := by decide +kernel
theorem dX7_faultOf_41 : decode cX7_faultOf 41 = .ok (.goto (-24), 3) := by decide +kernel
theorem dX7_faultOf_44 : decode cX7_faultOf 44 = .ok (.iload_n 1, 1) := by decide +kernel
theorem dX7_faultOf_45 : decode cX7_faultOf 45 = .ok (.ireturn, 1) := by decide +kernel
theorem dX7_fault_0 : decode cX7_fault 0 = .ok (.aload_n 0, 1) := by decide +kernel
theorem dX7_fault_1 : decode cX7_fault 1 = .ok (.invokevirtual 100, 3) := by decide +kernel
theorem dX7_fault_4 : decode cX7_fault 4 = .ok (.ireturn, 1) := by decide +kernel
theorem dX7_roads_0 : decode cX7_roads 0 = .ok (.aload_n 0, 1) := by decide +kernel
theorem dX7_roads_1 : decode cX7_roads 1 = .ok (.invokevirtual 100, 3) := by decide +kernel
theorem dX7_roads_4 : decode cX7_roads 4 = .ok (.aload_n 0, 1) := by decide +kernel
theorem dX7_roads_5 : decode cX7_roads 5 = .ok (.getfield 71, 3) := by decide +kernel
theorem dX7_roads_8 : decode cX7_roads 8 = .ok (.if_icmp .lt 12, 3) := by decide +kernel
theorem dX7_roads_11 : decode cX7_roads 11 = .ok (.aload_n 0, 1) := by decide +kernel
theorem dX7_roads_12 : decode cX7_roads 12 = .ok (.getfield 77, 3) := by decide +kernel
theorem dX7_roads_15 : decode cX7_roads 15 = .ok (.bipush 7, 2) := by decide +kernel
theorem dX7_roads_17 : decode cX7_roads 17 = .ok (.if_icmp .eq 6, 3) := by decide +kernel
theorem dX7_roads_20 : decode cX7_roads 20 = .ok (.bipush (-103), 2) := by decide +kernel
theorem dX7_roads_22 : decode cX7_roads 22 = .ok (.ireturn, 1) := by decide +kernel
theorem dX7_roads_23 : decode cX7_roads 23 = .ok (.iconst 0, 1) := by decide +kernel
theorem dX7_roads_24 : decode cX7_roads 24 = .ok (.istore_n 1, 1) := by decide +kernel
theorem dX7_roads_25 : decode cX7_roads 25 = .ok (.iload_n 1, 1) := by decide +kernel
theorem dX7_roads_26 : decode cX7_roads 26 = .ok (.aload_n 0, 1) := by decide +kernel
theorem dX7_roads_27 : decode cX7_roads 27 = .ok (.getfield 74, 3) := by decide +kernel
theorem dX7_roads_30 : decode cX7_roads 30 = .ok (.if_icmp .ge 53, 3) := by decide +kernel
theorem dX7_roads_33 : decode cX7_roads 33 = .ok (.iconst 0, 1) := by decide +kernel
theorem dX7_roads_34 : decode cX7_roads 34 = .ok (.istore_n 2, 1) := by decide +kernel
theorem dX7_roads_35 : decode cX7_roads 35 = .ok (.iload_n 2, 1) := by decide +kernel
theorem dX7_roads_36 : decode cX7_roads 36 = .ok (.iconst 4, 1) := by decide +kernel
theorem dX7_roads_37 : decode cX7_roads 37 = .ok (.if_icmp .ge 29, 3) := by decide +kernel
theorem dX7_roads_40 : decode cX7_roads 40 = .ok (.aload_n 0, 1) := by decide +kernel
theorem dX7_roads_41 : decode cX7_roads 41 = .ok (.getfield 16, 3) := by decide +kernel
theorem dX7_roads_44 : decode cX7_roads 44 = .ok (.iconst 5, 1) := by decide +kernel
theorem dX7_roads_45 : decode cX7_roads 45 = .ok (.iload_n 1, 1) := by decide +kernel
theorem dX7_roads_46 : decode cX7_roads 46 = .ok (.imul, 1) := by decide +kernel
theorem dX7_roads_47 : decode cX7_roads 47 = .ok (.iload_n 2, 1) := by decide +kernel
theorem dX7_roads_48 : decode cX7_roads 48 = .ok (.iadd, 1) := by decide +kernel
theorem dX7_roads_49 : decode cX7_roads 49 = .ok (.aload_n 0, 1) := by decide +kernel
theorem dX7_roads_50 : decode cX7_roads 50 = .ok (.getfield 13, 3) := by decide +kernel
theorem dX7_roads_53 : decode cX7_roads 53 = .ok (.iconst 4, 1) := by decide +kernel
theorem dX7_roads_54 : decode cX7_roads 54 = .ok (.iload_n 1, 1) := by decide +kernel
theorem dX7_roads_55 : decode cX7_roads 55 = .ok (.imul, 1) := by decide +kernel
theorem dX7_roads_56 : decode cX7_roads 56 = .ok (.iload_n 2, 1) := by decide +kernel
theorem dX7_roads_57 : decode cX7_roads 57 = .ok (.iadd, 1) := by decide +kernel
theorem dX7_roads_58 : decode cX7_roads 58 = .ok (.iaload, 1) := by decide +kernel
theorem dX7_roads_59 : decode cX7_roads 59 = .ok (.iastore, 1) := by decide +kernel
theorem dX7_roads_60 : decode cX7_roads 60 = .ok (.iinc 2 1, 3) := by decide +kernel
theorem dX7_roads_63 : decode cX7_roads 63 = .ok (.goto (-28), 3) := by decide +kernel
theorem dX7_roads_66 : decode cX7_roads 66 = .ok (.aload_n 0, 1) := by decide +kernel
theorem dX7_roads_67 : decode cX7_roads 67 = .ok (.getfield 16, 3) := by decide +kernel
theorem dX7_roads_70 : decode cX7_roads 70 = .ok (.iconst 5, 1) := by decide +kernel
theorem dX7_roads_71 : decode cX7_roads 71 = .ok (.iload_n 1, 1) := by decide +kernel
theorem dX7_roads_72 : decode cX7_roads 72 = .ok (.imul, 1) := by decide +kernel
theorem dX7_roads_73 : decode cX7_roads 73 = .ok (.iconst 4, 1) := by decide +kernel
theorem dX7_roads_74 : decode cX7_roads 74 = .ok (.iadd, 1) := by decide +kernel
theorem dX7_roads_75 : decode cX7_roads 75 = .ok (.iconst 1, 1) := by decide +kernel
theorem dX7_roads_76 : decode cX7_roads 76 = .ok (.iastore, 1) := by decide +kernel
theorem dX7_roads_77 : decode cX7_roads 77 = .ok (.iinc 1 1, 3) := by decide +kernel
theorem dX7_roads_80 : decode cX7_roads 80 = .ok (.goto (-55), 3) := by decide +kernel
theorem dX7_roads_83 : decode cX7_roads 83 = .ok (.aload_n 0, 1) := by decide +kernel
theorem dX7_roads_84 : decode cX7_roads 84 = .ok (.aload_n 0, 1) := by decide +kernel
theorem dX7_roads_85 : decode cX7_roads 85 = .ok (.getfield 74, 3) := by decide +kernel
theorem dX7_roads_88 : decode cX7_roads 88 = .ok (.putfield 104, 3) := by decide +kernel
theorem dX7_roads_91 : decode cX7_roads 91 = .ok (.aload_n 0, 1) := by decide +kernel
theorem dX7_roads_92 : decode cX7_roads 92 = .ok (.aload_n 0, 1) := by decide +kernel
theorem dX7_roads_93 : decode cX7_roads 93 = .ok (.getfield 92, 3) := by decide +kernel
theorem dX7_roads_96 : decode cX7_roads 96 = .ok (.putfield 107, 3) := by decide +kernel
theorem dX7_roads_99 : decode cX7_roads 99 = .ok (.aload_n 0, 1) := by decide +kernel
theorem dX7_roads_100 : decode cX7_roads 100 = .ok (.iconst 0, 1) := by decide +kernel
theorem dX7_roads_101 : decode cX7_roads 101 = .ok (.putfield 110, 3) := by decide +kernel
theorem dX7_roads_104 : decode cX7_roads 104 = .ok (.aload_n 0, 1) := by decide +kernel
theorem dX7_roads_105 : decode cX7_roads 105 = .ok (.iconst 0, 1) := by decide +kernel
theorem dX7_roads_106 : decode cX7_roads 106 = .ok (.putfield 113, 3) := by decide +kernel
theorem dX7_roads_109 : decode cX7_roads 109 = .ok (.aload_n 0, 1) := by decide +kernel
theorem dX7_roads_110 : decode cX7_roads 110 = .ok (.iconst 0, 1) := by decide +kernel
theorem dX7_roads_111 : decode cX7_roads 111 = .ok (.putfield 116, 3) := by decide +kernel
theorem dX7_roads_114 : decode cX7_roads 114 = .ok (.aload_n 0, 1) := by decide +kernel
theorem dX7_roads_115 : decode cX7_roads 115 = .ok (.dup, 1) := by decide +kernel
theorem dX7_roads_116 : decode cX7_roads 116 = .ok (.getfield 119, 3) := by decide +kernel
theorem dX7_roads_119 : decode cX7_roads 119 = .ok (.iconst 1, 1) := by decide +kernel
theorem dX7_roads_120 : decode cX7_roads 120 = .ok (.iadd, 1) := by decide +kernel
theorem dX7_roads_121 : decode cX7_roads 121 = .ok (.putfield 119, 3) := by decide +kernel
theorem dX7_roads_124 : decode cX7_roads 124 = .ok (.aload_n 0, 1) := by decide +kernel
theorem dX7_roads_125 : decode cX7_roads 125 = .ok (.iconst 0, 1) := by decide +kernel
theorem dX7_roads_126 : decode cX7_roads 126 = .ok (.putfield 71, 3) := by decide +kernel
theorem dX7_roads_129 : decode cX7_roads 129 = .ok (.aload_n 0, 1) := by decide +kernel
theorem dX7_roads_130 : decode cX7_roads 130 = .ok (.getfield 104, 3) := by decide +kernel
theorem dX7_roads_133 : decode cX7_roads 133 = .ok (.ireturn, 1) := by decide +kernel
theorem dX7_lacks_0 : decode cX7_lacks 0 = .ok (.aload_n 0, 1) := by decide +kernel
theorem dX7_lacks_1 : decode cX7_lacks 1 = .ok (.getfield 104, 3) := by decide +kernel
theorem dX7_lacks_4 : decode cX7_lacks 4 = .ok (.ifCond .ne 7, 3) := by decide +kernel
theorem dX7_lacks_7 : decode cX7_lacks 7 = .ok (.iconst 1, 1) := by decide +kernel
theorem dX7_lacks_8 : decode cX7_lacks 8 = .ok (.goto 4, 3) := by decide +kernel
theorem dX7_lacks_11 : decode cX7_lacks 11 = .ok (.iconst 0, 1) := by decide +kernel
theorem dX7_lacks_12 : decode cX7_lacks 12 = .ok (.ireturn, 1) := by decide +kernel
theorem dX7_isRoad_0 : decode cX7_isRoad 0 = .ok (.iload_n 1, 1) := by decide +kernel
theorem dX7_isRoad_1 : decode cX7_isRoad 1 = .ok (.i2l, 1) := by decide +kernel
theorem dX7_isRoad_2 : decode cX7_isRoad 2 = .ok (.lconst 0, 1) := by decide +kernel
theorem dX7_isRoad_3 : decode cX7_isRoad 3 = .ok (.aload_n 0, 1) := by decide +kernel
theorem dX7_isRoad_4 : decode cX7_isRoad 4 = .ok (.getfield 104, 3) := by decide +kernel
theorem dX7_isRoad_7 : decode cX7_isRoad 7 = .ok (.iconst 1, 1) := by decide +kernel
theorem dX7_isRoad_8 : decode cX7_isRoad 8 = .ok (.isub, 1) := by decide +kernel
theorem dX7_isRoad_9 : decode cX7_isRoad 9 = .ok (.i2l, 1) := by decide +kernel
theorem dX7_isRoad_10 : decode cX7_isRoad 10 = .ok (.invokestatic 67, 3) := by decide +kernel
theorem dX7_isRoad_13 : decode cX7_isRoad 13 = .ok (.ireturn, 1) := by decide +kernel
theorem dX7_worthOf_0 : decode cX7_worthOf 0 = .ok (.aload_n 0, 1) := by decide +kernel
theorem dX7_worthOf_1 : decode cX7_worthOf 1 = .ok (.getfield 16, 3) := by decide +kernel
theorem dX7_worthOf_4 : decode cX7_worthOf 4 = .ok (.iconst 5, 1) := by decide +kernel
theorem dX7_worthOf_5 : decode cX7_worthOf 5 = .ok (.iload_n 1, 1) := by decide +kernel
theorem dX7_worthOf_6 : decode cX7_worthOf 6 = .ok (.imul, 1) := by decide +kernel
theorem dX7_worthOf_7 : decode cX7_worthOf 7 = .ok (.iaload, 1) := by decide +kernel
theorem dX7_worthOf_8 : decode cX7_worthOf 8 = .ok (.istore_n 2, 1) := by decide +kernel
theorem dX7_worthOf_9 : decode cX7_worthOf 9 = .ok (.iload_n 2, 1) := by decide +kernel
theorem dX7_worthOf_10 : decode cX7_worthOf 10 = .ok (.ifCond .ne 7, 3) := by decide +kernel
theorem dX7_worthOf_13 : decode cX7_worthOf 13 = .ok (.iconst 2, 1) := by decide +kernel
theorem dX7_worthOf_14 : decode cX7_worthOf 14 = .ok (.goto 45, 3) := by decide +kernel
theorem dX7_worthOf_17 : decode cX7_worthOf 17 = .ok (.iload_n 2, 1) := by decide +kernel
theorem dX7_worthOf_18 : decode cX7_worthOf 18 = .ok (.iconst 1, 1) := by decide +kernel
theorem dX7_worthOf_19 : decode cX7_worthOf 19 = .ok (.if_icmp .ne 7, 3) := by decide +kernel
theorem dX7_worthOf_22 : decode cX7_worthOf 22 = .ok (.iconst 0, 1) := by decide +kernel
theorem dX7_worthOf_23 : decode cX7_worthOf 23 = .ok (.goto 36, 3) := by decide +kernel
theorem dX7_worthOf_26 : decode cX7_worthOf 26 = .ok (.iload_n 2, 1) := by decide +kernel
theorem dX7_worthOf_27 : decode cX7_worthOf 27 = .ok (.iconst 2, 1) := by decide +kernel
theorem dX7_worthOf_28 : decode cX7_worthOf 28 = .ok (.if_icmp .ne 7, 3) := by decide +kernel
theorem dX7_worthOf_31 : decode cX7_worthOf 31 = .ok (.iconst 1, 1) := by decide +kernel
theorem dX7_worthOf_32 : decode cX7_worthOf 32 = .ok (.goto 27, 3) := by decide +kernel
theorem dX7_worthOf_35 : decode cX7_worthOf 35 = .ok (.iload_n 2, 1) := by decide +kernel
theorem dX7_worthOf_36 : decode cX7_worthOf 36 = .ok (.iconst 3, 1) := by decide +kernel
theorem dX7_worthOf_37 : decode cX7_worthOf 37 = .ok (.if_icmp .eq 17, 3) := by decide +kernel
theorem dX7_worthOf_40 : decode cX7_worthOf 40 = .ok (.aload_n 0, 1) := by decide +kernel
theorem dX7_worthOf_41 : decode cX7_worthOf 41 = .ok (.getfield 16, 3) := by decide +kernel
theorem dX7_worthOf_44 : decode cX7_worthOf 44 = .ok (.iconst 5, 1) := by decide +kernel
theorem dX7_worthOf_45 : decode cX7_worthOf 45 = .ok (.iload_n 1, 1) := by decide +kernel
theorem dX7_worthOf_46 : decode cX7_worthOf 46 = .ok (.imul, 1) := by decide +kernel
theorem dX7_worthOf_47 : decode cX7_worthOf 47 = .ok (.iconst 4, 1) := by decide +kernel
theorem dX7_worthOf_48 : decode cX7_worthOf 48 = .ok (.iadd, 1) := by decide +kernel
theorem dX7_worthOf_49 : decode cX7_worthOf 49 = .ok (.iaload, 1) := by decide +kernel
theorem dX7_worthOf_50 : decode cX7_worthOf 50 = .ok (.iconst 1, 1) := by decide +kernel
theorem dX7_worthOf_51 : decode cX7_worthOf 51 = .ok (.if_icmp .ne 7, 3) := by decide +kernel
theorem dX7_worthOf_54 : decode cX7_worthOf 54 = .ok (.iconst 4, 1) := by decide +kernel
theorem dX7_worthOf_55 : decode cX7_worthOf 55 = .ok (.goto 4, 3) := by decide +kernel
theorem dX7_worthOf_58 : decode cX7_worthOf 58 = .ok (.iconst 0, 1) := by decide +kernel
theorem dX7_worthOf_59 : decode cX7_worthOf 59 = .ok (.ireturn, 1) := by decide +kernel
theorem dX7_tellRoad_0 : decode cX7_tellRoad 0 = .ok (.iload_n 2, 1) := by decide +kernel
theorem dX7_tellRoad_1 : decode cX7_tellRoad 1 = .ok (.tableswitch 67 0 5 #[39, 39, 39, 39, 50, 56], 39) := by decide +kernel
theorem dX7_tellRoad_40 : decode cX7_tellRoad 40 = .ok (.aload_n 0, 1) := by decide +kernel
theorem dX7_tellRoad_41 : decode cX7_tellRoad 41 = .ok (.getfield 16, 3) := by decide +kernel
theorem dX7_tellRoad_44 : decode cX7_tellRoad 44 = .ok (.iconst 5, 1) := by decide +kernel
theorem dX7_tellRoad_45 : decode cX7_tellRoad 45 = .ok (.iload_n 1, 1) := by decide +kernel
theorem dX7_tellRoad_46 : decode cX7_tellRoad 46 = .ok (.imul, 1) := by decide +kernel
theorem dX7_tellRoad_47 : decode cX7_tellRoad 47 = .ok (.iload_n 2, 1) := by decide +kernel
theorem dX7_tellRoad_48 : decode cX7_tellRoad 48 = .ok (.iadd, 1) := by decide +kernel
theorem dX7_tellRoad_49 : decode cX7_tellRoad 49 = .ok (.iaload, 1) := by decide +kernel
theorem dX7_tellRoad_50 : decode cX7_tellRoad 50 = .ok (.ireturn, 1) := by decide +kernel
theorem dX7_tellRoad_51 : decode cX7_tellRoad 51 = .ok (.aload_n 0, 1) := by decide +kernel
theorem dX7_tellRoad_52 : decode cX7_tellRoad 52 = .ok (.iload_n 1, 1) := by decide +kernel
theorem dX7_tellRoad_53 : decode cX7_tellRoad 53 = .ok (.invokevirtual 122, 3) := by decide +kernel
theorem dX7_tellRoad_56 : decode cX7_tellRoad 56 = .ok (.ireturn, 1) := by decide +kernel
theorem dX7_tellRoad_57 : decode cX7_tellRoad 57 = .ok (.aload_n 0, 1) := by decide +kernel
theorem dX7_tellRoad_58 : decode cX7_tellRoad 58 = .ok (.getfield 16, 3) := by decide +kernel
theorem dX7_tellRoad_61 : decode cX7_tellRoad 61 = .ok (.iconst 5, 1) := by decide +kernel
theorem dX7_tellRoad_62 : decode cX7_tellRoad 62 = .ok (.iload_n 1, 1) := by decide +kernel
theorem dX7_tellRoad_63 : decode cX7_tellRoad 63 = .ok (.imul, 1) := by decide +kernel
theorem dX7_tellRoad_64 : decode cX7_tellRoad 64 = .ok (.iconst 4, 1) := by decide +kernel
theorem dX7_tellRoad_65 : decode cX7_tellRoad 65 = .ok (.iadd, 1) := by decide +kernel
theorem dX7_tellRoad_66 : decode cX7_tellRoad 66 = .ok (.iaload, 1) := by decide +kernel
theorem dX7_tellRoad_67 : decode cX7_tellRoad 67 = .ok (.ireturn, 1) := by decide +kernel
theorem dX7_tellRoad_68 : decode cX7_tellRoad 68 = .ok (.bipush (-102), 2) := by decide +kernel
theorem dX7_tellRoad_70 : decode cX7_tellRoad 70 = .ok (.ireturn, 1) := by decide +kernel
theorem dX7_road_0 : decode cX7_road 0 = .ok (.aload_n 0, 1) := by decide +kernel
theorem dX7_road_1 : decode cX7_road 1 = .ok (.iload_n 1, 1) := by decide +kernel
theorem dX7_road_2 : decode cX7_road 2 = .ok (.invokevirtual 125, 3) := by decide +kernel
theorem dX7_road_5 : decode cX7_road 5 = .ok (.ifCond .eq 12, 3) := by decide +kernel
theorem dX7_road_8 : decode cX7_road 8 = .ok (.aload_n 0, 1) := by decide +kernel
theorem dX7_road_9 : decode cX7_road 9 = .ok (.iload_n 1, 1) := by decide +kernel
theorem dX7_road_10 : decode cX7_road 10 = .ok (.iload_n 2, 1) := by decide +kernel
theorem dX7_road_11 : decode cX7_road 11 = .ok (.invokevirtual 128, 3) := by decide +kernel
theorem dX7_road_14 : decode cX7_road 14 = .ok (.goto 5, 3) := by decide +kernel
theorem dX7_road_17 : decode cX7_road 17 = .ok (.bipush (-101), 2) := by decide +kernel
theorem dX7_road_19 : decode cX7_road 19 = .ok (.ireturn, 1) := by decide +kernel
theorem dX7_as_0 : decode cX7_as 0 = .ok (.aload_n 0, 1) := by decide +kernel
theorem dX7_as_1 : decode cX7_as 1 = .ok (.iload_n 1, 1) := by decide +kernel
theorem dX7_as_2 : decode cX7_as 2 = .ok (.invokevirtual 125, 3) := by decide +kernel
theorem dX7_as_5 : decode cX7_as 5 = .ok (.ifCond .ne 6, 3) := by decide +kernel
theorem dX7_as_8 : decode cX7_as 8 = .ok (.bipush (-101), 2) := by decide +kernel
theorem dX7_as_10 : decode cX7_as 10 = .ok (.ireturn, 1) := by decide +kernel
theorem dX7_as_11 : decode cX7_as 11 = .ok (.iload_n 2, 1) := by decide +kernel
theorem dX7_as_12 : decode cX7_as 12 = .ok (.i2l, 1) := by decide +kernel
theorem dX7_as_13 : decode cX7_as 13 = .ok (.lconst 0, 1) := by decide +kernel
theorem dX7_as_14 : decode cX7_as 14 = .ok (.ldc2_w 132, 3) := by decide +kernel
theorem dX7_as_17 : decode cX7_as 17 = .ok (.invokestatic 67, 3) := by decide +kernel
theorem dX7_as_20 : decode cX7_as 20 = .ok (.ifCond .ne 6, 3) := by decide +kernel
theorem dX7_as_23 : decode cX7_as 23 = .ok (.bipush (-102), 2) := by decide +kernel
theorem dX7_as_25 : decode cX7_as 25 = .ok (.ireturn, 1) := by decide +kernel
theorem dX7_as_26 : decode cX7_as 26 = .ok (.aload_n 0, 1) := by decide +kernel
theorem dX7_as_27 : decode cX7_as 27 = .ok (.getfield 16, 3) := by decide +kernel
theorem dX7_as_30 : decode cX7_as 30 = .ok (.iconst 5, 1) := by decide +kernel
theorem dX7_as_31 : decode cX7_as 31 = .ok (.iload_n 1, 1) := by decide +kernel
theorem dX7_as_32 : decode cX7_as 32 = .ok (.imul, 1) := by decide +kernel
theorem dX7_as_33 : decode cX7_as 33 = .ok (.iaload, 1) := by decide +kernel
theorem dX7_as_34 : decode cX7_as 34 = .ok (.istore_n 3, 1) := by decide +kernel
theorem dX7_as_35 : decode cX7_as 35 = .ok (.iload_n 2, 1) := by decide +kernel
theorem dX7_as_36 : decode cX7_as 36 = .ok (.ifCond .eq 18, 3) := by decide +kernel
theorem dX7_as_39 : decode cX7_as 39 = .ok (.iload_n 2, 1) := by decide +kernel
theorem dX7_as_40 : decode cX7_as 40 = .ok (.iload_n 3, 1) := by decide +kernel
theorem dX7_as_41 : decode cX7_as 41 = .ok (.if_icmp .eq 13, 3) := by decide +kernel
theorem dX7_as_44 : decode cX7_as 44 = .ok (.iload_n 2, 1) := by decide +kernel
theorem dX7_as_45 : decode cX7_as 45 = .ok (.iconst 3, 1) := by decide +kernel
theorem dX7_as_46 : decode cX7_as 46 = .ok (.if_icmp .ne 12, 3) := by decide +kernel
theorem dX7_as_49 : decode cX7_as 49 = .ok (.iload_n 3, 1) := by decide +kernel
theorem dX7_as_50 : decode cX7_as 50 = .ok (.iconst 4, 1) := by decide +kernel
theorem dX7_as_51 : decode cX7_as 51 = .ok (.if_icmp .ne 7, 3) := by decide +kernel
theorem dX7_as_54 : decode cX7_as 54 = .ok (.iconst 1, 1) := by decide +kernel
theorem dX7_as_55 : decode cX7_as 55 = .ok (.goto 4, 3) := by decide +kernel
theorem dX7_as_58 : decode cX7_as 58 = .ok (.iconst 0, 1) := by decide +kernel
theorem dX7_as_59 : decode cX7_as 59 = .ok (.istore 4, 2) := by decide +kernel
theorem dX7_as_61 : decode cX7_as 61 = .ok (.iload 4, 2) := by decide +kernel
theorem dX7_as_63 : decode cX7_as 63 = .ok (.ifCond .eq 7, 3) := by decide +kernel
theorem dX7_as_66 : decode cX7_as 66 = .ok (.iload_n 1, 1) := by decide +kernel
theorem dX7_as_67 : decode cX7_as 67 = .ok (.goto 4, 3) := by decide +kernel
theorem dX7_as_70 : decode cX7_as 70 = .ok (.iconst (-1), 1) := by decide +kernel
theorem dX7_as_71 : decode cX7_as 71 = .ok (.ireturn, 1) := by decide +kernel
theorem dX7_worsen_0 : decode cX7_worsen 0 = .ok (.aload_n 0, 1) := by decide +kernel
theorem dX7_worsen_1 : decode cX7_worsen 1 = .ok (.iload_n 1, 1) := by decide +kernel
theorem dX7_worsen_2 : decode cX7_worsen 2 = .ok (.invokevirtual 125, 3) := by decide +kernel
theorem dX7_worsen_5 : decode cX7_worsen 5 = .ok (.ifCond .ne 6, 3) := by decide +kernel
theorem dX7_worsen_8 : decode cX7_worsen 8 = .ok (.bipush (-101), 2) := by decide +kernel
theorem dX7_worsen_10 : decode cX7_worsen 10 = .ok (.ireturn, 1) := by decide +kernel
theorem dX7_worsen_11 : decode cX7_worsen 11 = .ok (.iload_n 2, 1) := by decide +kernel
theorem dX7_worsen_12 : decode cX7_worsen 12 = .ok (.i2l, 1) := by decide +kernel
theorem dX7_worsen_13 : decode cX7_worsen 13 = .ok (.lconst 1, 1) := by decide +kernel
theorem dX7_worsen_14 : decode cX7_worsen 14 = .ok (.ldc2_w 80, 3) := by decide +kernel
theorem dX7_worsen_17 : decode cX7_worsen 17 = .ok (.invokestatic 67, 3) := by decide +kernel
theorem dX7_worsen_20 : decode cX7_worsen 20 = .ok (.ifCond .ne 6, 3) := by decide +kernel
theorem dX7_worsen_23 : decode cX7_worsen 23 = .ok (.bipush (-102), 2) := by decide +kernel
theorem dX7_worsen_25 : decode cX7_worsen 25 = .ok (.ireturn, 1) := by decide +kernel
theorem dX7_worsen_26 : decode cX7_worsen 26 = .ok (.aload_n 0, 1) := by decide +kernel
theorem dX7_worsen_27 : decode cX7_worsen 27 = .ok (.getfield 16, 3) := by decide +kernel
theorem dX7_worsen_30 : decode cX7_worsen 30 = .ok (.iconst 5, 1) := by decide +kernel
theorem dX7_worsen_31 : decode cX7_worsen 31 = .ok (.iload_n 1, 1) := by decide +kernel
theorem dX7_worsen_32 : decode cX7_worsen 32 = .ok (.imul, 1) := by decide +kernel
theorem dX7_worsen_33 : decode cX7_worsen 33 = .ok (.iconst 3, 1) := by decide +kernel
theorem dX7_worsen_34 : decode cX7_worsen 34 = .ok (.iadd, 1) := by decide +kernel
theorem dX7_worsen_35 : decode cX7_worsen 35 = .ok (.iaload, 1) := by decide +kernel
theorem dX7_worsen_36 : decode cX7_worsen 36 = .ok (.istore_n 3, 1) := by decide +kernel
theorem dX7_worsen_37 : decode cX7_worsen 37 = .ok (.aload_n 0, 1) := by decide +kernel
theorem dX7_worsen_38 : decode cX7_worsen 38 = .ok (.getfield 16, 3) := by decide +kernel
theorem dX7_worsen_41 : decode cX7_worsen 41 = .ok (.iconst 5, 1) := by decide +kernel
theorem dX7_worsen_42 : decode cX7_worsen 42 = .ok (.iload_n 1, 1) := by decide +kernel
theorem dX7_worsen_43 : decode cX7_worsen 43 = .ok (.imul, 1) := by decide +kernel
theorem dX7_worsen_44 : decode cX7_worsen 44 = .ok (.iconst 3, 1) := by decide +kernel
theorem dX7_worsen_45 : decode cX7_worsen 45 = .ok (.iadd, 1) := by decide +kernel
theorem dX7_worsen_46 : decode cX7_worsen 46 = .ok (.iload_n 2, 1) := by decide +kernel
theorem dX7_worsen_47 : decode cX7_worsen 47 = .ok (.iastore, 1) := by decide +kernel
theorem dX7_worsen_48 : decode cX7_worsen 48 = .ok (.iload_n 3, 1) := by decide +kernel
theorem dX7_worsen_49 : decode cX7_worsen 49 = .ok (.ireturn, 1) := by decide +kernel
theorem dX7_licence_0 : decode cX7_licence 0 = .ok (.aload_n 0, 1) := by decide +kernel
theorem dX7_licence_1 : decode cX7_licence 1 = .ok (.iload_n 1, 1) := by decide +kernel
theorem dX7_licence_2 : decode cX7_licence 2 = .ok (.invokevirtual 125, 3) := by decide +kernel
theorem dX7_licence_5 : decode cX7_licence 5 = .ok (.ifCond .ne 6, 3) := by decide +kernel
theorem dX7_licence_8 : decode cX7_licence 8 = .ok (.bipush (-101), 2) := by decide +kernel
theorem dX7_licence_10 : decode cX7_licence 10 = .ok (.ireturn, 1) := by decide +kernel
theorem dX7_licence_11 : decode cX7_licence 11 = .ok (.aload_n 0, 1) := by decide +kernel
theorem dX7_licence_12 : decode cX7_licence 12 = .ok (.getfield 16, 3) := by decide +kernel
theorem dX7_licence_15 : decode cX7_licence 15 = .ok (.iconst 5, 1) := by decide +kernel
theorem dX7_licence_16 : decode cX7_licence 16 = .ok (.iload_n 1, 1) := by decide +kernel
theorem dX7_licence_17 : decode cX7_licence 17 = .ok (.imul, 1) := by decide +kernel
theorem dX7_licence_18 : decode cX7_licence 18 = .ok (.iconst 4, 1) := by decide +kernel
theorem dX7_licence_19 : decode cX7_licence 19 = .ok (.iadd, 1) := by decide +kernel
theorem dX7_licence_20 : decode cX7_licence 20 = .ok (.iaload, 1) := by decide +kernel
theorem dX7_licence_21 : decode cX7_licence 21 = .ok (.istore_n 3, 1) := by decide +kernel
theorem dX7_licence_22 : decode cX7_licence 22 = .ok (.aload_n 0, 1) := by decide +kernel
theorem dX7_licence_23 : decode cX7_licence 23 = .ok (.getfield 16, 3) := by decide +kernel
theorem dX7_licence_26 : decode cX7_licence 26 = .ok (.iconst 5, 1) := by decide +kernel
theorem dX7_licence_27 : decode cX7_licence 27 = .ok (.iload_n 1, 1) := by decide +kernel
theorem dX7_licence_28 : decode cX7_licence 28 = .ok (.imul, 1) := by decide +kernel
theorem dX7_licence_29 : decode cX7_licence 29 = .ok (.iconst 4, 1) := by decide +kernel
theorem dX7_licence_30 : decode cX7_licence 30 = .ok (.iadd, 1) := by decide +kernel
theorem dX7_licence_31 : decode cX7_licence 31 = .ok (.iload_n 2, 1) := by decide +kernel
theorem dX7_licence_32 : decode cX7_licence 32 = .ok (.ifCond .eq 7, 3) := by decide +kernel
theorem dX7_licence_35 : decode cX7_licence 35 = .ok (.iconst 1, 1) := by decide +kernel
theorem dX7_licence_36 : decode cX7_licence 36 = .ok (.goto 4, 3) := by decide +kernel
theorem dX7_licence_39 : decode cX7_licence 39 = .ok (.iconst 0, 1) := by decide +kernel
theorem dX7_licence_40 : decode cX7_licence 40 = .ok (.iastore, 1) := by decide +kernel
theorem dX7_licence_41 : decode cX7_licence 41 = .ok (.iload_n 3, 1) := by decide +kernel
theorem dX7_licence_42 : decode cX7_licence 42 = .ok (.ireturn, 1) := by decide +kernel
theorem dX7_isPilgrim_0 : decode cX7_isPilgrim 0 = .ok (.iload_n 1, 1) := by decide +kernel
theorem dX7_isPilgrim_1 : decode cX7_isPilgrim 1 = .ok (.i2l, 1) := by decide +kernel
theorem dX7_isPilgrim_2 : decode cX7_isPilgrim 2 = .ok (.lconst 0, 1) := by decide +kernel
theorem dX7_isPilgrim_3 : decode cX7_isPilgrim 3 = .ok (.aload_n 0, 1) := by decide +kernel
theorem dX7_isPilgrim_4 : decode cX7_isPilgrim 4 = .ok (.getfield 110, 3) := by decide +kernel
theorem dX7_isPilgrim_7 : decode cX7_isPilgrim 7 = .ok (.iconst 1, 1) := by decide +kernel
theorem dX7_isPilgrim_8 : decode cX7_isPilgrim 8 = .ok (.isub, 1) := by decide +kernel
theorem dX7_isPilgrim_9 : decode cX7_isPilgrim 9 = .ok (.i2l, 1) := by decide +kernel
theorem dX7_isPilgrim_10 : decode cX7_isPilgrim 10 = .ok (.invokestatic 67, 3) := by decide +kernel
theorem dX7_isPilgrim_13 : decode cX7_isPilgrim 13 = .ok (.ireturn, 1) := by decide +kernel
theorem dX7_pilgrim_0 : decode cX7_pilgrim 0 = .ok (.aload_n 0, 1) := by decide +kernel
theorem dX7_pilgrim_1 : decode cX7_pilgrim 1 = .ok (.invokevirtual 134, 3) := by decide +kernel
theorem dX7_pilgrim_4 : decode cX7_pilgrim 4 = .ok (.ifCond .eq 6, 3) := by decide +kernel
theorem dX7_pilgrim_7 : decode cX7_pilgrim 7 = .ok (.bipush (-103), 2) := by decide +kernel
theorem dX7_pilgrim_9 : decode cX7_pilgrim 9 = .ok (.ireturn, 1) := by decide +kernel
theorem dX7_pilgrim_10 : decode cX7_pilgrim 10 = .ok (.aload_n 0, 1) := by decide +kernel
theorem dX7_pilgrim_11 : decode cX7_pilgrim 11 = .ok (.getfield 110, 3) := by decide +kernel
theorem dX7_pilgrim_14 : decode cX7_pilgrim 14 = .ok (.iconst 4, 1) := by decide +kernel
theorem dX7_pilgrim_15 : decode cX7_pilgrim 15 = .ok (.if_icmp .ne 6, 3) := by decide +kernel
theorem dX7_pilgrim_18 : decode cX7_pilgrim 18 = .ok (.bipush (-104), 2) := by decide +kernel
theorem dX7_pilgrim_20 : decode cX7_pilgrim 20 = .ok (.ireturn, 1) := by decide +kernel
theorem dX7_pilgrim_21 : decode cX7_pilgrim 21 = .ok (.iconst 0, 1) := by decide +kernel
theorem dX7_pilgrim_22 : decode cX7_pilgrim 22 = .ok (.istore_n 1, 1) := by decide +kernel
theorem dX7_pilgrim_23 : decode cX7_pilgrim 23 = .ok (.iload_n 1, 1) := by decide +kernel
theorem dX7_pilgrim_24 : decode cX7_pilgrim 24 = .ok (.bipush 8, 2) := by decide +kernel
theorem dX7_pilgrim_26 : decode cX7_pilgrim 26 = .ok (.if_icmp .ge 40, 3) := by decide +kernel
theorem dX7_pilgrim_29 : decode cX7_pilgrim 29 = .ok (.aload_n 0, 1) := by decide +kernel
theorem dX7_pilgrim_30 : decode cX7_pilgrim 30 = .ok (.getfield 19, 3) := by decide +kernel
theorem dX7_pilgrim_33 : decode cX7_pilgrim 33 = .ok (.iconst 5, 1) := by decide +kernel
theorem dX7_pilgrim_34 : decode cX7_pilgrim 34 = .ok (.aload_n 0, 1) := by decide +kernel
theorem dX7_pilgrim_35 : decode cX7_pilgrim 35 = .ok (.getfield 110, 3) := by decide +kernel
theorem dX7_pilgrim_38 : decode cX7_pilgrim 38 = .ok (.imul, 1) := by decide +kernel
theorem dX7_pilgrim_39 : decode cX7_pilgrim 39 = .ok (.iload_n 1, 1) := by decide +kernel
theorem dX7_pilgrim_40 : decode cX7_pilgrim 40 = .ok (.iconst 5, 1) := by decide +kernel
theorem dX7_pilgrim_41 : decode cX7_pilgrim 41 = .ok (.irem, 1) := by decide +kernel
theorem dX7_pilgrim_42 : decode cX7_pilgrim 42 = .ok (.iadd, 1) := by decide +kernel
theorem dX7_pilgrim_43 : decode cX7_pilgrim 43 = .ok (.iconst 0, 1) := by decide +kernel
theorem dX7_pilgrim_44 : decode cX7_pilgrim 44 = .ok (.iastore, 1) := by decide +kernel
theorem dX7_pilgrim_45 : decode cX7_pilgrim 45 = .ok (.aload_n 0, 1) := by decide +kernel
theorem dX7_pilgrim_46 : decode cX7_pilgrim 46 = .ok (.getfield 22, 3) := by decide +kernel
theorem dX7_pilgrim_49 : decode cX7_pilgrim 49 = .ok (.bipush 8, 2) := by decide +kernel
theorem dX7_pilgrim_51 : decode cX7_pilgrim 51 = .ok (.aload_n 0, 1) := by decide +kernel
theorem dX7_pilgrim_52 : decode cX7_pilgrim 52 = .ok (.getfield 110, 3) := by decide +kernel
theorem dX7_pilgrim_55 : decode cX7_pilgrim 55 = .ok (.imul, 1) := by decide +kernel
theorem dX7_pilgrim_56 : decode cX7_pilgrim 56 = .ok (.iload_n 1, 1) := by decide +kernel
theorem dX7_pilgrim_57 : decode cX7_pilgrim 57 = .ok (.iadd, 1) := by decide +kernel
theorem dX7_pilgrim_58 : decode cX7_pilgrim 58 = .ok (.iconst 0, 1) := by decide +kernel
theorem dX7_pilgrim_59 : decode cX7_pilgrim 59 = .ok (.iastore, 1) := by decide +kernel
theorem dX7_pilgrim_60 : decode cX7_pilgrim 60 = .ok (.iinc 1 1, 3) := by decide +kernel
theorem dX7_pilgrim_63 : decode cX7_pilgrim 63 = .ok (.goto (-40), 3) := by decide +kernel
theorem dX7_pilgrim_66 : decode cX7_pilgrim 66 = .ok (.aload_n 0, 1) := by decide +kernel
theorem dX7_pilgrim_67 : decode cX7_pilgrim 67 = .ok (.dup, 1) := by decide +kernel
theorem dX7_pilgrim_68 : decode cX7_pilgrim 68 = .ok (.getfield 110, 3) := by decide +kernel
theorem dX7_pilgrim_71 : decode cX7_pilgrim 71 = .ok (.iconst 1, 1) := by decide +kernel
theorem dX7_pilgrim_72 : decode cX7_pilgrim 72 = .ok (.iadd, 1) := by decide +kernel
theorem dX7_pilgrim_73 : decode cX7_pilgrim 73 = .ok (.putfield 110, 3) := by decide +kernel
theorem dX7_pilgrim_76 : decode cX7_pilgrim 76 = .ok (.aload_n 0, 1) := by decide +kernel
theorem dX7_pilgrim_77 : decode cX7_pilgrim 77 = .ok (.getfield 110, 3) := by decide +kernel
theorem dX7_pilgrim_80 : decode cX7_pilgrim 80 = .ok (.iconst 1, 1) := by decide +kernel
theorem dX7_pilgrim_81 : decode cX7_pilgrim 81 = .ok (.isub, 1) := by decide +kernel
theorem dX7_pilgrim_82 : decode cX7_pilgrim 82 = .ok (.ireturn, 1) := by decide +kernel
theorem dX7_tell_0 : decode cX7_tell 0 = .ok (.iload_n 2, 1) := by decide +kernel
theorem dX7_tell_1 : decode cX7_tell 1 = .ok (.i2l, 1) := by decide +kernel
theorem dX7_tell_2 : decode cX7_tell 2 = .ok (.ldc2_w 138, 3) := by decide +kernel
theorem dX7_tell_5 : decode cX7_tell 5 = .ok (.ldc2_w 140, 3) := by decide +kernel
theorem dX7_tell_8 : decode cX7_tell 8 = .ok (.invokestatic 67, 3) := by decide +kernel
theorem dX7_tell_11 : decode cX7_tell 11 = .ok (.ifCond .eq 18, 3) := by decide +kernel
theorem dX7_tell_14 : decode cX7_tell 14 = .ok (.aload_n 0, 1) := by decide +kernel
theorem dX7_tell_15 : decode cX7_tell 15 = .ok (.getfield 22, 3) := by decide +kernel
theorem dX7_tell_18 : decode cX7_tell 18 = .ok (.bipush 8, 2) := by decide +kernel
theorem dX7_tell_20 : decode cX7_tell 20 = .ok (.iload_n 1, 1) := by decide +kernel
theorem dX7_tell_21 : decode cX7_tell 21 = .ok (.imul, 1) := by decide +kernel
theorem dX7_tell_22 : decode cX7_tell 22 = .ok (.iload_n 2, 1) := by decide +kernel
theorem dX7_tell_23 : decode cX7_tell 23 = .ok (.iadd, 1) := by decide +kernel
theorem dX7_tell_24 : decode cX7_tell 24 = .ok (.bipush 10, 2) := by decide +kernel
theorem dX7_tell_26 : decode cX7_tell 26 = .ok (.isub, 1) := by decide +kernel
theorem dX7_tell_27 : decode cX7_tell 27 = .ok (.iaload, 1) := by decide +kernel
theorem dX7_tell_28 : decode cX7_tell 28 = .ok (.ireturn, 1) := by decide +kernel
theorem dX7_tell_29 : decode cX7_tell 29 = .ok (.iload_n 2, 1) := by decide +kernel
theorem dX7_tell_30 : decode cX7_tell 30 = .ok (.i2l, 1) := by decide +kernel
theorem dX7_tell_31 : decode cX7_tell 31 = .ok (.lconst 0, 1) := by decide +kernel
theorem dX7_tell_32 : decode cX7_tell 32 = .ok (.ldc2_w 132, 3) := by decide +kernel
theorem dX7_tell_35 : decode cX7_tell 35 = .ok (.invokestatic 67, 3) := by decide +kernel
theorem dX7_tell_38 : decode cX7_tell 38 = .ok (.ifCond .eq 16, 3) := by decide +kernel
theorem dX7_tell_41 : decode cX7_tell 41 = .ok (.aload_n 0, 1) := by decide +kernel
theorem dX7_tell_42 : decode cX7_tell 42 = .ok (.getfield 19, 3) := by decide +kernel
theorem dX7_tell_45 : decode cX7_tell 45 = .ok (.iconst 5, 1) := by decide +kernel
theorem dX7_tell_46 : decode cX7_tell 46 = .ok (.iload_n 1, 1) := by decide +kernel
theorem dX7_tell_47 : decode cX7_tell 47 = .ok (.imul, 1) := by decide +kernel
theorem dX7_tell_48 : decode cX7_tell 48 = .ok (.iload_n 2, 1) := by decide +kernel
theorem dX7_tell_49 : decode cX7_tell 49 = .ok (.iadd, 1) := by decide +kernel
theorem dX7_tell_50 : decode cX7_tell 50 = .ok (.iaload, 1) := by decide +kernel
theorem dX7_tell_51 : decode cX7_tell 51 = .ok (.goto 5, 3) := by decide +kernel
theorem dX7_tell_54 : decode cX7_tell 54 = .ok (.bipush (-102), 2) := by decide +kernel
theorem dX7_tell_56 : decode cX7_tell 56 = .ok (.ireturn, 1) := by decide +kernel
theorem dX7_about_0 : decode cX7_about 0 = .ok (.aload_n 0, 1) := by decide +kernel
theorem dX7_about_1 : decode cX7_about 1 = .ok (.iload_n 1, 1) := by decide +kernel
theorem dX7_about_2 : decode cX7_about 2 = .ok (.invokevirtual 142, 3) := by decide +kernel
theorem dX7_about_5 : decode cX7_about 5 = .ok (.ifCond .eq 12, 3) := by decide +kernel
theorem dX7_about_8 : decode cX7_about 8 = .ok (.aload_n 0, 1) := by decide +kernel
theorem dX7_about_9 : decode cX7_about 9 = .ok (.iload_n 1, 1) := by decide +kernel
theorem dX7_about_10 : decode cX7_about 10 = .ok (.iload_n 2, 1) := by decide +kernel
theorem dX7_about_11 : decode cX7_about 11 = .ok (.invokevirtual 145, 3) := by decide +kernel
theorem dX7_about_14 : decode cX7_about 14 = .ok (.goto 5, 3) := by decide +kernel
theorem dX7_about_17 : decode cX7_about 17 = .ok (.bipush (-101), 2) := by decide +kernel
theorem dX7_about_19 : decode cX7_about 19 = .ok (.ireturn, 1) := by decide +kernel
theorem dX7_isIn_0 : decode cX7_isIn 0 = .ok (.aload_n 0, 1) := by decide +kernel
theorem dX7_isIn_1 : decode cX7_isIn 1 = .ok (.getfield 19, 3) := by decide +kernel
theorem dX7_isIn_4 : decode cX7_isIn 4 = .ok (.iconst 5, 1) := by decide +kernel
theorem dX7_isIn_5 : decode cX7_isIn 5 = .ok (.iload_n 1, 1) := by decide +kernel
theorem dX7_isIn_6 : decode cX7_isIn 6 = .ok (.imul, 1) := by decide +kernel
theorem dX7_isIn_7 : decode cX7_isIn 7 = .ok (.iconst 3, 1) := by decide +kernel
theorem dX7_isIn_8 : decode cX7_isIn 8 = .ok (.iadd, 1) := by decide +kernel
theorem dX7_isIn_9 : decode cX7_isIn 9 = .ok (.iaload, 1) := by decide +kernel
theorem dX7_isIn_10 : decode cX7_isIn 10 = .ok (.iconst 1, 1) := by decide +kernel
theorem dX7_isIn_11 : decode cX7_isIn 11 = .ok (.if_icmp .ne 7, 3) := by decide +kernel
theorem dX7_isIn_14 : decode cX7_isIn 14 = .ok (.iconst 1, 1) := by decide +kernel
theorem dX7_isIn_15 : decode cX7_isIn 15 = .ok (.goto 4, 3) := by decide +kernel
theorem dX7_isIn_18 : decode cX7_isIn 18 = .ok (.iconst 0, 1) := by decide +kernel
theorem dX7_isIn_19 : decode cX7_isIn 19 = .ok (.ireturn, 1) := by decide +kernel
theorem dX7_otherEnd_0 : decode cX7_otherEnd 0 = .ok (.aload_n 0, 1) := by decide +kernel
theorem dX7_otherEnd_1 : decode cX7_otherEnd 1 = .ok (.getfield 16, 3) := by decide +kernel
theorem dX7_otherEnd_4 : decode cX7_otherEnd 4 = .ok (.iconst 5, 1) := by decide +kernel
theorem dX7_otherEnd_5 : decode cX7_otherEnd 5 = .ok (.iload_n 1, 1) := by decide +kernel
theorem dX7_otherEnd_6 : decode cX7_otherEnd 6 = .ok (.imul, 1) := by decide +kernel
theorem dX7_otherEnd_7 : decode cX7_otherEnd 7 = .ok (.iconst 1, 1) := by decide +kernel
theorem dX7_otherEnd_8 : decode cX7_otherEnd 8 = .ok (.iadd, 1) := by decide +kernel
theorem dX7_otherEnd_9 : decode cX7_otherEnd 9 = .ok (.iaload, 1) := by decide +kernel
theorem dX7_otherEnd_10 : decode cX7_otherEnd 10 = .ok (.istore_n 3, 1) := by decide +kernel
theorem dX7_otherEnd_11 : decode cX7_otherEnd 11 = .ok (.aload_n 0, 1) := by decide +kernel
theorem dX7_otherEnd_12 : decode cX7_otherEnd 12 = .ok (.getfield 16, 3) := by decide +kernel
theorem dX7_otherEnd_15 : decode cX7_otherEnd 15 = .ok (.iconst 5, 1) := by decide +kernel
theorem dX7_otherEnd_16 : decode cX7_otherEnd 16 = .ok (.iload_n 1, 1) := by decide +kernel
theorem dX7_otherEnd_17 : decode cX7_otherEnd 17 = .ok (.imul, 1) := by decide +kernel
theorem dX7_otherEnd_18 : decode cX7_otherEnd 18 = .ok (.iconst 2, 1) := by decide +kernel
theorem dX7_otherEnd_19 : decode cX7_otherEnd 19 = .ok (.iadd, 1) := by decide +kernel
theorem dX7_otherEnd_20 : decode cX7_otherEnd 20 = .ok (.iaload, 1) := by decide +kernel
theorem dX7_otherEnd_21 : decode cX7_otherEnd 21 = .ok (.istore 4, 2) := by decide +kernel
theorem dX7_otherEnd_23 : decode cX7_otherEnd 23 = .ok (.iload_n 3, 1) := by decide +kernel
theorem dX7_otherEnd_24 : decode cX7_otherEnd 24 = .ok (.iload_n 2, 1) := by decide +kernel
theorem dX7_otherEnd_25 : decode cX7_otherEnd 25 = .ok (.if_icmp .ne 8, 3) := by decide +kernel
theorem dX7_otherEnd_28 : decode cX7_otherEnd 28 = .ok (.iload 4, 2) := by decide +kernel
theorem dX7_otherEnd_30 : decode cX7_otherEnd 30 = .ok (.goto 14, 3) := by decide +kernel
theorem dX7_otherEnd_33 : decode cX7_otherEnd 33 = .ok (.iload 4, 2) := by decide +kernel
theorem dX7_otherEnd_35 : decode cX7_otherEnd 35 = .ok (.iload_n 2, 1) := by decide +kernel
theorem dX7_otherEnd_36 : decode cX7_otherEnd 36 = .ok (.if_icmp .ne 7, 3) := by decide +kernel
theorem dX7_otherEnd_39 : decode cX7_otherEnd 39 = .ok (.iload_n 3, 1) := by decide +kernel
theorem dX7_otherEnd_40 : decode cX7_otherEnd 40 = .ok (.goto 4, 3) := by decide +kernel
theorem dX7_otherEnd_43 : decode cX7_otherEnd 43 = .ok (.iconst (-1), 1) := by decide +kernel
theorem dX7_otherEnd_44 : decode cX7_otherEnd 44 = .ok (.ireturn, 1) := by decide +kernel
theorem dX7_mayWalk_0 : decode cX7_mayWalk 0 = .ok (.aload_n 0, 1) := by decide +kernel
theorem dX7_mayWalk_1 : decode cX7_mayWalk 1 = .ok (.iload_n 1, 1) := by decide +kernel
theorem dX7_mayWalk_2 : decode cX7_mayWalk 2 = .ok (.invokevirtual 148, 3) := by decide +kernel
theorem dX7_mayWalk_5 : decode cX7_mayWalk 5 = .ok (.ifCond .ne 41, 3) := by decide +kernel
theorem dX7_mayWalk_8 : decode cX7_mayWalk 8 = .ok (.aload_n 0, 1) := by decide +kernel
theorem dX7_mayWalk_9 : decode cX7_mayWalk 9 = .ok (.iload_n 2, 1) := by decide +kernel
theorem dX7_mayWalk_10 : decode cX7_mayWalk 10 = .ok (.aload_n 0, 1) := by decide +kernel
theorem dX7_mayWalk_11 : decode cX7_mayWalk 11 = .ok (.getfield 19, 3) := by decide +kernel
theorem dX7_mayWalk_14 : decode cX7_mayWalk 14 = .ok (.iconst 5, 1) := by decide +kernel
theorem dX7_mayWalk_15 : decode cX7_mayWalk 15 = .ok (.iload_n 1, 1) := by decide +kernel
theorem dX7_mayWalk_16 : decode cX7_mayWalk 16 = .ok (.imul, 1) := by decide +kernel
theorem dX7_mayWalk_17 : decode cX7_mayWalk 17 = .ok (.iaload, 1) := by decide +kernel
theorem dX7_mayWalk_18 : decode cX7_mayWalk 18 = .ok (.invokevirtual 151, 3) := by decide +kernel
theorem dX7_mayWalk_21 : decode cX7_mayWalk 21 = .ok (.iconst (-1), 1) := by decide +kernel
theorem dX7_mayWalk_22 : decode cX7_mayWalk 22 = .ok (.if_icmp .eq 24, 3) := by decide +kernel
theorem dX7_mayWalk_25 : decode cX7_mayWalk 25 = .ok (.aload_n 0, 1) := by decide +kernel
theorem dX7_mayWalk_26 : decode cX7_mayWalk 26 = .ok (.getfield 19, 3) := by decide +kernel
theorem dX7_mayWalk_29 : decode cX7_mayWalk 29 = .ok (.iconst 5, 1) := by decide +kernel
theorem dX7_mayWalk_30 : decode cX7_mayWalk 30 = .ok (.iload_n 1, 1) := by decide +kernel
theorem dX7_mayWalk_31 : decode cX7_mayWalk 31 = .ok (.imul, 1) := by decide +kernel
theorem dX7_mayWalk_32 : decode cX7_mayWalk 32 = .ok (.iconst 1, 1) := by decide +kernel
theorem dX7_mayWalk_33 : decode cX7_mayWalk 33 = .ok (.iadd, 1) := by decide +kernel
theorem dX7_mayWalk_34 : decode cX7_mayWalk 34 = .ok (.iaload, 1) := by decide +kernel
theorem dX7_mayWalk_35 : decode cX7_mayWalk 35 = .ok (.iload_n 3, 1) := by decide +kernel
theorem dX7_mayWalk_36 : decode cX7_mayWalk 36 = .ok (.iadd, 1) := by decide +kernel
theorem dX7_mayWalk_37 : decode cX7_mayWalk 37 = .ok (.bipush 99, 2) := by decide +kernel
theorem dX7_mayWalk_39 : decode cX7_mayWalk 39 = .ok (.if_icmp .gt 7, 3) := by decide +kernel
theorem dX7_mayWalk_42 : decode cX7_mayWalk 42 = .ok (.iconst 1, 1) := by decide +kernel
theorem dX7_mayWalk_43 : decode cX7_mayWalk 43 = .ok (.goto 4, 3) := by decide +kernel
theorem dX7_mayWalk_46 : decode cX7_mayWalk 46 = .ok (.iconst 0, 1) := by decide +kernel
theorem dX7_mayWalk_47 : decode cX7_mayWalk 47 = .ok (.ireturn, 1) := by decide +kernel
theorem dX7_goes_0 : decode cX7_goes 0 = .ok (.aload_n 0, 1) := by decide +kernel
theorem dX7_goes_1 : decode cX7_goes 1 = .ok (.getfield 16, 3) := by decide +kernel
theorem dX7_goes_4 : decode cX7_goes 4 = .ok (.iconst 5, 1) := by decide +kernel
theorem dX7_goes_5 : decode cX7_goes 5 = .ok (.iload_n 2, 1) := by decide +kernel
theorem dX7_goes_6 : decode cX7_goes 6 = .ok (.imul, 1) := by decide +kernel
theorem dX7_goes_7 : decode cX7_goes 7 = .ok (.iconst 3, 1) := by decide +kernel
theorem dX7_goes_8 : decode cX7_goes 8 = .ok (.iadd, 1) := by decide +kernel
theorem dX7_goes_9 : decode cX7_goes 9 = .ok (.iaload, 1) := by decide +kernel
theorem dX7_goes_10 : decode cX7_goes 10 = .ok (.aload_n 0, 1) := by decide +kernel
theorem dX7_goes_11 : decode cX7_goes 11 = .ok (.getfield 22, 3) := by decide +kernel
theorem dX7_goes_14 : decode cX7_goes 14 = .ok (.bipush 8, 2) := by decide +kernel
theorem dX7_goes_16 : decode cX7_goes 16 = .ok (.iload_n 1, 1) := by decide +kernel
theorem dX7_goes_17 : decode cX7_goes 17 = .ok (.imul, 1) := by decide +kernel
theorem dX7_goes_18 : decode cX7_goes 18 = .ok (.iload_n 2, 1) := by decide +kernel
theorem dX7_goes_19 : decode cX7_goes 19 = .ok (.iadd, 1) := by decide +kernel
theorem dX7_goes_20 : decode cX7_goes 20 = .ok (.iaload, 1) := by decide +kernel
theorem dX7_goes_21 : decode cX7_goes 21 = .ok (.if_icmp .le 7, 3) := by decide +kernel
theorem dX7_goes_24 : decode cX7_goes 24 = .ok (.iconst 1, 1) := by decide +kernel
theorem dX7_goes_25 : decode cX7_goes 25 = .ok (.goto 4, 3) := by decide +kernel
theorem dX7_goes_28 : decode cX7_goes 28 = .ok (.iconst 0, 1) := by decide +kernel
theorem dX7_goes_29 : decode cX7_goes 29 = .ok (.istore 5, 2) := by decide +kernel
theorem dX7_goes_31 : decode cX7_goes 31 = .ok (.aload_n 0, 1) := by decide +kernel
theorem dX7_goes_32 : decode cX7_goes 32 = .ok (.getfield 19, 3) := by decide +kernel
theorem dX7_goes_35 : decode cX7_goes 35 = .ok (.iconst 5, 1) := by decide +kernel
theorem dX7_goes_36 : decode cX7_goes 36 = .ok (.iload_n 1, 1) := by decide +kernel
theorem dX7_goes_37 : decode cX7_goes 37 = .ok (.imul, 1) := by decide +kernel
theorem dX7_goes_38 : decode cX7_goes 38 = .ok (.aload_n 0, 1) := by decide +kernel
theorem dX7_goes_39 : decode cX7_goes 39 = .ok (.iload_n 2, 1) := by decide +kernel
theorem dX7_goes_40 : decode cX7_goes 40 = .ok (.aload_n 0, 1) := by decide +kernel
theorem dX7_goes_41 : decode cX7_goes 41 = .ok (.getfield 19, 3) := by decide +kernel
theorem dX7_goes_44 : decode cX7_goes 44 = .ok (.iconst 5, 1) := by decide +kernel
theorem dX7_goes_45 : decode cX7_goes 45 = .ok (.iload_n 1, 1) := by decide +kernel
theorem dX7_goes_46 : decode cX7_goes 46 = .ok (.imul, 1) := by decide +kernel
theorem dX7_goes_47 : decode cX7_goes 47 = .ok (.iaload, 1) := by decide +kernel
theorem dX7_goes_48 : decode cX7_goes 48 = .ok (.invokevirtual 151, 3) := by decide +kernel
theorem dX7_goes_51 : decode cX7_goes 51 = .ok (.iastore, 1) := by decide +kernel
theorem dX7_goes_52 : decode cX7_goes 52 = .ok (.aload_n 0, 1) := by decide +kernel
theorem dX7_goes_53 : decode cX7_goes 53 = .ok (.getfield 19, 3) := by decide +kernel
theorem dX7_goes_56 : decode cX7_goes 56 = .ok (.iconst 5, 1) := by decide +kernel
theorem dX7_goes_57 : decode cX7_goes 57 = .ok (.iload_n 1, 1) := by decide +kernel
theorem dX7_goes_58 : decode cX7_goes 58 = .ok (.imul, 1) := by decide +kernel
theorem dX7_goes_59 : decode cX7_goes 59 = .ok (.iconst 1, 1) := by decide +kernel
theorem dX7_goes_60 : decode cX7_goes 60 = .ok (.iadd, 1) := by decide +kernel
theorem dX7_goes_61 : decode cX7_goes 61 = .ok (.dup2, 1) := by decide +kernel
theorem dX7_goes_62 : decode cX7_goes 62 = .ok (.iaload, 1) := by decide +kernel
theorem dX7_goes_63 : decode cX7_goes 63 = .ok (.iload_n 3, 1) := by decide +kernel
theorem dX7_goes_64 : decode cX7_goes 64 = .ok (.iadd, 1) := by decide +kernel
theorem dX7_goes_65 : decode cX7_goes 65 = .ok (.iastore, 1) := by decide +kernel
theorem dX7_goes_66 : decode cX7_goes 66 = .ok (.aload_n 0, 1) := by decide +kernel
theorem dX7_goes_67 : decode cX7_goes 67 = .ok (.getfield 19, 3) := by decide +kernel
theorem dX7_goes_70 : decode cX7_goes 70 = .ok (.iconst 5, 1) := by decide +kernel
theorem dX7_goes_71 : decode cX7_goes 71 = .ok (.iload_n 1, 1) := by decide +kernel
theorem dX7_goes_72 : decode cX7_goes 72 = .ok (.imul, 1) := by decide +kernel
theorem dX7_goes_73 : decode cX7_goes 73 = .ok (.iconst 2, 1) := by decide +kernel
theorem dX7_goes_74 : decode cX7_goes 74 = .ok (.iadd, 1) := by decide +kernel
theorem dX7_goes_75 : decode cX7_goes 75 = .ok (.dup2, 1) := by decide +kernel
theorem dX7_goes_76 : decode cX7_goes 76 = .ok (.iaload, 1) := by decide +kernel
theorem dX7_goes_77 : decode cX7_goes 77 = .ok (.iload 5, 2) := by decide +kernel
theorem dX7_goes_79 : decode cX7_goes 79 = .ok (.ifCond .eq 8, 3) := by decide +kernel
theorem dX7_goes_82 : decode cX7_goes 82 = .ok (.iload 4, 2) := by decide +kernel
theorem dX7_goes_84 : decode cX7_goes 84 = .ok (.goto 4, 3) := by decide +kernel
theorem dX7_goes_87 : decode cX7_goes 87 = .ok (.iconst 0, 1) := by decide +kernel
theorem dX7_goes_88 : decode cX7_goes 88 = .ok (.iadd, 1) := by decide +kernel
theorem dX7_goes_89 : decode cX7_goes 89 = .ok (.iastore, 1) := by decide +kernel
theorem dX7_goes_90 : decode cX7_goes 90 = .ok (.aload_n 0, 1) := by decide +kernel
theorem dX7_goes_91 : decode cX7_goes 91 = .ok (.getfield 19, 3) := by decide +kernel
theorem dX7_goes_94 : decode cX7_goes 94 = .ok (.iconst 5, 1) := by decide +kernel
theorem dX7_goes_95 : decode cX7_goes 95 = .ok (.iload_n 1, 1) := by decide +kernel
theorem dX7_goes_96 : decode cX7_goes 96 = .ok (.imul, 1) := by decide +kernel
theorem dX7_goes_97 : decode cX7_goes 97 = .ok (.iconst 4, 1) := by decide +kernel
theorem dX7_goes_98 : decode cX7_goes 98 = .ok (.iadd, 1) := by decide +kernel
theorem dX7_goes_99 : decode cX7_goes 99 = .ok (.dup2, 1) := by decide +kernel
theorem dX7_goes_100 : decode cX7_goes 100 = .ok (.iaload, 1) := by decide +kernel
theorem dX7_goes_101 : decode cX7_goes 101 = .ok (.iconst 1, 1) := by decide +kernel
theorem dX7_goes_102 : decode cX7_goes 102 = .ok (.iadd, 1) := by decide +kernel
theorem dX7_goes_103 : decode cX7_goes 103 = .ok (.iastore, 1) := by decide +kernel
theorem dX7_goes_104 : decode cX7_goes 104 = .ok (.aload_n 0, 1) := by decide +kernel
theorem dX7_goes_105 : decode cX7_goes 105 = .ok (.getfield 22, 3) := by decide +kernel
theorem dX7_goes_108 : decode cX7_goes 108 = .ok (.bipush 8, 2) := by decide +kernel
theorem dX7_goes_110 : decode cX7_goes 110 = .ok (.iload_n 1, 1) := by decide +kernel
theorem dX7_goes_111 : decode cX7_goes 111 = .ok (.imul, 1) := by decide +kernel
theorem dX7_goes_112 : decode cX7_goes 112 = .ok (.iload_n 2, 1) := by decide +kernel
theorem dX7_goes_113 : decode cX7_goes 113 = .ok (.iadd, 1) := by decide +kernel
theorem dX7_goes_114 : decode cX7_goes 114 = .ok (.iload 5, 2) := by decide +kernel
theorem dX7_goes_116 : decode cX7_goes 116 = .ok (.ifCond .eq 16, 3) := by decide +kernel
theorem dX7_goes_119 : decode cX7_goes 119 = .ok (.aload_n 0, 1) := by decide +kernel
theorem dX7_goes_120 : decode cX7_goes 120 = .ok (.getfield 16, 3) := by decide +kernel
theorem dX7_goes_123 : decode cX7_goes 123 = .ok (.iconst 5, 1) := by decide +kernel
theorem dX7_goes_124 : decode cX7_goes 124 = .ok (.iload_n 2, 1) := by decide +kernel
theorem dX7_goes_125 : decode cX7_goes 125 = .ok (.imul, 1) := by decide +kernel
theorem dX7_goes_126 : decode cX7_goes 126 = .ok (.iconst 3, 1) := by decide +kernel
theorem dX7_goes_127 : decode cX7_goes 127 = .ok (.iadd, 1) := by decide +kernel
theorem dX7_goes_128 : decode cX7_goes 128 = .ok (.iaload, 1) := by decide +kernel
theorem dX7_goes_129 : decode cX7_goes 129 = .ok (.goto 14, 3) := by decide +kernel
theorem dX7_goes_132 : decode cX7_goes 132 = .ok (.aload_n 0, 1) := by decide +kernel
theorem dX7_goes_133 : decode cX7_goes 133 = .ok (.getfield 22, 3) := by decide +kernel
theorem dX7_goes_136 : decode cX7_goes 136 = .ok (.bipush 8, 2) := by decide +kernel
theorem dX7_goes_138 : decode cX7_goes 138 = .ok (.iload_n 1, 1) := by decide +kernel
theorem dX7_goes_139 : decode cX7_goes 139 = .ok (.imul, 1) := by decide +kernel
theorem dX7_goes_140 : decode cX7_goes 140 = .ok (.iload_n 2, 1) := by decide +kernel
theorem dX7_goes_141 : decode cX7_goes 141 = .ok (.iadd, 1) := by decide +kernel
theorem dX7_goes_142 : decode cX7_goes 142 = .ok (.iaload, 1) := by decide +kernel
theorem dX7_goes_143 : decode cX7_goes 143 = .ok (.iastore, 1) := by decide +kernel
theorem dX7_goes_144 : decode cX7_goes 144 = .ok (.return_, 1) := by decide +kernel
theorem dX7_walk_0 : decode cX7_walk 0 = .ok (.aload_n 0, 1) := by decide +kernel
theorem dX7_walk_1 : decode cX7_walk 1 = .ok (.iload_n 1, 1) := by decide +kernel
theorem dX7_walk_2 : decode cX7_walk 2 = .ok (.invokevirtual 142, 3) := by decide +kernel
theorem dX7_walk_5 : decode cX7_walk 5 = .ok (.ifCond .eq 11, 3) := by decide +kernel
theorem dX7_walk_8 : decode cX7_walk 8 = .ok (.aload_n 0, 1) := by decide +kernel
theorem dX7_walk_9 : decode cX7_walk 9 = .ok (.iload_n 2, 1) := by decide +kernel
theorem dX7_walk_10 : decode cX7_walk 10 = .ok (.invokevirtual 125, 3) := by decide +kernel
theorem dX7_walk_13 : decode cX7_walk 13 = .ok (.ifCond .ne 6, 3) := by decide +kernel
theorem dX7_walk_16 : decode cX7_walk 16 = .ok (.bipush (-101), 2) := by decide +kernel
theorem dX7_walk_18 : decode cX7_walk 18 = .ok (.ireturn, 1) := by decide +kernel
theorem dX7_walk_19 : decode cX7_walk 19 = .ok (.aload_n 0, 1) := by decide +kernel
theorem dX7_walk_20 : decode cX7_walk 20 = .ok (.iload_n 1, 1) := by decide +kernel
theorem dX7_walk_21 : decode cX7_walk 21 = .ok (.iload_n 2, 1) := by decide +kernel
theorem dX7_walk_22 : decode cX7_walk 22 = .ok (.aload_n 0, 1) := by decide +kernel
theorem dX7_walk_23 : decode cX7_walk 23 = .ok (.getfield 16, 3) := by decide +kernel
theorem dX7_walk_26 : decode cX7_walk 26 = .ok (.iconst 5, 1) := by decide +kernel
theorem dX7_walk_27 : decode cX7_walk 27 = .ok (.iload_n 2, 1) := by decide +kernel
theorem dX7_walk_28 : decode cX7_walk 28 = .ok (.imul, 1) := by decide +kernel
theorem dX7_walk_29 : decode cX7_walk 29 = .ok (.iconst 3, 1) := by decide +kernel
theorem dX7_walk_30 : decode cX7_walk 30 = .ok (.iadd, 1) := by decide +kernel
theorem dX7_walk_31 : decode cX7_walk 31 = .ok (.iaload, 1) := by decide +kernel
theorem dX7_walk_32 : decode cX7_walk 32 = .ok (.invokevirtual 154, 3) := by decide +kernel
theorem dX7_walk_35 : decode cX7_walk 35 = .ok (.ifCond .ne 6, 3) := by decide +kernel
theorem dX7_walk_38 : decode cX7_walk 38 = .ok (.bipush (-103), 2) := by decide +kernel
theorem dX7_walk_40 : decode cX7_walk 40 = .ok (.ireturn, 1) := by decide +kernel
theorem dX7_walk_41 : decode cX7_walk 41 = .ok (.aload_n 0, 1) := by decide +kernel
theorem dX7_walk_42 : decode cX7_walk 42 = .ok (.iload_n 1, 1) := by decide +kernel
theorem dX7_walk_43 : decode cX7_walk 43 = .ok (.iload_n 2, 1) := by decide +kernel
theorem dX7_walk_44 : decode cX7_walk 44 = .ok (.aload_n 0, 1) := by decide +kernel
theorem dX7_walk_45 : decode cX7_walk 45 = .ok (.getfield 16, 3) := by decide +kernel
theorem dX7_walk_48 : decode cX7_walk 48 = .ok (.iconst 5, 1) := by decide +kernel
theorem dX7_walk_49 : decode cX7_walk 49 = .ok (.iload_n 2, 1) := by decide +kernel
theorem dX7_walk_50 : decode cX7_walk 50 = .ok (.imul, 1) := by decide +kernel
theorem dX7_walk_51 : decode cX7_walk 51 = .ok (.iconst 3, 1) := by decide +kernel
theorem dX7_walk_52 : decode cX7_walk 52 = .ok (.iadd, 1) := by decide +kernel
theorem dX7_walk_53 : decode cX7_walk 53 = .ok (.iaload, 1) := by decide +kernel
theorem dX7_walk_54 : decode cX7_walk 54 = .ok (.aload_n 0, 1) := by decide +kernel
theorem dX7_walk_55 : decode cX7_walk 55 = .ok (.iload_n 2, 1) := by decide +kernel
theorem dX7_walk_56 : decode cX7_walk 56 = .ok (.invokevirtual 122, 3) := by decide +kernel
theorem dX7_walk_59 : decode cX7_walk 59 = .ok (.invokevirtual 158, 3) := by decide +kernel
theorem dX7_walk_62 : decode cX7_walk 62 = .ok (.aload_n 0, 1) := by decide +kernel
theorem dX7_walk_63 : decode cX7_walk 63 = .ok (.dup, 1) := by decide +kernel
theorem dX7_walk_64 : decode cX7_walk 64 = .ok (.getfield 113, 3) := by decide +kernel
theorem dX7_walk_67 : decode cX7_walk 67 = .ok (.iconst 1, 1) := by decide +kernel
theorem dX7_walk_68 : decode cX7_walk 68 = .ok (.iadd, 1) := by decide +kernel
theorem dX7_walk_69 : decode cX7_walk 69 = .ok (.putfield 113, 3) := by decide +kernel
theorem dX7_walk_72 : decode cX7_walk 72 = .ok (.aload_n 0, 1) := by decide +kernel
theorem dX7_walk_73 : decode cX7_walk 73 = .ok (.getfield 19, 3) := by decide +kernel
theorem dX7_walk_76 : decode cX7_walk 76 = .ok (.iconst 5, 1) := by decide +kernel
theorem dX7_walk_77 : decode cX7_walk 77 = .ok (.iload_n 1, 1) := by decide +kernel
theorem dX7_walk_78 : decode cX7_walk 78 = .ok (.imul, 1) := by decide +kernel
theorem dX7_walk_79 : decode cX7_walk 79 = .ok (.iaload, 1) := by decide +kernel
theorem dX7_walk_80 : decode cX7_walk 80 = .ok (.ireturn, 1) := by decide +kernel
theorem dX7_together_0 : decode cX7_together 0 = .ok (.aload_n 0, 1) := by decide +kernel
theorem dX7_together_1 : decode cX7_together 1 = .ok (.iload_n 1, 1) := by decide +kernel
theorem dX7_together_2 : decode cX7_together 2 = .ok (.invokevirtual 142, 3) := by decide +kernel
theorem dX7_together_5 : decode cX7_together 5 = .ok (.ifCond .eq 24, 3) := by decide +kernel
theorem dX7_together_8 : decode cX7_together 8 = .ok (.aload_n 0, 1) := by decide +kernel
theorem dX7_together_9 : decode cX7_together 9 = .ok (.iload_n 2, 1) := by decide +kernel
theorem dX7_together_10 : decode cX7_together 10 = .ok (.invokevirtual 142, 3) := by decide +kernel
theorem dX7_together_13 : decode cX7_together 13 = .ok (.ifCond .eq 16, 3) := by decide +kernel
theorem dX7_together_16 : decode cX7_together 16 = .ok (.iload_n 1, 1) := by decide +kernel
theorem dX7_together_17 : decode cX7_together 17 = .ok (.iload_n 2, 1) := by decide +kernel
theorem dX7_together_18 : decode cX7_together 18 = .ok (.if_icmp .eq 11, 3) := by decide +kernel
theorem dX7_together_21 : decode cX7_together 21 = .ok (.aload_n 0, 1) := by decide +kernel
theorem dX7_together_22 : decode cX7_together 22 = .ok (.iload_n 3, 1) := by decide +kernel
theorem dX7_together_23 : decode cX7_together 23 = .ok (.invokevirtual 125, 3) := by decide +kernel
theorem dX7_together_26 : decode cX7_together 26 = .ok (.ifCond .ne 6, 3) := by decide +kernel
theorem dX7_together_29 : decode cX7_together 29 = .ok (.bipush (-101), 2) := by decide +kernel
theorem dX7_together_31 : decode cX7_together 31 = .ok (.ireturn, 1) := by decide +kernel
theorem dX7_together_32 : decode cX7_together 32 = .ok (.aload_n 0, 1) := by decide +kernel
theorem dX7_together_33 : decode cX7_together 33 = .ok (.getfield 16, 3) := by decide +kernel
theorem dX7_together_36 : decode cX7_together 36 = .ok (.iconst 5, 1) := by decide +kernel
theorem dX7_together_37 : decode cX7_together 37 = .ok (.iload_n 3, 1) := by decide +kernel
theorem dX7_together_38 : decode cX7_together 38 = .ok (.imul, 1) := by decide +kernel
theorem dX7_together_39 : decode cX7_together 39 = .ok (.iconst 3, 1) := by decide +kernel
theorem dX7_together_40 : decode cX7_together 40 = .ok (.iadd, 1) := by decide +kernel
theorem dX7_together_41 : decode cX7_together 41 = .ok (.iaload, 1) := by decide +kernel
theorem dX7_together_42 : decode cX7_together 42 = .ok (.iconst 1, 1) := by decide +kernel
theorem dX7_together_43 : decode cX7_together 43 = .ok (.iadd, 1) := by decide +kernel
theorem dX7_together_44 : decode cX7_together 44 = .ok (.iconst 2, 1) := by decide +kernel
theorem dX7_together_45 : decode cX7_together 45 = .ok (.idiv, 1) := by decide +kernel
theorem dX7_together_46 : decode cX7_together 46 = .ok (.istore 4, 2) := by decide +kernel
theorem dX7_together_48 : decode cX7_together 48 = .ok (.aload_n 0, 1) := by decide +kernel
theorem dX7_together_49 : decode cX7_together 49 = .ok (.getfield 19, 3) := by decide +kernel
theorem dX7_together_52 : decode cX7_together 52 = .ok (.iconst 5, 1) := by decide +kernel
theorem dX7_together_53 : decode cX7_together 53 = .ok (.iload_n 1, 1) := by decide +kernel
theorem dX7_together_54 : decode cX7_together 54 = .ok (.imul, 1) := by decide +kernel
theorem dX7_together_55 : decode cX7_together 55 = .ok (.iaload, 1) := by decide +kernel
theorem dX7_together_56 : decode cX7_together 56 = .ok (.aload_n 0, 1) := by decide +kernel
theorem dX7_together_57 : decode cX7_together 57 = .ok (.getfield 19, 3) := by decide +kernel
theorem dX7_together_60 : decode cX7_together 60 = .ok (.iconst 5, 1) := by decide +kernel
theorem dX7_together_61 : decode cX7_together 61 = .ok (.iload_n 2, 1) := by decide +kernel
theorem dX7_together_62 : decode cX7_together 62 = .ok (.imul, 1) := by decide +kernel
theorem dX7_together_63 : decode cX7_together 63 = .ok (.iaload, 1) := by decide +kernel
theorem dX7_together_64 : decode cX7_together 64 = .ok (.if_icmp .ne 25, 3) := by decide +kernel
theorem dX7_together_67 : decode cX7_together 67 = .ok (.aload_n 0, 1) := by decide +kernel
theorem dX7_together_68 : decode cX7_together 68 = .ok (.iload_n 1, 1) := by decide +kernel
theorem dX7_together_69 : decode cX7_together 69 = .ok (.iload_n 3, 1) := by decide +kernel
theorem dX7_together_70 : decode cX7_together 70 = .ok (.iload 4, 2) := by decide +kernel
theorem dX7_together_72 : decode cX7_together 72 = .ok (.invokevirtual 154, 3) := by decide +kernel
theorem dX7_together_75 : decode cX7_together 75 = .ok (.ifCond .eq 14, 3) := by decide +kernel
theorem dX7_together_78 : decode cX7_together 78 = .ok (.aload_n 0, 1) := by decide +kernel
theorem dX7_together_79 : decode cX7_together 79 = .ok (.iload_n 2, 1) := by decide +kernel
theorem dX7_together_80 : decode cX7_together 80 = .ok (.iload_n 3, 1) := by decide +kernel
theorem dX7_together_81 : decode cX7_together 81 = .ok (.iload 4, 2) := by decide +kernel
theorem dX7_together_83 : decode cX7_together 83 = .ok (.invokevirtual 154, 3) := by decide +kernel
theorem dX7_together_86 : decode cX7_together 86 = .ok (.ifCond .ne 6, 3) := by decide +kernel
theorem dX7_together_89 : decode cX7_together 89 = .ok (.bipush (-103), 2) := by decide +kernel
theorem dX7_together_91 : decode cX7_together 91 = .ok (.ireturn, 1) := by decide +kernel
theorem dX7_together_92 : decode cX7_together 92 = .ok (.aload_n 0, 1) := by decide +kernel
theorem dX7_together_93 : decode cX7_together 93 = .ok (.iload_n 1, 1) := by decide +kernel
theorem dX7_together_94 : decode cX7_together 94 = .ok (.iload_n 3, 1) := by decide +kernel
theorem dX7_together_95 : decode cX7_together 95 = .ok (.iload 4, 2) := by decide +kernel
theorem dX7_together_97 : decode cX7_together 97 = .ok (.aload_n 0, 1) := by decide +kernel
theorem dX7_together_98 : decode cX7_together 98 = .ok (.iload_n 3, 1) := by decide +kernel
theorem dX7_together_99 : decode cX7_together 99 = .ok (.invokevirtual 122, 3) := by decide +kernel
theorem dX7_together_102 : decode cX7_together 102 = .ok (.invokevirtual 158, 3) := by decide +kernel
theorem dX7_together_105 : decode cX7_together 105 = .ok (.aload_n 0, 1) := by decide +kernel
theorem dX7_together_106 : decode cX7_together 106 = .ok (.iload_n 2, 1) := by decide +kernel
theorem dX7_together_107 : decode cX7_together 107 = .ok (.iload_n 3, 1) := by decide +kernel
theorem dX7_together_108 : decode cX7_together 108 = .ok (.iload 4, 2) := by decide +kernel
theorem dX7_together_110 : decode cX7_together 110 = .ok (.aload_n 0, 1) := by decide +kernel
theorem dX7_together_111 : decode cX7_together 111 = .ok (.iload_n 3, 1) := by decide +kernel
theorem dX7_together_112 : decode cX7_together 112 = .ok (.invokevirtual 122, 3) := by decide +kernel
theorem dX7_together_115 : decode cX7_together 115 = .ok (.iconst 2, 1) := by decide +kernel
theorem dX7_together_116 : decode cX7_together 116 = .ok (.idiv, 1) := by decide +kernel
theorem dX7_together_117 : decode cX7_together 117 = .ok (.invokevirtual 158, 3) := by decide +kernel
theorem dX7_together_120 : decode cX7_together 120 = .ok (.aload_n 0, 1) := by decide +kernel
theorem dX7_together_121 : decode cX7_together 121 = .ok (.dup, 1) := by decide +kernel
theorem dX7_together_122 : decode cX7_together 122 = .ok (.getfield 113, 3) := by decide +kernel
theorem dX7_together_125 : decode cX7_together 125 = .ok (.iconst 1, 1) := by decide +kernel
theorem dX7_together_126 : decode cX7_together 126 = .ok (.iadd, 1) := by decide +kernel
theorem dX7_together_127 : decode cX7_together 127 = .ok (.putfield 113, 3) := by decide +kernel
theorem dX7_together_130 : decode cX7_together 130 = .ok (.aload_n 0, 1) := by decide +kernel
theorem dX7_together_131 : decode cX7_together 131 = .ok (.getfield 19, 3) := by decide +kernel
theorem dX7_together_134 : decode cX7_together 134 = .ok (.iconst 5, 1) := by decide +kernel
theorem dX7_together_135 : decode cX7_together 135 = .ok (.iload_n 1, 1) := by decide +kernel
theorem dX7_together_136 : decode cX7_together 136 = .ok (.imul, 1) := by decide +kernel
theorem dX7_together_137 : decode cX7_together 137 = .ok (.iaload, 1) := by decide +kernel
theorem dX7_together_138 : decode cX7_together 138 = .ok (.ireturn, 1) := by decide +kernel
theorem dX7_rests_0 : decode cX7_rests 0 = .ok (.aload_n 0, 1) := by decide +kernel
theorem dX7_rests_1 : decode cX7_rests 1 = .ok (.getfield 19, 3) := by decide +kernel
theorem dX7_rests_4 : decode cX7_rests 4 = .ok (.iconst 5, 1) := by decide +kernel
theorem dX7_rests_5 : decode cX7_rests 5 = .ok (.iload_n 1, 1) := by decide +kernel
theorem dX7_rests_6 : decode cX7_rests 6 = .ok (.imul, 1) := by decide +kernel
theorem dX7_rests_7 : decode cX7_rests 7 = .ok (.iconst 1, 1) := by decide +kernel
theorem dX7_rests_8 : decode cX7_rests 8 = .ok (.iadd, 1) := by decide +kernel
theorem dX7_rests_9 : decode cX7_rests 9 = .ok (.aload_n 0, 1) := by decide +kernel
theorem dX7_rests_10 : decode cX7_rests 10 = .ok (.getfield 19, 3) := by decide +kernel
theorem dX7_rests_13 : decode cX7_rests 13 = .ok (.iconst 5, 1) := by decide +kernel
theorem dX7_rests_14 : decode cX7_rests 14 = .ok (.iload_n 1, 1) := by decide +kernel
theorem dX7_rests_15 : decode cX7_rests 15 = .ok (.imul, 1) := by decide +kernel
theorem dX7_rests_16 : decode cX7_rests 16 = .ok (.iconst 1, 1) := by decide +kernel
theorem dX7_rests_17 : decode cX7_rests 17 = .ok (.iadd, 1) := by decide +kernel
theorem dX7_rests_18 : decode cX7_rests 18 = .ok (.iaload, 1) := by decide +kernel
theorem dX7_rests_19 : decode cX7_rests 19 = .ok (.iconst 5, 1) := by decide +kernel
theorem dX7_rests_20 : decode cX7_rests 20 = .ok (.if_icmp .ge 7, 3) := by decide +kernel
theorem dX7_rests_23 : decode cX7_rests 23 = .ok (.iconst 0, 1) := by decide +kernel
theorem dX7_rests_24 : decode cX7_rests 24 = .ok (.goto 15, 3) := by decide +kernel
theorem dX7_rests_27 : decode cX7_rests 27 = .ok (.aload_n 0, 1) := by decide +kernel
theorem dX7_rests_28 : decode cX7_rests 28 = .ok (.getfield 19, 3) := by decide +kernel
theorem dX7_rests_31 : decode cX7_rests 31 = .ok (.iconst 5, 1) := by decide +kernel
theorem dX7_rests_32 : decode cX7_rests 32 = .ok (.iload_n 1, 1) := by decide +kernel
theorem dX7_rests_33 : decode cX7_rests 33 = .ok (.imul, 1) := by decide +kernel
theorem dX7_rests_34 : decode cX7_rests 34 = .ok (.iconst 1, 1) := by decide +kernel
theorem dX7_rests_35 : decode cX7_rests 35 = .ok (.iadd, 1) := by decide +kernel
theorem dX7_rests_36 : decode cX7_rests 36 = .ok (.iaload, 1) := by decide +kernel
theorem dX7_rests_37 : decode cX7_rests 37 = .ok (.iconst 5, 1) := by decide +kernel
theorem dX7_rests_38 : decode cX7_rests 38 = .ok (.isub, 1) := by decide +kernel
theorem dX7_rests_39 : decode cX7_rests 39 = .ok (.iastore, 1) := by decide +kernel
theorem dX7_rests_40 : decode cX7_rests 40 = .ok (.return_, 1) := by decide +kernel
theorem dX7_rest_0 : decode cX7_rest 0 = .ok (.aload_n 0, 1) := by decide +kernel
theorem dX7_rest_1 : decode cX7_rest 1 = .ok (.iload_n 1, 1) := by decide +kernel
theorem dX7_rest_2 : decode cX7_rest 2 = .ok (.invokevirtual 142, 3) := by decide +kernel
theorem dX7_rest_5 : decode cX7_rest 5 = .ok (.ifCond .ne 6, 3) := by decide +kernel
theorem dX7_rest_8 : decode cX7_rest 8 = .ok (.bipush (-101), 2) := by decide +kernel
theorem dX7_rest_10 : decode cX7_rest 10 = .ok (.ireturn, 1) := by decide +kernel
theorem dX7_rest_11 : decode cX7_rest 11 = .ok (.aload_n 0, 1) := by decide +kernel
theorem dX7_rest_12 : decode cX7_rest 12 = .ok (.iload_n 1, 1) := by decide +kernel
theorem dX7_rest_13 : decode cX7_rest 13 = .ok (.invokevirtual 148, 3) := by decide +kernel
theorem dX7_rest_16 : decode cX7_rest 16 = .ok (.ifCond .eq 6, 3) := by decide +kernel
theorem dX7_rest_19 : decode cX7_rest 19 = .ok (.bipush (-103), 2) := by decide +kernel
theorem dX7_rest_21 : decode cX7_rest 21 = .ok (.ireturn, 1) := by decide +kernel
theorem dX7_rest_22 : decode cX7_rest 22 = .ok (.aload_n 0, 1) := by decide +kernel
theorem dX7_rest_23 : decode cX7_rest 23 = .ok (.iload_n 1, 1) := by decide +kernel
theorem dX7_rest_24 : decode cX7_rest 24 = .ok (.invokevirtual 162, 3) := by decide +kernel
theorem dX7_rest_27 : decode cX7_rest 27 = .ok (.aload_n 0, 1) := by decide +kernel
theorem dX7_rest_28 : decode cX7_rest 28 = .ok (.dup, 1) := by decide +kernel
theorem dX7_rest_29 : decode cX7_rest 29 = .ok (.getfield 113, 3) := by decide +kernel
theorem dX7_rest_32 : decode cX7_rest 32 = .ok (.iconst 1, 1) := by decide +kernel
theorem dX7_rest_33 : decode cX7_rest 33 = .ok (.iadd, 1) := by decide +kernel
theorem dX7_rest_34 : decode cX7_rest 34 = .ok (.putfield 113, 3) := by decide +kernel
theorem dX7_rest_37 : decode cX7_rest 37 = .ok (.aload_n 0, 1) := by decide +kernel
theorem dX7_rest_38 : decode cX7_rest 38 = .ok (.getfield 19, 3) := by decide +kernel
theorem dX7_rest_41 : decode cX7_rest 41 = .ok (.iconst 5, 1) := by decide +kernel
theorem dX7_rest_42 : decode cX7_rest 42 = .ok (.iload_n 1, 1) := by decide +kernel
theorem dX7_rest_43 : decode cX7_rest 43 = .ok (.imul, 1) := by decide +kernel
theorem dX7_rest_44 : decode cX7_rest 44 = .ok (.iconst 1, 1) := by decide +kernel
theorem dX7_rest_45 : decode cX7_rest 45 = .ok (.iadd, 1) := by decide +kernel
theorem dX7_rest_46 : decode cX7_rest 46 = .ok (.iaload, 1) := by decide +kernel
theorem dX7_rest_47 : decode cX7_rest 47 = .ok (.ireturn, 1) := by decide +kernel
theorem dX7_asks_0 : decode cX7_asks 0 = .ok (.aload_n 0, 1) := by decide +kernel
theorem dX7_asks_1 : decode cX7_asks 1 = .ok (.getfield 19, 3) := by decide +kernel
theorem dX7_asks_4 : decode cX7_asks 4 = .ok (.iconst 5, 1) := by decide +kernel
theorem dX7_asks_5 : decode cX7_asks 5 = .ok (.iload_n 1, 1) := by decide +kernel
theorem dX7_asks_6 : decode cX7_asks 6 = .ok (.imul, 1) := by decide +kernel
theorem dX7_asks_7 : decode cX7_asks 7 = .ok (.iconst 3, 1) := by decide +kernel
theorem dX7_asks_8 : decode cX7_asks 8 = .ok (.iadd, 1) := by decide +kernel
theorem dX7_asks_9 : decode cX7_asks 9 = .ok (.aload_n 0, 1) := by decide +kernel
theorem dX7_asks_10 : decode cX7_asks 10 = .ok (.getfield 19, 3) := by decide +kernel
theorem dX7_asks_13 : decode cX7_asks 13 = .ok (.iconst 5, 1) := by decide +kernel
theorem dX7_asks_14 : decode cX7_asks 14 = .ok (.iload_n 1, 1) := by decide +kernel
theorem dX7_asks_15 : decode cX7_asks 15 = .ok (.imul, 1) := by decide +kernel
theorem dX7_asks_16 : decode cX7_asks 16 = .ok (.iaload, 1) := by decide +kernel
theorem dX7_asks_17 : decode cX7_asks 17 = .ok (.iconst 5, 1) := by decide +kernel
theorem dX7_asks_18 : decode cX7_asks 18 = .ok (.if_icmp .ne 24, 3) := by decide +kernel
theorem dX7_asks_21 : decode cX7_asks 21 = .ok (.aload_n 0, 1) := by decide +kernel
theorem dX7_asks_22 : decode cX7_asks 22 = .ok (.getfield 19, 3) := by decide +kernel
theorem dX7_asks_25 : decode cX7_asks 25 = .ok (.iconst 5, 1) := by decide +kernel
theorem dX7_asks_26 : decode cX7_asks 26 = .ok (.iload_n 1, 1) := by decide +kernel
theorem dX7_asks_27 : decode cX7_asks 27 = .ok (.imul, 1) := by decide +kernel
theorem dX7_asks_28 : decode cX7_asks 28 = .ok (.iconst 2, 1) := by decide +kernel
theorem dX7_asks_29 : decode cX7_asks 29 = .ok (.iadd, 1) := by decide +kernel
theorem dX7_asks_30 : decode cX7_asks 30 = .ok (.iaload, 1) := by decide +kernel
theorem dX7_asks_31 : decode cX7_asks 31 = .ok (.aload_n 0, 1) := by decide +kernel
theorem dX7_asks_32 : decode cX7_asks 32 = .ok (.getfield 107, 3) := by decide +kernel
theorem dX7_asks_35 : decode cX7_asks 35 = .ok (.if_icmp .ne 7, 3) := by decide +kernel
theorem dX7_asks_38 : decode cX7_asks 38 = .ok (.iconst 1, 1) := by decide +kernel
theorem dX7_asks_39 : decode cX7_asks 39 = .ok (.goto 13, 3) := by decide +kernel
theorem dX7_asks_42 : decode cX7_asks 42 = .ok (.aload_n 0, 1) := by decide +kernel
theorem dX7_asks_43 : decode cX7_asks 43 = .ok (.getfield 19, 3) := by decide +kernel
theorem dX7_asks_46 : decode cX7_asks 46 = .ok (.iconst 5, 1) := by decide +kernel
theorem dX7_asks_47 : decode cX7_asks 47 = .ok (.iload_n 1, 1) := by decide +kernel
theorem dX7_asks_48 : decode cX7_asks 48 = .ok (.imul, 1) := by decide +kernel
theorem dX7_asks_49 : decode cX7_asks 49 = .ok (.iconst 3, 1) := by decide +kernel
theorem dX7_asks_50 : decode cX7_asks 50 = .ok (.iadd, 1) := by decide +kernel
theorem dX7_asks_51 : decode cX7_asks 51 = .ok (.iaload, 1) := by decide +kernel
theorem dX7_asks_52 : decode cX7_asks 52 = .ok (.iastore, 1) := by decide +kernel
theorem dX7_asks_53 : decode cX7_asks 53 = .ok (.return_, 1) := by decide +kernel
theorem dX7_enter_0 : decode cX7_enter 0 = .ok (.aload_n 0, 1) := by decide +kernel
theorem dX7_enter_1 : decode cX7_enter 1 = .ok (.iload_n 1, 1) := by decide +kernel
theorem dX7_enter_2 : decode cX7_enter 2 = .ok (.invokevirtual 142, 3) := by decide +kernel
theorem dX7_enter_5 : decode cX7_enter 5 = .ok (.ifCond .ne 6, 3) := by decide +kernel
theorem dX7_enter_8 : decode cX7_enter 8 = .ok (.bipush (-101), 2) := by decide +kernel
theorem dX7_enter_10 : decode cX7_enter 10 = .ok (.ireturn, 1) := by decide +kernel
theorem dX7_enter_11 : decode cX7_enter 11 = .ok (.aload_n 0, 1) := by decide +kernel
theorem dX7_enter_12 : decode cX7_enter 12 = .ok (.iload_n 1, 1) := by decide +kernel
theorem dX7_enter_13 : decode cX7_enter 13 = .ok (.invokevirtual 148, 3) := by decide +kernel
theorem dX7_enter_16 : decode cX7_enter 16 = .ok (.ifCond .ne 15, 3) := by decide +kernel
theorem dX7_enter_19 : decode cX7_enter 19 = .ok (.aload_n 0, 1) := by decide +kernel
theorem dX7_enter_20 : decode cX7_enter 20 = .ok (.getfield 19, 3) := by decide +kernel
theorem dX7_enter_23 : decode cX7_enter 23 = .ok (.iconst 5, 1) := by decide +kernel
theorem dX7_enter_24 : decode cX7_enter 24 = .ok (.iload_n 1, 1) := by decide +kernel
theorem dX7_enter_25 : decode cX7_enter 25 = .ok (.imul, 1) := by decide +kernel
theorem dX7_enter_26 : decode cX7_enter 26 = .ok (.iaload, 1) := by decide +kernel
theorem dX7_enter_27 : decode cX7_enter 27 = .ok (.iconst 5, 1) := by decide +kernel
theorem dX7_enter_28 : decode cX7_enter 28 = .ok (.if_icmp .eq 6, 3) := by decide +kernel
theorem dX7_enter_31 : decode cX7_enter 31 = .ok (.bipush (-103), 2) := by decide +kernel
theorem dX7_enter_33 : decode cX7_enter 33 = .ok (.ireturn, 1) := by decide +kernel
theorem dX7_enter_34 : decode cX7_enter 34 = .ok (.aload_n 0, 1) := by decide +kernel
theorem dX7_enter_35 : decode cX7_enter 35 = .ok (.iload_n 1, 1) := by decide +kernel
theorem dX7_enter_36 : decode cX7_enter 36 = .ok (.invokevirtual 166, 3) := by decide +kernel
theorem dX7_enter_39 : decode cX7_enter 39 = .ok (.aload_n 0, 1) := by decide +kernel
theorem dX7_enter_40 : decode cX7_enter 40 = .ok (.getfield 107, 3) := by decide +kernel
theorem dX7_enter_43 : decode cX7_enter 43 = .ok (.aload_n 0, 1) := by decide +kernel
theorem dX7_enter_44 : decode cX7_enter 44 = .ok (.getfield 19, 3) := by decide +kernel
theorem dX7_enter_47 : decode cX7_enter 47 = .ok (.iconst 5, 1) := by decide +kernel
theorem dX7_enter_48 : decode cX7_enter 48 = .ok (.iload_n 1, 1) := by decide +kernel
theorem dX7_enter_49 : decode cX7_enter 49 = .ok (.imul, 1) := by decide +kernel
theorem dX7_enter_50 : decode cX7_enter 50 = .ok (.iconst 2, 1) := by decide +kernel
theorem dX7_enter_51 : decode cX7_enter 51 = .ok (.iadd, 1) := by decide +kernel
theorem dX7_enter_52 : decode cX7_enter 52 = .ok (.iaload, 1) := by decide +kernel
theorem dX7_enter_53 : decode cX7_enter 53 = .ok (.isub, 1) := by decide +kernel
theorem dX7_enter_54 : decode cX7_enter 54 = .ok (.ireturn, 1) := by decide +kernel
theorem dX7_isFresh_0 : decode cX7_isFresh 0 = .ok (.iload_n 2, 1) := by decide +kernel
theorem dX7_isFresh_1 : decode cX7_isFresh 1 = .ok (.bipush 8, 2) := by decide +kernel
theorem dX7_isFresh_3 : decode cX7_isFresh 3 = .ok (.if_icmp .eq 27, 3) := by decide +kernel
theorem dX7_isFresh_6 : decode cX7_isFresh 6 = .ok (.aload_n 0, 1) := by decide +kernel
theorem dX7_isFresh_7 : decode cX7_isFresh 7 = .ok (.getfield 16, 3) := by decide +kernel
theorem dX7_isFresh_10 : decode cX7_isFresh 10 = .ok (.iconst 5, 1) := by decide +kernel
theorem dX7_isFresh_11 : decode cX7_isFresh 11 = .ok (.iload_n 2, 1) := by decide +kernel
theorem dX7_isFresh_12 : decode cX7_isFresh 12 = .ok (.imul, 1) := by decide +kernel
theorem dX7_isFresh_13 : decode cX7_isFresh 13 = .ok (.iconst 3, 1) := by decide +kernel
theorem dX7_isFresh_14 : decode cX7_isFresh 14 = .ok (.iadd, 1) := by decide +kernel
theorem dX7_isFresh_15 : decode cX7_isFresh 15 = .ok (.iaload, 1) := by decide +kernel
theorem dX7_isFresh_16 : decode cX7_isFresh 16 = .ok (.aload_n 0, 1) := by decide +kernel
theorem dX7_isFresh_17 : decode cX7_isFresh 17 = .ok (.getfield 22, 3) := by decide +kernel
theorem dX7_isFresh_20 : decode cX7_isFresh 20 = .ok (.bipush 8, 2) := by decide +kernel
theorem dX7_isFresh_22 : decode cX7_isFresh 22 = .ok (.iload_n 1, 1) := by decide +kernel
theorem dX7_isFresh_23 : decode cX7_isFresh 23 = .ok (.imul, 1) := by decide +kernel
theorem dX7_isFresh_24 : decode cX7_isFresh 24 = .ok (.iload_n 2, 1) := by decide +kernel
theorem dX7_isFresh_25 : decode cX7_isFresh 25 = .ok (.iadd, 1) := by decide +kernel
theorem dX7_isFresh_26 : decode cX7_isFresh 26 = .ok (.iaload, 1) := by decide +kernel
theorem dX7_isFresh_27 : decode cX7_isFresh 27 = .ok (.if_icmp .le 7, 3) := by decide +kernel
theorem dX7_isFresh_30 : decode cX7_isFresh 30 = .ok (.iconst 1, 1) := by decide +kernel
theorem dX7_isFresh_31 : decode cX7_isFresh 31 = .ok (.goto 4, 3) := by decide +kernel
theorem dX7_isFresh_34 : decode cX7_isFresh 34 = .ok (.iconst 0, 1) := by decide +kernel
theorem dX7_isFresh_35 : decode cX7_isFresh 35 = .ok (.ireturn, 1) := by decide +kernel
theorem dX7_relax_0 : decode cX7_relax 0 = .ok (.aload_n 0, 1) := by decide +kernel
theorem dX7_relax_1 : decode cX7_relax 1 = .ok (.getfield 25, 3) := by decide +kernel
theorem dX7_relax_4 : decode cX7_relax 4 = .ok (.iload_n 1, 1) := by decide +kernel
theorem dX7_relax_5 : decode cX7_relax 5 = .ok (.iaload, 1) := by decide +kernel
theorem dX7_relax_6 : decode cX7_relax 6 = .ok (.iconst (-1), 1) := by decide +kernel
theorem dX7_relax_7 : decode cX7_relax 7 = .ok (.if_icmp .eq 54, 3) := by decide +kernel
theorem dX7_relax_10 : decode cX7_relax 10 = .ok (.iload_n 2, 1) := by decide +kernel
theorem dX7_relax_11 : decode cX7_relax 11 = .ok (.aload_n 0, 1) := by decide +kernel
theorem dX7_relax_12 : decode cX7_relax 12 = .ok (.getfield 25, 3) := by decide +kernel
theorem dX7_relax_15 : decode cX7_relax 15 = .ok (.iload_n 1, 1) := by decide +kernel
theorem dX7_relax_16 : decode cX7_relax 16 = .ok (.iaload, 1) := by decide +kernel
theorem dX7_relax_17 : decode cX7_relax 17 = .ok (.if_icmp .lt 44, 3) := by decide +kernel
theorem dX7_relax_20 : decode cX7_relax 20 = .ok (.iload_n 2, 1) := by decide +kernel
theorem dX7_relax_21 : decode cX7_relax 21 = .ok (.aload_n 0, 1) := by decide +kernel
theorem dX7_relax_22 : decode cX7_relax 22 = .ok (.getfield 25, 3) := by decide +kernel
theorem dX7_relax_25 : decode cX7_relax 25 = .ok (.iload_n 1, 1) := by decide +kernel
theorem dX7_relax_26 : decode cX7_relax 26 = .ok (.iaload, 1) := by decide +kernel
theorem dX7_relax_27 : decode cX7_relax 27 = .ok (.if_icmp .ne 38, 3) := by decide +kernel
theorem dX7_relax_30 : decode cX7_relax 30 = .ok (.iload_n 3, 1) := by decide +kernel
theorem dX7_relax_31 : decode cX7_relax 31 = .ok (.aload_n 0, 1) := by decide +kernel
theorem dX7_relax_32 : decode cX7_relax 32 = .ok (.getfield 28, 3) := by decide +kernel
theorem dX7_relax_35 : decode cX7_relax 35 = .ok (.iload_n 1, 1) := by decide +kernel
theorem dX7_relax_36 : decode cX7_relax 36 = .ok (.iaload, 1) := by decide +kernel
theorem dX7_relax_37 : decode cX7_relax 37 = .ok (.if_icmp .lt 24, 3) := by decide +kernel
theorem dX7_relax_40 : decode cX7_relax 40 = .ok (.iload_n 3, 1) := by decide +kernel
theorem dX7_relax_41 : decode cX7_relax 41 = .ok (.aload_n 0, 1) := by decide +kernel
theorem dX7_relax_42 : decode cX7_relax 42 = .ok (.getfield 28, 3) := by decide +kernel
theorem dX7_relax_45 : decode cX7_relax 45 = .ok (.iload_n 1, 1) := by decide +kernel
theorem dX7_relax_46 : decode cX7_relax 46 = .ok (.iaload, 1) := by decide +kernel
theorem dX7_relax_47 : decode cX7_relax 47 = .ok (.if_icmp .ne 18, 3) := by decide +kernel
theorem dX7_relax_50 : decode cX7_relax 50 = .ok (.iload 4, 2) := by decide +kernel
theorem dX7_relax_52 : decode cX7_relax 52 = .ok (.aload_n 0, 1) := by decide +kernel
theorem dX7_relax_53 : decode cX7_relax 53 = .ok (.getfield 31, 3) := by decide +kernel
theorem dX7_relax_56 : decode cX7_relax 56 = .ok (.iload_n 1, 1) := by decide +kernel
theorem dX7_relax_57 : decode cX7_relax 57 = .ok (.iaload, 1) := by decide +kernel
theorem dX7_relax_58 : decode cX7_relax 58 = .ok (.if_icmp .ge 7, 3) := by decide +kernel
theorem dX7_relax_61 : decode cX7_relax 61 = .ok (.iconst 1, 1) := by decide +kernel
theorem dX7_relax_62 : decode cX7_relax 62 = .ok (.goto 4, 3) := by decide +kernel
theorem dX7_relax_65 : decode cX7_relax 65 = .ok (.iconst 0, 1) := by decide +kernel
theorem dX7_relax_66 : decode cX7_relax 66 = .ok (.istore 5, 2) := by decide +kernel
theorem dX7_relax_68 : decode cX7_relax 68 = .ok (.iload 5, 2) := by decide +kernel
theorem dX7_relax_70 : decode cX7_relax 70 = .ok (.ifCond .eq 25, 3) := by decide +kernel
theorem dX7_relax_73 : decode cX7_relax 73 = .ok (.aload_n 0, 1) := by decide +kernel
theorem dX7_relax_74 : decode cX7_relax 74 = .ok (.getfield 25, 3) := by decide +kernel
theorem dX7_relax_77 : decode cX7_relax 77 = .ok (.iload_n 1, 1) := by decide +kernel
theorem dX7_relax_78 : decode cX7_relax 78 = .ok (.iload_n 2, 1) := by decide +kernel
theorem dX7_relax_79 : decode cX7_relax 79 = .ok (.iastore, 1) := by decide +kernel
theorem dX7_relax_80 : decode cX7_relax 80 = .ok (.aload_n 0, 1) := by decide +kernel
theorem dX7_relax_81 : decode cX7_relax 81 = .ok (.getfield 28, 3) := by decide +kernel
theorem dX7_relax_84 : decode cX7_relax 84 = .ok (.iload_n 1, 1) := by decide +kernel
theorem dX7_relax_85 : decode cX7_relax 85 = .ok (.iload_n 3, 1) := by decide +kernel
theorem dX7_relax_86 : decode cX7_relax 86 = .ok (.iastore, 1) := by decide +kernel
theorem dX7_relax_87 : decode cX7_relax 87 = .ok (.aload_n 0, 1) := by decide +kernel
theorem dX7_relax_88 : decode cX7_relax 88 = .ok (.getfield 31, 3) := by decide +kernel
theorem dX7_relax_91 : decode cX7_relax 91 = .ok (.iload_n 1, 1) := by decide +kernel
theorem dX7_relax_92 : decode cX7_relax 92 = .ok (.iload 4, 2) := by decide +kernel
theorem dX7_relax_94 : decode cX7_relax 94 = .ok (.iastore, 1) := by decide +kernel
theorem dX7_relax_95 : decode cX7_relax 95 = .ok (.return_, 1) := by decide +kernel
theorem dX7_layWays_0 : decode cX7_layWays 0 = .ok (.iconst 0, 1) := by decide +kernel
theorem dX7_layWays_1 : decode cX7_layWays 1 = .ok (.istore_n 3, 1) := by decide +kernel
theorem dX7_layWays_2 : decode cX7_layWays 2 = .ok (.iload_n 3, 1) := by decide +kernel
theorem dX7_layWays_3 : decode cX7_layWays 3 = .ok (.sipush 3072, 3) := by decide +kernel
theorem dX7_layWays_6 : decode cX7_layWays 6 = .ok (.if_icmp .ge 16, 3) := by decide +kernel
theorem dX7_layWays_9 : decode cX7_layWays 9 = .ok (.aload_n 0, 1) := by decide +kernel
theorem dX7_layWays_10 : decode cX7_layWays 10 = .ok (.getfield 25, 3) := by decide +kernel
theorem dX7_layWays_13 : decode cX7_layWays 13 = .ok (.iload_n 3, 1) := by decide +kernel
theorem dX7_layWays_14 : decode cX7_layWays 14 = .ok (.iconst (-1), 1) := by decide +kernel
theorem dX7_layWays_15 : decode cX7_layWays 15 = .ok (.iastore, 1) := by decide +kernel
theorem dX7_layWays_16 : decode cX7_layWays 16 = .ok (.iinc 3 1, 3) := by decide +kernel
theorem dX7_layWays_19 : decode cX7_layWays 19 = .ok (.goto (-17), 3) := by decide +kernel
theorem dX7_layWays_22 : decode cX7_layWays 22 = .ok (.aload_n 0, 1) := by decide +kernel
theorem dX7_layWays_23 : decode cX7_layWays 23 = .ok (.sipush 512, 3) := by decide +kernel
theorem dX7_layWays_26 : decode cX7_layWays 26 = .ok (.aload_n 0, 1) := by decide +kernel
theorem dX7_layWays_27 : decode cX7_layWays 27 = .ok (.getfield 19, 3) := by decide +kernel
theorem dX7_layWays_30 : decode cX7_layWays 30 = .ok (.iconst 5, 1) := by decide +kernel
theorem dX7_layWays_31 : decode cX7_layWays 31 = .ok (.iload_n 1, 1) := by decide +kernel
theorem dX7_layWays_32 : decode cX7_layWays 32 = .ok (.imul, 1) := by decide +kernel
theorem dX7_layWays_33 : decode cX7_layWays 33 = .ok (.iaload, 1) := by decide +kernel
theorem dX7_layWays_34 : decode cX7_layWays 34 = .ok (.imul, 1) := by decide +kernel
theorem dX7_layWays_35 : decode cX7_layWays 35 = .ok (.iconst 0, 1) := by decide +kernel
theorem dX7_layWays_36 : decode cX7_layWays 36 = .ok (.iconst 0, 1) := by decide +kernel
theorem dX7_layWays_37 : decode cX7_layWays 37 = .ok (.iconst (-1), 1) := by decide +kernel
theorem dX7_layWays_38 : decode cX7_layWays 38 = .ok (.invokevirtual 169, 3) := by decide +kernel
theorem dX7_layWays_41 : decode cX7_layWays 41 = .ok (.iconst 0, 1) := by decide +kernel
theorem dX7_layWays_42 : decode cX7_layWays 42 = .ok (.istore_n 3, 1) := by decide +kernel
theorem dX7_layWays_43 : decode cX7_layWays 43 = .ok (.iload_n 3, 1) := by decide +kernel
theorem dX7_layWays_44 : decode cX7_layWays 44 = .ok (.iload_n 2, 1) := by decide +kernel
theorem dX7_layWays_45 : decode cX7_layWays 45 = .ok (.if_icmp .gt 196, 3) := by decide +kernel
theorem dX7_layWays_48 : decode cX7_layWays 48 = .ok (.iconst 0, 1) := by decide +kernel
theorem dX7_layWays_49 : decode cX7_layWays 49 = .ok (.istore 4, 2) := by decide +kernel
theorem dX7_layWays_51 : decode cX7_layWays 51 = .ok (.iload 4, 2) := by decide +kernel
theorem dX7_layWays_53 : decode cX7_layWays 53 = .ok (.sipush 3072, 3) := by decide +kernel
theorem dX7_layWays_56 : decode cX7_layWays 56 = .ok (.if_icmp .ge 179, 3) := by decide +kernel
theorem dX7_layWays_59 : decode cX7_layWays 59 = .ok (.aload_n 0, 1) := by decide +kernel
theorem dX7_layWays_60 : decode cX7_layWays 60 = .ok (.getfield 25, 3) := by decide +kernel
theorem dX7_layWays_63 : decode cX7_layWays 63 = .ok (.iload 4, 2) := by decide +kernel
theorem dX7_layWays_65 : decode cX7_layWays 65 = .ok (.iaload, 1) := by decide +kernel
theorem dX7_layWays_66 : decode cX7_layWays 66 = .ok (.iload_n 3, 1) := by decide +kernel
theorem dX7_layWays_67 : decode cX7_layWays 67 = .ok (.if_icmp .ne 162, 3) := by decide +kernel
theorem dX7_layWays_70 : decode cX7_layWays 70 = .ok (.iconst 0, 1) := by decide +kernel
theorem dX7_layWays_71 : decode cX7_layWays 71 = .ok (.istore 5, 2) := by decide +kernel
theorem dX7_layWays_73 : decode cX7_layWays 73 = .ok (.iload 5, 2) := by decide +kernel
theorem dX7_layWays_75 : decode cX7_layWays 75 = .ok (.aload_n 0, 1) := by decide +kernel
theorem dX7_layWays_76 : decode cX7_layWays 76 = .ok (.getfield 172, 3) := by decide +kernel
theorem dX7_layWays_79 : decode cX7_layWays 79 = .ok (.if_icmp .ge 150, 3) := by decide +kernel
theorem dX7_layWays_82 : decode cX7_layWays 82 = .ok (.iload 5, 2) := by decide +kernel
theorem dX7_layWays_84 : decode cX7_layWays 84 = .ok (.aload_n 0, 1) := by decide +kernel
theorem dX7_layWays_85 : decode cX7_layWays 85 = .ok (.getfield 104, 3) := by decide +kernel
theorem dX7_layWays_88 : decode cX7_layWays 88 = .ok (.if_icmp .ne 8, 3) := by decide +kernel
theorem dX7_layWays_91 : decode cX7_layWays 91 = .ok (.bipush 8, 2) := by decide +kernel
theorem dX7_layWays_93 : decode cX7_layWays 93 = .ok (.goto 5, 3) := by decide +kernel
theorem dX7_layWays_96 : decode cX7_layWays 96 = .ok (.iload 5, 2) := by decide +kernel
theorem dX7_layWays_98 : decode cX7_layWays 98 = .ok (.istore 6, 2) := by decide +kernel
theorem dX7_layWays_100 : decode cX7_layWays 100 = .ok (.aload_n 0, 1) := by decide +kernel
theorem dX7_layWays_101 : decode cX7_layWays 101 = .ok (.iload 6, 2) := by decide +kernel
theorem dX7_layWays_103 : decode cX7_layWays 103 = .ok (.iload 4, 2) := by decide +kernel
theorem dX7_layWays_105 : decode cX7_layWays 105 = .ok (.sipush 512, 3) := by decide +kernel
theorem dX7_layWays_108 : decode cX7_layWays 108 = .ok (.idiv, 1) := by decide +kernel
theorem dX7_layWays_109 : decode cX7_layWays 109 = .ok (.invokevirtual 151, 3) := by decide +kernel
theorem dX7_layWays_112 : decode cX7_layWays 112 = .ok (.istore 7, 2) := by decide +kernel
theorem dX7_layWays_114 : decode cX7_layWays 114 = .ok (.iload_n 3, 1) := by decide +kernel
theorem dX7_layWays_115 : decode cX7_layWays 115 = .ok (.aload_n 0, 1) := by decide +kernel
theorem dX7_layWays_116 : decode cX7_layWays 116 = .ok (.getfield 16, 3) := by decide +kernel
theorem dX7_layWays_119 : decode cX7_layWays 119 = .ok (.iconst 5, 1) := by decide +kernel
theorem dX7_layWays_120 : decode cX7_layWays 120 = .ok (.iload 6, 2) := by decide +kernel
theorem dX7_layWays_122 : decode cX7_layWays 122 = .ok (.imul, 1) := by decide +kernel
theorem dX7_layWays_123 : decode cX7_layWays 123 = .ok (.iconst 3, 1) := by decide +kernel
theorem dX7_layWays_124 : decode cX7_layWays 124 = .ok (.iadd, 1) := by decide +kernel
theorem dX7_layWays_125 : decode cX7_layWays 125 = .ok (.iaload, 1) := by decide +kernel
theorem dX7_layWays_126 : decode cX7_layWays 126 = .ok (.iadd, 1) := by decide +kernel
theorem dX7_layWays_127 : decode cX7_layWays 127 = .ok (.istore 8, 2) := by decide +kernel
theorem dX7_layWays_129 : decode cX7_layWays 129 = .ok (.iload 6, 2) := by decide +kernel
theorem dX7_layWays_131 : decode cX7_layWays 131 = .ok (.aload_n 0, 1) := by decide +kernel
theorem dX7_layWays_132 : decode cX7_layWays 132 = .ok (.getfield 175, 3) := by decide +kernel
theorem dX7_layWays_135 : decode cX7_layWays 135 = .ok (.if_icmp .eq 88, 3) := by decide +kernel
theorem dX7_layWays_138 : decode cX7_layWays 138 = .ok (.iload 7, 2) := by decide +kernel
theorem dX7_layWays_140 : decode cX7_layWays 140 = .ok (.iconst (-1), 1) := by decide +kernel
theorem dX7_layWays_141 : decode cX7_layWays 141 = .ok (.if_icmp .eq 82, 3) := by decide +kernel
theorem dX7_layWays_144 : decode cX7_layWays 144 = .ok (.iload 8, 2) := by decide +kernel
theorem dX7_layWays_146 : decode cX7_layWays 146 = .ok (.iload_n 2, 1) := by decide +kernel
theorem dX7_layWays_147 : decode cX7_layWays 147 = .ok (.if_icmp .gt 76, 3) := by decide +kernel
theorem dX7_layWays_150 : decode cX7_layWays 150 = .ok (.iload 4, 2) := by decide +kernel
theorem dX7_layWays_152 : decode cX7_layWays 152 = .ok (.sipush 512, 3) := by decide +kernel
theorem dX7_layWays_155 : decode cX7_layWays 155 = .ok (.irem, 1) := by decide +kernel
theorem dX7_layWays_156 : decode cX7_layWays 156 = .ok (.aload_n 0, 1) := by decide +kernel
theorem dX7_layWays_157 : decode cX7_layWays 157 = .ok (.iload_n 1, 1) := by decide +kernel
theorem dX7_layWays_158 : decode cX7_layWays 158 = .ok (.iload 6, 2) := by decide +kernel
theorem dX7_layWays_160 : decode cX7_layWays 160 = .ok (.invokevirtual 178, 3) := by decide +kernel
theorem dX7_layWays_163 : decode cX7_layWays 163 = .ok (.ifCond .eq 10, 3) := by decide +kernel
theorem dX7_layWays_166 : decode cX7_layWays 166 = .ok (.iconst 1, 1) := by decide +kernel
theorem dX7_layWays_167 : decode cX7_layWays 167 = .ok (.iload 6, 2) := by decide +kernel
theorem dX7_layWays_169 : decode cX7_layWays 169 = .ok (.ishl, 1) := by decide +kernel
theorem dX7_layWays_170 : decode cX7_layWays 170 = .ok (.goto 4, 3) := by decide +kernel
theorem dX7_layWays_173 : decode cX7_layWays 173 = .ok (.iconst 0, 1) := by decide +kernel
theorem dX7_layWays_174 : decode cX7_layWays 174 = .ok (.ior, 1) := by decide +kernel
theorem dX7_layWays_175 : decode cX7_layWays 175 = .ok (.istore 9, 2) := by decide +kernel
theorem dX7_layWays_177 : decode cX7_layWays 177 = .ok (.aload_n 0, 1) := by decide +kernel
theorem dX7_layWays_178 : decode cX7_layWays 178 = .ok (.sipush 512, 3) := by decide +kernel
theorem dX7_layWays_181 : decode cX7_layWays 181 = .ok (.iload 7, 2) := by decide +kernel
theorem dX7_layWays_183 : decode cX7_layWays 183 = .ok (.imul, 1) := by decide +kernel
theorem dX7_layWays_184 : decode cX7_layWays 184 = .ok (.iload 9, 2) := by decide +kernel
theorem dX7_layWays_186 : decode cX7_layWays 186 = .ok (.iadd, 1) := by decide +kernel
theorem dX7_layWays_187 : decode cX7_layWays 187 = .ok (.iload 8, 2) := by decide +kernel
theorem dX7_layWays_189 : decode cX7_layWays 189 = .ok (.aload_n 0, 1) := by decide +kernel
theorem dX7_layWays_190 : decode cX7_layWays 190 = .ok (.getfield 28, 3) := by decide +kernel
theorem dX7_layWays_193 : decode cX7_layWays 193 = .ok (.iload 4, 2) := by decide +kernel
theorem dX7_layWays_195 : decode cX7_layWays 195 = .ok (.iaload, 1) := by decide +kernel
theorem dX7_layWays_196 : decode cX7_layWays 196 = .ok (.iconst 1, 1) := by decide +kernel
theorem dX7_layWays_197 : decode cX7_layWays 197 = .ok (.iadd, 1) := by decide +kernel
theorem dX7_layWays_198 : decode cX7_layWays 198 = .ok (.aload_n 0, 1) := by decide +kernel
theorem dX7_layWays_199 : decode cX7_layWays 199 = .ok (.getfield 28, 3) := by decide +kernel
theorem dX7_layWays_202 : decode cX7_layWays 202 = .ok (.iload 4, 2) := by decide +kernel
theorem dX7_layWays_204 : decode cX7_layWays 204 = .ok (.iaload, 1) := by decide +kernel
theorem dX7_layWays_205 : decode cX7_layWays 205 = .ok (.ifCond .ne 8, 3) := by decide +kernel
theorem dX7_layWays_208 : decode cX7_layWays 208 = .ok (.iload 6, 2) := by decide +kernel
theorem dX7_layWays_210 : decode cX7_layWays 210 = .ok (.goto 10, 3) := by decide +kernel
theorem dX7_layWays_213 : decode cX7_layWays 213 = .ok (.aload_n 0, 1) := by decide +kernel
theorem dX7_layWays_214 : decode cX7_layWays 214 = .ok (.getfield 31, 3) := by decide +kernel
theorem dX7_layWays_217 : decode cX7_layWays 217 = .ok (.iload 4, 2) := by decide +kernel
theorem dX7_layWays_219 : decode cX7_layWays 219 = .ok (.iaload, 1) := by decide +kernel
theorem dX7_layWays_220 : decode cX7_layWays 220 = .ok (.invokevirtual 169, 3) := by decide +kernel
theorem dX7_layWays_223 : decode cX7_layWays 223 = .ok (.iinc 5 1, 3) := by decide +kernel
theorem dX7_layWays_226 : decode cX7_layWays 226 = .ok (.goto (-153), 3) := by decide +kernel
theorem dX7_layWays_229 : decode cX7_layWays 229 = .ok (.iinc 4 1, 3) := by decide +kernel
theorem dX7_layWays_232 : decode cX7_layWays 232 = .ok (.goto (-181), 3) := by decide +kernel
theorem dX7_layWays_235 : decode cX7_layWays 235 = .ok (.iinc 3 1, 3) := by decide +kernel
theorem dX7_layWays_238 : decode cX7_layWays 238 = .ok (.goto (-195), 3) := by decide +kernel
theorem dX7_layWays_241 : decode cX7_layWays 241 = .ok (.return_, 1) := by decide +kernel
theorem dX7_countedBy_0 : decode cX7_countedBy 0 = .ok (.aload_n 0, 1) := by decide +kernel
theorem dX7_countedBy_1 : decode cX7_countedBy 1 = .ok (.getfield 19, 3) := by decide +kernel
theorem dX7_countedBy_4 : decode cX7_countedBy 4 = .ok (.iconst 5, 1) := by decide +kernel
theorem dX7_countedBy_5 : decode cX7_countedBy 5 = .ok (.iload_n 1, 1) := by decide +kernel
theorem dX7_countedBy_6 : decode cX7_countedBy 6 = .ok (.imul, 1) := by decide +kernel
theorem dX7_countedBy_7 : decode cX7_countedBy 7 = .ok (.iconst 2, 1) := by decide +kernel
theorem dX7_countedBy_8 : decode cX7_countedBy 8 = .ok (.iadd, 1) := by decide +kernel
theorem dX7_countedBy_9 : decode cX7_countedBy 9 = .ok (.iaload, 1) := by decide +kernel
theorem dX7_countedBy_10 : decode cX7_countedBy 10 = .ok (.istore_n 3, 1) := by decide +kernel
theorem dX7_countedBy_11 : decode cX7_countedBy 11 = .ok (.iconst 0, 1) := by decide +kernel
theorem dX7_countedBy_12 : decode cX7_countedBy 12 = .ok (.istore 4, 2) := by decide +kernel
theorem dX7_countedBy_14 : decode cX7_countedBy 14 = .ok (.iload 4, 2) := by decide +kernel
theorem dX7_countedBy_16 : decode cX7_countedBy 16 = .ok (.bipush 9, 2) := by decide +kernel
theorem dX7_countedBy_18 : decode cX7_countedBy 18 = .ok (.if_icmp .ge 42, 3) := by decide +kernel
theorem dX7_countedBy_21 : decode cX7_countedBy 21 = .ok (.iload_n 3, 1) := by decide +kernel
theorem dX7_countedBy_22 : decode cX7_countedBy 22 = .ok (.iload_n 2, 1) := by decide +kernel
theorem dX7_countedBy_23 : decode cX7_countedBy 23 = .ok (.iload 4, 2) := by decide +kernel
theorem dX7_countedBy_25 : decode cX7_countedBy 25 = .ok (.ishr, 1) := by decide +kernel
theorem dX7_countedBy_26 : decode cX7_countedBy 26 = .ok (.iconst 1, 1) := by decide +kernel
theorem dX7_countedBy_27 : decode cX7_countedBy 27 = .ok (.iand, 1) := by decide +kernel
theorem dX7_countedBy_28 : decode cX7_countedBy 28 = .ok (.ifCond .ne 7, 3) := by decide +kernel
theorem dX7_countedBy_31 : decode cX7_countedBy 31 = .ok (.iconst 0, 1) := by decide +kernel
theorem dX7_countedBy_32 : decode cX7_countedBy 32 = .ok (.goto 20, 3) := by decide +kernel
theorem dX7_countedBy_35 : decode cX7_countedBy 35 = .ok (.iload 4, 2) := by decide +kernel
theorem dX7_countedBy_37 : decode cX7_countedBy 37 = .ok (.bipush 8, 2) := by decide +kernel
theorem dX7_countedBy_39 : decode cX7_countedBy 39 = .ok (.if_icmp .ne 7, 3) := by decide +kernel
theorem dX7_countedBy_42 : decode cX7_countedBy 42 = .ok (.iconst 2, 1) := by decide +kernel
theorem dX7_countedBy_43 : decode cX7_countedBy 43 = .ok (.goto 9, 3) := by decide +kernel
theorem dX7_countedBy_46 : decode cX7_countedBy 46 = .ok (.aload_n 0, 1) := by decide +kernel
theorem dX7_countedBy_47 : decode cX7_countedBy 47 = .ok (.iload 4, 2) := by decide +kernel
theorem dX7_countedBy_49 : decode cX7_countedBy 49 = .ok (.invokevirtual 122, 3) := by decide +kernel
theorem dX7_countedBy_52 : decode cX7_countedBy 52 = .ok (.iadd, 1) := by decide +kernel
theorem dX7_countedBy_53 : decode cX7_countedBy 53 = .ok (.istore_n 3, 1) := by decide +kernel
theorem dX7_countedBy_54 : decode cX7_countedBy 54 = .ok (.iinc 4 1, 3) := by decide +kernel
theorem dX7_countedBy_57 : decode cX7_countedBy 57 = .ok (.goto (-43), 3) := by decide +kernel
theorem dX7_countedBy_60 : decode cX7_countedBy 60 = .ok (.iload_n 3, 1) := by decide +kernel
theorem dX7_countedBy_61 : decode cX7_countedBy 61 = .ok (.ireturn, 1) := by decide +kernel
theorem dX7_bestAt_0 : decode cX7_bestAt 0 = .ok (.iconst (-1), 1) := by decide +kernel
theorem dX7_bestAt_1 : decode cX7_bestAt 1 = .ok (.istore_n 2, 1) := by decide +kernel
theorem dX7_bestAt_2 : decode cX7_bestAt 2 = .ok (.iconst 0, 1) := by decide +kernel
theorem dX7_bestAt_3 : decode cX7_bestAt 3 = .ok (.istore_n 3, 1) := by decide +kernel
theorem dX7_bestAt_4 : decode cX7_bestAt 4 = .ok (.iload_n 3, 1) := by decide +kernel
theorem dX7_bestAt_5 : decode cX7_bestAt 5 = .ok (.sipush 512, 3) := by decide +kernel
theorem dX7_bestAt_8 : decode cX7_bestAt 8 = .ok (.if_icmp .ge 144, 3) := by decide +kernel
theorem dX7_bestAt_11 : decode cX7_bestAt 11 = .ok (.sipush 2560, 3) := by decide +kernel
theorem dX7_bestAt_14 : decode cX7_bestAt 14 = .ok (.iload_n 3, 1) := by decide +kernel
theorem dX7_bestAt_15 : decode cX7_bestAt 15 = .ok (.iadd, 1) := by decide +kernel
theorem dX7_bestAt_16 : decode cX7_bestAt 16 = .ok (.istore 4, 2) := by decide +kernel
theorem dX7_bestAt_18 : decode cX7_bestAt 18 = .ok (.aload_n 0, 1) := by decide +kernel
theorem dX7_bestAt_19 : decode cX7_bestAt 19 = .ok (.getfield 25, 3) := by decide +kernel
theorem dX7_bestAt_22 : decode cX7_bestAt 22 = .ok (.iload 4, 2) := by decide +kernel
theorem dX7_bestAt_24 : decode cX7_bestAt 24 = .ok (.iaload, 1) := by decide +kernel
theorem dX7_bestAt_25 : decode cX7_bestAt 25 = .ok (.iconst (-1), 1) := by decide +kernel
theorem dX7_bestAt_26 : decode cX7_bestAt 26 = .ok (.if_icmp .eq 120, 3) := by decide +kernel
theorem dX7_bestAt_29 : decode cX7_bestAt 29 = .ok (.aload_n 0, 1) := by decide +kernel
theorem dX7_bestAt_30 : decode cX7_bestAt 30 = .ok (.iload_n 1, 1) := by decide +kernel
theorem dX7_bestAt_31 : decode cX7_bestAt 31 = .ok (.iload_n 3, 1) := by decide +kernel
theorem dX7_bestAt_32 : decode cX7_bestAt 32 = .ok (.invokevirtual 182, 3) := by decide +kernel
theorem dX7_bestAt_35 : decode cX7_bestAt 35 = .ok (.aload_n 0, 1) := by decide +kernel
theorem dX7_bestAt_36 : decode cX7_bestAt 36 = .ok (.getfield 107, 3) := by decide +kernel
theorem dX7_bestAt_39 : decode cX7_bestAt 39 = .ok (.if_icmp .ne 107, 3) := by decide +kernel
theorem dX7_bestAt_42 : decode cX7_bestAt 42 = .ok (.iload_n 2, 1) := by decide +kernel
theorem dX7_bestAt_43 : decode cX7_bestAt 43 = .ok (.iconst (-1), 1) := by decide +kernel
theorem dX7_bestAt_44 : decode cX7_bestAt 44 = .ok (.if_icmp .eq 83, 3) := by decide +kernel
theorem dX7_bestAt_47 : decode cX7_bestAt 47 = .ok (.aload_n 0, 1) := by decide +kernel
theorem dX7_bestAt_48 : decode cX7_bestAt 48 = .ok (.getfield 25, 3) := by decide +kernel
theorem dX7_bestAt_51 : decode cX7_bestAt 51 = .ok (.iload 4, 2) := by decide +kernel
theorem dX7_bestAt_53 : decode cX7_bestAt 53 = .ok (.iaload, 1) := by decide +kernel
theorem dX7_bestAt_54 : decode cX7_bestAt 54 = .ok (.aload_n 0, 1) := by decide +kernel
theorem dX7_bestAt_55 : decode cX7_bestAt 55 = .ok (.getfield 25, 3) := by decide +kernel
theorem dX7_bestAt_58 : decode cX7_bestAt 58 = .ok (.iload_n 2, 1) := by decide +kernel
theorem dX7_bestAt_59 : decode cX7_bestAt 59 = .ok (.iaload, 1) := by decide +kernel
theorem dX7_bestAt_60 : decode cX7_bestAt 60 = .ok (.if_icmp .lt 67, 3) := by decide +kernel
theorem dX7_bestAt_63 : decode cX7_bestAt 63 = .ok (.aload_n 0, 1) := by decide +kernel
theorem dX7_bestAt_64 : decode cX7_bestAt 64 = .ok (.getfield 25, 3) := by decide +kernel
theorem dX7_bestAt_67 : decode cX7_bestAt 67 = .ok (.iload 4, 2) := by decide +kernel
theorem dX7_bestAt_69 : decode cX7_bestAt 69 = .ok (.iaload, 1) := by decide +kernel
theorem dX7_bestAt_70 : decode cX7_bestAt 70 = .ok (.aload_n 0, 1) := by decide +kernel
theorem dX7_bestAt_71 : decode cX7_bestAt 71 = .ok (.getfield 25, 3) := by decide +kernel
theorem dX7_bestAt_74 : decode cX7_bestAt 74 = .ok (.iload_n 2, 1) := by decide +kernel
theorem dX7_bestAt_75 : decode cX7_bestAt 75 = .ok (.iaload, 1) := by decide +kernel
theorem dX7_bestAt_76 : decode cX7_bestAt 76 = .ok (.if_icmp .ne 55, 3) := by decide +kernel
theorem dX7_bestAt_79 : decode cX7_bestAt 79 = .ok (.aload_n 0, 1) := by decide +kernel
theorem dX7_bestAt_80 : decode cX7_bestAt 80 = .ok (.getfield 28, 3) := by decide +kernel
theorem dX7_bestAt_83 : decode cX7_bestAt 83 = .ok (.iload 4, 2) := by decide +kernel
theorem dX7_bestAt_85 : decode cX7_bestAt 85 = .ok (.iaload, 1) := by decide +kernel
theorem dX7_bestAt_86 : decode cX7_bestAt 86 = .ok (.aload_n 0, 1) := by decide +kernel
theorem dX7_bestAt_87 : decode cX7_bestAt 87 = .ok (.getfield 28, 3) := by decide +kernel
theorem dX7_bestAt_90 : decode cX7_bestAt 90 = .ok (.iload_n 2, 1) := by decide +kernel
theorem dX7_bestAt_91 : decode cX7_bestAt 91 = .ok (.iaload, 1) := by decide +kernel
theorem dX7_bestAt_92 : decode cX7_bestAt 92 = .ok (.if_icmp .lt 35, 3) := by decide +kernel
theorem dX7_bestAt_95 : decode cX7_bestAt 95 = .ok (.aload_n 0, 1) := by decide +kernel
theorem dX7_bestAt_96 : decode cX7_bestAt 96 = .ok (.getfield 28, 3) := by decide +kernel
theorem dX7_bestAt_99 : decode cX7_bestAt 99 = .ok (.iload 4, 2) := by decide +kernel
theorem dX7_bestAt_101 : decode cX7_bestAt 101 = .ok (.iaload, 1) := by decide +kernel
theorem dX7_bestAt_102 : decode cX7_bestAt 102 = .ok (.aload_n 0, 1) := by decide +kernel
theorem dX7_bestAt_103 : decode cX7_bestAt 103 = .ok (.getfield 28, 3) := by decide +kernel
theorem dX7_bestAt_106 : decode cX7_bestAt 106 = .ok (.iload_n 2, 1) := by decide +kernel
theorem dX7_bestAt_107 : decode cX7_bestAt 107 = .ok (.iaload, 1) := by decide +kernel
theorem dX7_bestAt_108 : decode cX7_bestAt 108 = .ok (.if_icmp .ne 23, 3) := by decide +kernel
theorem dX7_bestAt_111 : decode cX7_bestAt 111 = .ok (.aload_n 0, 1) := by decide +kernel
theorem dX7_bestAt_112 : decode cX7_bestAt 112 = .ok (.getfield 31, 3) := by decide +kernel
theorem dX7_bestAt_115 : decode cX7_bestAt 115 = .ok (.iload 4, 2) := by decide +kernel
theorem dX7_bestAt_117 : decode cX7_bestAt 117 = .ok (.iaload, 1) := by decide +kernel
theorem dX7_bestAt_118 : decode cX7_bestAt 118 = .ok (.aload_n 0, 1) := by decide +kernel
theorem dX7_bestAt_119 : decode cX7_bestAt 119 = .ok (.getfield 31, 3) := by decide +kernel
theorem dX7_bestAt_122 : decode cX7_bestAt 122 = .ok (.iload_n 2, 1) := by decide +kernel
theorem dX7_bestAt_123 : decode cX7_bestAt 123 = .ok (.iaload, 1) := by decide +kernel
theorem dX7_bestAt_124 : decode cX7_bestAt 124 = .ok (.if_icmp .ge 7, 3) := by decide +kernel
theorem dX7_bestAt_127 : decode cX7_bestAt 127 = .ok (.iconst 1, 1) := by decide +kernel
theorem dX7_bestAt_128 : decode cX7_bestAt 128 = .ok (.goto 4, 3) := by decide +kernel
theorem dX7_bestAt_131 : decode cX7_bestAt 131 = .ok (.iconst 0, 1) := by decide +kernel
theorem dX7_bestAt_132 : decode cX7_bestAt 132 = .ok (.istore 5, 2) := by decide +kernel
theorem dX7_bestAt_134 : decode cX7_bestAt 134 = .ok (.iload 5, 2) := by decide +kernel
theorem dX7_bestAt_136 : decode cX7_bestAt 136 = .ok (.ifCond .eq 8, 3) := by decide +kernel
theorem dX7_bestAt_139 : decode cX7_bestAt 139 = .ok (.iload 4, 2) := by decide +kernel
theorem dX7_bestAt_141 : decode cX7_bestAt 141 = .ok (.goto 4, 3) := by decide +kernel
theorem dX7_bestAt_144 : decode cX7_bestAt 144 = .ok (.iload_n 2, 1) := by decide +kernel
theorem dX7_bestAt_145 : decode cX7_bestAt 145 = .ok (.istore_n 2, 1) := by decide +kernel
theorem dX7_bestAt_146 : decode cX7_bestAt 146 = .ok (.iinc 3 1, 3) := by decide +kernel
theorem dX7_bestAt_149 : decode cX7_bestAt 149 = .ok (.goto (-145), 3) := by decide +kernel
theorem dX7_bestAt_152 : decode cX7_bestAt 152 = .ok (.iload_n 2, 1) := by decide +kernel
theorem dX7_bestAt_153 : decode cX7_bestAt 153 = .ok (.ireturn, 1) := by decide +kernel
theorem dX7_isDone_0 : decode cX7_isDone 0 = .ok (.aload_n 0, 1) := by decide +kernel
theorem dX7_isDone_1 : decode cX7_isDone 1 = .ok (.iload_n 1, 1) := by decide +kernel
theorem dX7_isDone_2 : decode cX7_isDone 2 = .ok (.invokevirtual 148, 3) := by decide +kernel
theorem dX7_isDone_5 : decode cX7_isDone 5 = .ok (.ifCond .ne 12, 3) := by decide +kernel
theorem dX7_isDone_8 : decode cX7_isDone 8 = .ok (.aload_n 0, 1) := by decide +kernel
theorem dX7_isDone_9 : decode cX7_isDone 9 = .ok (.getfield 185, 3) := by decide +kernel
theorem dX7_isDone_12 : decode cX7_isDone 12 = .ok (.bipush 24, 2) := by decide +kernel
theorem dX7_isDone_14 : decode cX7_isDone 14 = .ok (.if_icmp .ne 7, 3) := by decide +kernel
theorem dX7_isDone_17 : decode cX7_isDone 17 = .ok (.iconst 1, 1) := by decide +kernel
theorem dX7_isDone_18 : decode cX7_isDone 18 = .ok (.goto 4, 3) := by decide +kernel
theorem dX7_isDone_21 : decode cX7_isDone 21 = .ok (.iconst 0, 1) := by decide +kernel
theorem dX7_isDone_22 : decode cX7_isDone 22 = .ok (.ireturn, 1) := by decide +kernel
theorem dX7_wayBy_0 : decode cX7_wayBy 0 = .ok (.aload_n 0, 1) := by decide +kernel
theorem dX7_wayBy_1 : decode cX7_wayBy 1 = .ok (.aload_n 0, 1) := by decide +kernel
theorem dX7_wayBy_2 : decode cX7_wayBy 2 = .ok (.getfield 104, 3) := by decide +kernel
theorem dX7_wayBy_5 : decode cX7_wayBy 5 = .ok (.putfield 172, 3) := by decide +kernel
theorem dX7_wayBy_8 : decode cX7_wayBy 8 = .ok (.aload_n 0, 1) := by decide +kernel
theorem dX7_wayBy_9 : decode cX7_wayBy 9 = .ok (.iload_n 2, 1) := by decide +kernel
theorem dX7_wayBy_10 : decode cX7_wayBy 10 = .ok (.putfield 175, 3) := by decide +kernel
theorem dX7_wayBy_13 : decode cX7_wayBy 13 = .ok (.aload_n 0, 1) := by decide +kernel
theorem dX7_wayBy_14 : decode cX7_wayBy 14 = .ok (.iload_n 1, 1) := by decide +kernel
theorem dX7_wayBy_15 : decode cX7_wayBy 15 = .ok (.bipush 99, 2) := by decide +kernel
theorem dX7_wayBy_17 : decode cX7_wayBy 17 = .ok (.aload_n 0, 1) := by decide +kernel
theorem dX7_wayBy_18 : decode cX7_wayBy 18 = .ok (.getfield 19, 3) := by decide +kernel
theorem dX7_wayBy_21 : decode cX7_wayBy 21 = .ok (.iconst 5, 1) := by decide +kernel
theorem dX7_wayBy_22 : decode cX7_wayBy 22 = .ok (.iload_n 1, 1) := by decide +kernel
theorem dX7_wayBy_23 : decode cX7_wayBy 23 = .ok (.imul, 1) := by decide +kernel
theorem dX7_wayBy_24 : decode cX7_wayBy 24 = .ok (.iconst 1, 1) := by decide +kernel
theorem dX7_wayBy_25 : decode cX7_wayBy 25 = .ok (.iadd, 1) := by decide +kernel
theorem dX7_wayBy_26 : decode cX7_wayBy 26 = .ok (.iaload, 1) := by decide +kernel
theorem dX7_wayBy_27 : decode cX7_wayBy 27 = .ok (.isub, 1) := by decide +kernel
theorem dX7_wayBy_28 : decode cX7_wayBy 28 = .ok (.invokevirtual 188, 3) := by decide +kernel
theorem dX7_wayBy_31 : decode cX7_wayBy 31 = .ok (.aload_n 0, 1) := by decide +kernel
theorem dX7_wayBy_32 : decode cX7_wayBy 32 = .ok (.iload_n 1, 1) := by decide +kernel
theorem dX7_wayBy_33 : decode cX7_wayBy 33 = .ok (.invokevirtual 192, 3) := by decide +kernel
theorem dX7_wayBy_36 : decode cX7_wayBy 36 = .ok (.ireturn, 1) := by decide +kernel
theorem dX7_way_0 : decode cX7_way 0 = .ok (.aload_n 0, 1) := by decide +kernel
theorem dX7_way_1 : decode cX7_way 1 = .ok (.iload_n 1, 1) := by decide +kernel
theorem dX7_way_2 : decode cX7_way 2 = .ok (.invokevirtual 142, 3) := by decide +kernel
theorem dX7_way_5 : decode cX7_way 5 = .ok (.ifCond .ne 6, 3) := by decide +kernel
theorem dX7_way_8 : decode cX7_way 8 = .ok (.bipush (-101), 2) := by decide +kernel
theorem dX7_way_10 : decode cX7_way 10 = .ok (.ireturn, 1) := by decide +kernel
theorem dX7_way_11 : decode cX7_way 11 = .ok (.iload_n 2, 1) := by decide +kernel
theorem dX7_way_12 : decode cX7_way 12 = .ok (.i2l, 1) := by decide +kernel
theorem dX7_way_13 : decode cX7_way 13 = .ok (.lconst 0, 1) := by decide +kernel
theorem dX7_way_14 : decode cX7_way 14 = .ok (.ldc2_w 195, 3) := by decide +kernel
theorem dX7_way_17 : decode cX7_way 17 = .ok (.invokestatic 67, 3) := by decide +kernel
theorem dX7_way_20 : decode cX7_way 20 = .ok (.ifCond .ne 6, 3) := by decide +kernel
theorem dX7_way_23 : decode cX7_way 23 = .ok (.bipush (-102), 2) := by decide +kernel
theorem dX7_way_25 : decode cX7_way 25 = .ok (.ireturn, 1) := by decide +kernel
theorem dX7_way_26 : decode cX7_way 26 = .ok (.aload_n 0, 1) := by decide +kernel
theorem dX7_way_27 : decode cX7_way 27 = .ok (.iload_n 1, 1) := by decide +kernel
theorem dX7_way_28 : decode cX7_way 28 = .ok (.invokevirtual 197, 3) := by decide +kernel
theorem dX7_way_31 : decode cX7_way 31 = .ok (.ifCond .eq 6, 3) := by decide +kernel
theorem dX7_way_34 : decode cX7_way 34 = .ok (.bipush (-103), 2) := by decide +kernel
theorem dX7_way_36 : decode cX7_way 36 = .ok (.ireturn, 1) := by decide +kernel
theorem dX7_way_37 : decode cX7_way 37 = .ok (.aload_n 0, 1) := by decide +kernel
theorem dX7_way_38 : decode cX7_way 38 = .ok (.dup, 1) := by decide +kernel
theorem dX7_way_39 : decode cX7_way 39 = .ok (.getfield 185, 3) := by decide +kernel
theorem dX7_way_42 : decode cX7_way 42 = .ok (.iconst 1, 1) := by decide +kernel
theorem dX7_way_43 : decode cX7_way 43 = .ok (.iadd, 1) := by decide +kernel
theorem dX7_way_44 : decode cX7_way 44 = .ok (.putfield 185, 3) := by decide +kernel
theorem dX7_way_47 : decode cX7_way 47 = .ok (.aload_n 0, 1) := by decide +kernel
theorem dX7_way_48 : decode cX7_way 48 = .ok (.iload_n 1, 1) := by decide +kernel
theorem dX7_way_49 : decode cX7_way 49 = .ok (.iconst (-1), 1) := by decide +kernel
theorem dX7_way_50 : decode cX7_way 50 = .ok (.invokevirtual 200, 3) := by decide +kernel
theorem dX7_way_53 : decode cX7_way 53 = .ok (.istore_n 3, 1) := by decide +kernel
theorem dX7_way_54 : decode cX7_way 54 = .ok (.iload_n 3, 1) := by decide +kernel
theorem dX7_way_55 : decode cX7_way 55 = .ok (.iconst (-1), 1) := by decide +kernel
theorem dX7_way_56 : decode cX7_way 56 = .ok (.if_icmp .ne 7, 3) := by decide +kernel
theorem dX7_way_59 : decode cX7_way 59 = .ok (.iconst (-1), 1) := by decide +kernel
theorem dX7_way_60 : decode cX7_way 60 = .ok (.goto 36, 3) := by decide +kernel
theorem dX7_way_63 : decode cX7_way 63 = .ok (.iload_n 2, 1) := by decide +kernel
theorem dX7_way_64 : decode cX7_way 64 = .ok (.ifCond .ne 12, 3) := by decide +kernel
theorem dX7_way_67 : decode cX7_way 67 = .ok (.aload_n 0, 1) := by decide +kernel
theorem dX7_way_68 : decode cX7_way 68 = .ok (.getfield 25, 3) := by decide +kernel
theorem dX7_way_71 : decode cX7_way 71 = .ok (.iload_n 3, 1) := by decide +kernel
theorem dX7_way_72 : decode cX7_way 72 = .ok (.iaload, 1) := by decide +kernel
theorem dX7_way_73 : decode cX7_way 73 = .ok (.goto 23, 3) := by decide +kernel
theorem dX7_way_76 : decode cX7_way 76 = .ok (.iload_n 2, 1) := by decide +kernel
theorem dX7_way_77 : decode cX7_way 77 = .ok (.iconst 1, 1) := by decide +kernel
theorem dX7_way_78 : decode cX7_way 78 = .ok (.if_icmp .ne 12, 3) := by decide +kernel
theorem dX7_way_81 : decode cX7_way 81 = .ok (.aload_n 0, 1) := by decide +kernel
theorem dX7_way_82 : decode cX7_way 82 = .ok (.getfield 28, 3) := by decide +kernel
theorem dX7_way_85 : decode cX7_way 85 = .ok (.iload_n 3, 1) := by decide +kernel
theorem dX7_way_86 : decode cX7_way 86 = .ok (.iaload, 1) := by decide +kernel
theorem dX7_way_87 : decode cX7_way 87 = .ok (.goto 9, 3) := by decide +kernel
theorem dX7_way_90 : decode cX7_way 90 = .ok (.aload_n 0, 1) := by decide +kernel
theorem dX7_way_91 : decode cX7_way 91 = .ok (.getfield 31, 3) := by decide +kernel
theorem dX7_way_94 : decode cX7_way 94 = .ok (.iload_n 3, 1) := by decide +kernel
theorem dX7_way_95 : decode cX7_way 95 = .ok (.iaload, 1) := by decide +kernel
theorem dX7_way_96 : decode cX7_way 96 = .ok (.ireturn, 1) := by decide +kernel
theorem dX7_bars_0 : decode cX7_bars 0 = .ok (.aload_n 0, 1) := by decide +kernel
theorem dX7_bars_1 : decode cX7_bars 1 = .ok (.iload_n 1, 1) := by decide +kernel
theorem dX7_bars_2 : decode cX7_bars 2 = .ok (.invokevirtual 142, 3) := by decide +kernel
theorem dX7_bars_5 : decode cX7_bars 5 = .ok (.ifCond .ne 6, 3) := by decide +kernel
theorem dX7_bars_8 : decode cX7_bars 8 = .ok (.bipush (-101), 2) := by decide +kernel
theorem dX7_bars_10 : decode cX7_bars 10 = .ok (.ireturn, 1) := by decide +kernel
theorem dX7_bars_11 : decode cX7_bars 11 = .ok (.aload_n 0, 1) := by decide +kernel
theorem dX7_bars_12 : decode cX7_bars 12 = .ok (.iload_n 1, 1) := by decide +kernel
theorem dX7_bars_13 : decode cX7_bars 13 = .ok (.invokevirtual 197, 3) := by decide +kernel
theorem dX7_bars_16 : decode cX7_bars 16 = .ok (.ifCond .eq 6, 3) := by decide +kernel
theorem dX7_bars_19 : decode cX7_bars 19 = .ok (.bipush (-103), 2) := by decide +kernel
theorem dX7_bars_21 : decode cX7_bars 21 = .ok (.ireturn, 1) := by decide +kernel
theorem dX7_bars_22 : decode cX7_bars 22 = .ok (.aload_n 0, 1) := by decide +kernel
theorem dX7_bars_23 : decode cX7_bars 23 = .ok (.dup, 1) := by decide +kernel
theorem dX7_bars_24 : decode cX7_bars 24 = .ok (.getfield 185, 3) := by decide +kernel
theorem dX7_bars_27 : decode cX7_bars 27 = .ok (.iconst 1, 1) := by decide +kernel
theorem dX7_bars_28 : decode cX7_bars 28 = .ok (.iadd, 1) := by decide +kernel
theorem dX7_bars_29 : decode cX7_bars 29 = .ok (.putfield 185, 3) := by decide +kernel
theorem dX7_bars_32 : decode cX7_bars 32 = .ok (.aload_n 0, 1) := by decide +kernel
theorem dX7_bars_33 : decode cX7_bars 33 = .ok (.iload_n 1, 1) := by decide +kernel
theorem dX7_bars_34 : decode cX7_bars 34 = .ok (.iconst (-1), 1) := by decide +kernel
theorem dX7_bars_35 : decode cX7_bars 35 = .ok (.invokevirtual 200, 3) := by decide +kernel
theorem dX7_bars_38 : decode cX7_bars 38 = .ok (.iconst (-1), 1) := by decide +kernel
theorem dX7_bars_39 : decode cX7_bars 39 = .ok (.if_icmp .ne 5, 3) := by decide +kernel
theorem dX7_bars_42 : decode cX7_bars 42 = .ok (.iconst (-1), 1) := by decide +kernel
theorem dX7_bars_43 : decode cX7_bars 43 = .ok (.ireturn, 1) := by decide +kernel
theorem dX7_bars_44 : decode cX7_bars 44 = .ok (.iconst 0, 1) := by decide +kernel
theorem dX7_bars_45 : decode cX7_bars 45 = .ok (.istore_n 2, 1) := by decide +kernel
theorem dX7_bars_46 : decode cX7_bars 46 = .ok (.iload_n 2, 1) := by decide +kernel
theorem dX7_bars_47 : decode cX7_bars 47 = .ok (.aload_n 0, 1) := by decide +kernel
theorem dX7_bars_48 : decode cX7_bars 48 = .ok (.getfield 104, 3) := by decide +kernel
theorem dX7_bars_51 : decode cX7_bars 51 = .ok (.if_icmp .ge 21, 3) := by decide +kernel
theorem dX7_bars_54 : decode cX7_bars 54 = .ok (.aload_n 0, 1) := by decide +kernel
theorem dX7_bars_55 : decode cX7_bars 55 = .ok (.iload_n 1, 1) := by decide +kernel
theorem dX7_bars_56 : decode cX7_bars 56 = .ok (.iload_n 2, 1) := by decide +kernel
theorem dX7_bars_57 : decode cX7_bars 57 = .ok (.invokevirtual 200, 3) := by decide +kernel
theorem dX7_bars_60 : decode cX7_bars 60 = .ok (.iconst (-1), 1) := by decide +kernel
theorem dX7_bars_61 : decode cX7_bars 61 = .ok (.if_icmp .ne 5, 3) := by decide +kernel
theorem dX7_bars_64 : decode cX7_bars 64 = .ok (.iload_n 2, 1) := by decide +kernel
theorem dX7_bars_65 : decode cX7_bars 65 = .ok (.ireturn, 1) := by decide +kernel
theorem dX7_bars_66 : decode cX7_bars 66 = .ok (.iinc 2 1, 3) := by decide +kernel
theorem dX7_bars_69 : decode cX7_bars 69 = .ok (.goto (-23), 3) := by decide +kernel
theorem dX7_bars_72 : decode cX7_bars 72 = .ok (.iconst (-1), 1) := by decide +kernel
theorem dX7_bars_73 : decode cX7_bars 73 = .ok (.ireturn, 1) := by decide +kernel
theorem dX7_most_0 : decode cX7_most 0 = .ok (.aload_n 0, 1) := by decide +kernel
theorem dX7_most_1 : decode cX7_most 1 = .ok (.iload_n 1, 1) := by decide +kernel
theorem dX7_most_2 : decode cX7_most 2 = .ok (.invokevirtual 142, 3) := by decide +kernel
theorem dX7_most_5 : decode cX7_most 5 = .ok (.ifCond .ne 6, 3) := by decide +kernel
theorem dX7_most_8 : decode cX7_most 8 = .ok (.bipush (-101), 2) := by decide +kernel
theorem dX7_most_10 : decode cX7_most 10 = .ok (.ireturn, 1) := by decide +kernel
theorem dX7_most_11 : decode cX7_most 11 = .ok (.iload_n 2, 1) := by decide +kernel
theorem dX7_most_12 : decode cX7_most 12 = .ok (.i2l, 1) := by decide +kernel
theorem dX7_most_13 : decode cX7_most 13 = .ok (.lconst 0, 1) := by decide +kernel
theorem dX7_most_14 : decode cX7_most 14 = .ok (.ldc2_w 95, 3) := by decide +kernel
theorem dX7_most_17 : decode cX7_most 17 = .ok (.invokestatic 67, 3) := by decide +kernel
theorem dX7_most_20 : decode cX7_most 20 = .ok (.ifCond .ne 6, 3) := by decide +kernel
theorem dX7_most_23 : decode cX7_most 23 = .ok (.bipush (-102), 2) := by decide +kernel
theorem dX7_most_25 : decode cX7_most 25 = .ok (.ireturn, 1) := by decide +kernel
theorem dX7_most_26 : decode cX7_most 26 = .ok (.aload_n 0, 1) := by decide +kernel
theorem dX7_most_27 : decode cX7_most 27 = .ok (.iload_n 1, 1) := by decide +kernel
theorem dX7_most_28 : decode cX7_most 28 = .ok (.invokevirtual 197, 3) := by decide +kernel
theorem dX7_most_31 : decode cX7_most 31 = .ok (.ifCond .eq 6, 3) := by decide +kernel
theorem dX7_most_34 : decode cX7_most 34 = .ok (.bipush (-103), 2) := by decide +kernel
theorem dX7_most_36 : decode cX7_most 36 = .ok (.ireturn, 1) := by decide +kernel
theorem dX7_most_37 : decode cX7_most 37 = .ok (.aload_n 0, 1) := by decide +kernel
theorem dX7_most_38 : decode cX7_most 38 = .ok (.dup, 1) := by decide +kernel
theorem dX7_most_39 : decode cX7_most 39 = .ok (.getfield 185, 3) := by decide +kernel
theorem dX7_most_42 : decode cX7_most 42 = .ok (.iconst 1, 1) := by decide +kernel
theorem dX7_most_43 : decode cX7_most 43 = .ok (.iadd, 1) := by decide +kernel
theorem dX7_most_44 : decode cX7_most 44 = .ok (.putfield 185, 3) := by decide +kernel
theorem dX7_most_47 : decode cX7_most 47 = .ok (.bipush 99, 2) := by decide +kernel
theorem dX7_most_49 : decode cX7_most 49 = .ok (.aload_n 0, 1) := by decide +kernel
theorem dX7_most_50 : decode cX7_most 50 = .ok (.getfield 19, 3) := by decide +kernel
theorem dX7_most_53 : decode cX7_most 53 = .ok (.iconst 5, 1) := by decide +kernel
theorem dX7_most_54 : decode cX7_most 54 = .ok (.iload_n 1, 1) := by decide +kernel
theorem dX7_most_55 : decode cX7_most 55 = .ok (.imul, 1) := by decide +kernel
theorem dX7_most_56 : decode cX7_most 56 = .ok (.iconst 1, 1) := by decide +kernel
theorem dX7_most_57 : decode cX7_most 57 = .ok (.iadd, 1) := by decide +kernel
theorem dX7_most_58 : decode cX7_most 58 = .ok (.iaload, 1) := by decide +kernel
theorem dX7_most_59 : decode cX7_most 59 = .ok (.isub, 1) := by decide +kernel
theorem dX7_most_60 : decode cX7_most 60 = .ok (.istore_n 3, 1) := by decide +kernel
theorem dX7_most_61 : decode cX7_most 61 = .ok (.aload_n 0, 1) := by decide +kernel
theorem dX7_most_62 : decode cX7_most 62 = .ok (.aload_n 0, 1) := by decide +kernel
theorem dX7_most_63 : decode cX7_most 63 = .ok (.getfield 104, 3) := by decide +kernel
theorem dX7_most_66 : decode cX7_most 66 = .ok (.putfield 172, 3) := by decide +kernel
theorem dX7_most_69 : decode cX7_most 69 = .ok (.aload_n 0, 1) := by decide +kernel
theorem dX7_most_70 : decode cX7_most 70 = .ok (.iconst (-1), 1) := by decide +kernel
theorem dX7_most_71 : decode cX7_most 71 = .ok (.putfield 175, 3) := by decide +kernel
theorem dX7_most_74 : decode cX7_most 74 = .ok (.aload_n 0, 1) := by decide +kernel
theorem dX7_most_75 : decode cX7_most 75 = .ok (.iload_n 1, 1) := by decide +kernel
theorem dX7_most_76 : decode cX7_most 76 = .ok (.iload_n 2, 1) := by decide +kernel
theorem dX7_most_77 : decode cX7_most 77 = .ok (.iload_n 3, 1) := by decide +kernel
theorem dX7_most_78 : decode cX7_most 78 = .ok (.if_icmp .ge 7, 3) := by decide +kernel
theorem dX7_most_81 : decode cX7_most 81 = .ok (.iload_n 2, 1) := by decide +kernel
theorem dX7_most_82 : decode cX7_most 82 = .ok (.goto 4, 3) := by decide +kernel
theorem dX7_most_85 : decode cX7_most 85 = .ok (.iload_n 3, 1) := by decide +kernel
theorem dX7_most_86 : decode cX7_most 86 = .ok (.invokevirtual 188, 3) := by decide +kernel
theorem dX7_most_89 : decode cX7_most 89 = .ok (.iconst 0, 1) := by decide +kernel
theorem dX7_most_90 : decode cX7_most 90 = .ok (.istore 4, 2) := by decide +kernel
theorem dX7_most_92 : decode cX7_most 92 = .ok (.iconst 0, 1) := by decide +kernel
theorem dX7_most_93 : decode cX7_most 93 = .ok (.istore 5, 2) := by decide +kernel
theorem dX7_most_95 : decode cX7_most 95 = .ok (.iload 5, 2) := by decide +kernel
theorem dX7_most_97 : decode cX7_most 97 = .ok (.sipush 3072, 3) := by decide +kernel
theorem dX7_most_100 : decode cX7_most 100 = .ok (.if_icmp .ge 53, 3) := by decide +kernel
theorem dX7_most_103 : decode cX7_most 103 = .ok (.aload_n 0, 1) := by decide +kernel
theorem dX7_most_104 : decode cX7_most 104 = .ok (.getfield 25, 3) := by decide +kernel
theorem dX7_most_107 : decode cX7_most 107 = .ok (.iload 5, 2) := by decide +kernel
theorem dX7_most_109 : decode cX7_most 109 = .ok (.iaload, 1) := by decide +kernel
theorem dX7_most_110 : decode cX7_most 110 = .ok (.iconst (-1), 1) := by decide +kernel
theorem dX7_most_111 : decode cX7_most 111 = .ok (.if_icmp .ne 7, 3) := by decide +kernel
theorem dX7_most_114 : decode cX7_most 114 = .ok (.iconst 0, 1) := by decide +kernel
theorem dX7_most_115 : decode cX7_most 115 = .ok (.goto 14, 3) := by decide +kernel
theorem dX7_most_118 : decode cX7_most 118 = .ok (.aload_n 0, 1) := by decide +kernel
theorem dX7_most_119 : decode cX7_most 119 = .ok (.iload_n 1, 1) := by decide +kernel
theorem dX7_most_120 : decode cX7_most 120 = .ok (.iload 5, 2) := by decide +kernel
theorem dX7_most_122 : decode cX7_most 122 = .ok (.sipush 512, 3) := by decide +kernel
theorem dX7_most_125 : decode cX7_most 125 = .ok (.irem, 1) := by decide +kernel
theorem dX7_most_126 : decode cX7_most 126 = .ok (.invokevirtual 182, 3) := by decide +kernel
theorem dX7_most_129 : decode cX7_most 129 = .ok (.istore 6, 2) := by decide +kernel
theorem dX7_most_131 : decode cX7_most 131 = .ok (.iload 6, 2) := by decide +kernel
theorem dX7_most_133 : decode cX7_most 133 = .ok (.iload 4, 2) := by decide +kernel
theorem dX7_most_135 : decode cX7_most 135 = .ok (.if_icmp .le 8, 3) := by decide +kernel
theorem dX7_most_138 : decode cX7_most 138 = .ok (.iload 6, 2) := by decide +kernel
theorem dX7_most_140 : decode cX7_most 140 = .ok (.goto 5, 3) := by decide +kernel
theorem dX7_most_143 : decode cX7_most 143 = .ok (.iload 4, 2) := by decide +kernel
theorem dX7_most_145 : decode cX7_most 145 = .ok (.istore 4, 2) := by decide +kernel
theorem dX7_most_147 : decode cX7_most 147 = .ok (.iinc 5 1, 3) := by decide +kernel
theorem dX7_most_150 : decode cX7_most 150 = .ok (.goto (-55), 3) := by decide +kernel
theorem dX7_most_153 : decode cX7_most 153 = .ok (.iload 4, 2) := by decide +kernel
theorem dX7_most_155 : decode cX7_most 155 = .ok (.ireturn, 1) := by decide +kernel
theorem dX7_bridge_0 : decode cX7_bridge 0 = .ok (.aload_n 0, 1) := by decide +kernel
theorem dX7_bridge_1 : decode cX7_bridge 1 = .ok (.iload_n 1, 1) := by decide +kernel
theorem dX7_bridge_2 : decode cX7_bridge 2 = .ok (.invokevirtual 142, 3) := by decide +kernel
theorem dX7_bridge_5 : decode cX7_bridge 5 = .ok (.ifCond .ne 6, 3) := by decide +kernel
theorem dX7_bridge_8 : decode cX7_bridge 8 = .ok (.bipush (-101), 2) := by decide +kernel
theorem dX7_bridge_10 : decode cX7_bridge 10 = .ok (.ireturn, 1) := by decide +kernel
theorem dX7_bridge_11 : decode cX7_bridge 11 = .ok (.aload_n 0, 1) := by decide +kernel
theorem dX7_bridge_12 : decode cX7_bridge 12 = .ok (.iload_n 1, 1) := by decide +kernel
theorem dX7_bridge_13 : decode cX7_bridge 13 = .ok (.invokevirtual 197, 3) := by decide +kernel
theorem dX7_bridge_16 : decode cX7_bridge 16 = .ok (.ifCond .eq 6, 3) := by decide +kernel
theorem dX7_bridge_19 : decode cX7_bridge 19 = .ok (.bipush (-103), 2) := by decide +kernel
theorem dX7_bridge_21 : decode cX7_bridge 21 = .ok (.ireturn, 1) := by decide +kernel
theorem dX7_bridge_22 : decode cX7_bridge 22 = .ok (.aload_n 0, 1) := by decide +kernel
theorem dX7_bridge_23 : decode cX7_bridge 23 = .ok (.dup, 1) := by decide +kernel
theorem dX7_bridge_24 : decode cX7_bridge 24 = .ok (.getfield 185, 3) := by decide +kernel
theorem dX7_bridge_27 : decode cX7_bridge 27 = .ok (.iconst 1, 1) := by decide +kernel
theorem dX7_bridge_28 : decode cX7_bridge 28 = .ok (.iadd, 1) := by decide +kernel
theorem dX7_bridge_29 : decode cX7_bridge 29 = .ok (.putfield 185, 3) := by decide +kernel
theorem dX7_bridge_32 : decode cX7_bridge 32 = .ok (.aload_n 0, 1) := by decide +kernel
theorem dX7_bridge_33 : decode cX7_bridge 33 = .ok (.iload_n 1, 1) := by decide +kernel
theorem dX7_bridge_34 : decode cX7_bridge 34 = .ok (.iconst (-1), 1) := by decide +kernel
theorem dX7_bridge_35 : decode cX7_bridge 35 = .ok (.invokevirtual 200, 3) := by decide +kernel
theorem dX7_bridge_38 : decode cX7_bridge 38 = .ok (.istore_n 2, 1) := by decide +kernel
theorem dX7_bridge_39 : decode cX7_bridge 39 = .ok (.iload_n 2, 1) := by decide +kernel
theorem dX7_bridge_40 : decode cX7_bridge 40 = .ok (.iconst (-1), 1) := by decide +kernel
theorem dX7_bridge_41 : decode cX7_bridge 41 = .ok (.if_icmp .ne 9, 3) := by decide +kernel
theorem dX7_bridge_44 : decode cX7_bridge 44 = .ok (.sipush 1000, 3) := by decide +kernel
theorem dX7_bridge_47 : decode cX7_bridge 47 = .ok (.goto 9, 3) := by decide +kernel
theorem dX7_bridge_50 : decode cX7_bridge 50 = .ok (.aload_n 0, 1) := by decide +kernel
theorem dX7_bridge_51 : decode cX7_bridge 51 = .ok (.getfield 25, 3) := by decide +kernel
theorem dX7_bridge_54 : decode cX7_bridge 54 = .ok (.iload_n 2, 1) := by decide +kernel
theorem dX7_bridge_55 : decode cX7_bridge 55 = .ok (.iaload, 1) := by decide +kernel
theorem dX7_bridge_56 : decode cX7_bridge 56 = .ok (.istore_n 3, 1) := by decide +kernel
theorem dX7_bridge_57 : decode cX7_bridge 57 = .ok (.iconst (-1), 1) := by decide +kernel
theorem dX7_bridge_58 : decode cX7_bridge 58 = .ok (.istore 4, 2) := by decide +kernel
theorem dX7_bridge_60 : decode cX7_bridge 60 = .ok (.iconst 0, 1) := by decide +kernel
theorem dX7_bridge_61 : decode cX7_bridge 61 = .ok (.istore 5, 2) := by decide +kernel
theorem dX7_bridge_63 : decode cX7_bridge 63 = .ok (.iload 5, 2) := by decide +kernel
theorem dX7_bridge_65 : decode cX7_bridge 65 = .ok (.bipush 36, 2) := by decide +kernel
theorem dX7_bridge_67 : decode cX7_bridge 67 = .ok (.if_icmp .ge 157, 3) := by decide +kernel
theorem dX7_bridge_70 : decode cX7_bridge 70 = .ok (.iload 5, 2) := by decide +kernel
theorem dX7_bridge_72 : decode cX7_bridge 72 = .ok (.bipush 6, 2) := by decide +kernel
theorem dX7_bridge_74 : decode cX7_bridge 74 = .ok (.idiv, 1) := by decide +kernel
theorem dX7_bridge_75 : decode cX7_bridge 75 = .ok (.iload 5, 2) := by decide +kernel
theorem dX7_bridge_77 : decode cX7_bridge 77 = .ok (.bipush 6, 2) := by decide +kernel
theorem dX7_bridge_79 : decode cX7_bridge 79 = .ok (.irem, 1) := by decide +kernel
theorem dX7_bridge_80 : decode cX7_bridge 80 = .ok (.if_icmp .ge 138, 3) := by decide +kernel
theorem dX7_bridge_83 : decode cX7_bridge 83 = .ok (.aload_n 0, 1) := by decide +kernel
theorem dX7_bridge_84 : decode cX7_bridge 84 = .ok (.getfield 16, 3) := by decide +kernel
theorem dX7_bridge_87 : decode cX7_bridge 87 = .ok (.bipush 40, 2) := by decide +kernel
theorem dX7_bridge_89 : decode cX7_bridge 89 = .ok (.iconst 0, 1) := by decide +kernel
theorem dX7_bridge_90 : decode cX7_bridge 90 = .ok (.iastore, 1) := by decide +kernel
theorem dX7_bridge_91 : decode cX7_bridge 91 = .ok (.aload_n 0, 1) := by decide +kernel
theorem dX7_bridge_92 : decode cX7_bridge 92 = .ok (.getfield 16, 3) := by decide +kernel
theorem dX7_bridge_95 : decode cX7_bridge 95 = .ok (.bipush 41, 2) := by decide +kernel
theorem dX7_bridge_97 : decode cX7_bridge 97 = .ok (.iload 5, 2) := by decide +kernel
theorem dX7_bridge_99 : decode cX7_bridge 99 = .ok (.bipush 6, 2) := by decide +kernel
theorem dX7_bridge_101 : decode cX7_bridge 101 = .ok (.idiv, 1) := by decide +kernel
theorem dX7_bridge_102 : decode cX7_bridge 102 = .ok (.iastore, 1) := by decide +kernel
theorem dX7_bridge_103 : decode cX7_bridge 103 = .ok (.aload_n 0, 1) := by decide +kernel
theorem dX7_bridge_104 : decode cX7_bridge 104 = .ok (.getfield 16, 3) := by decide +kernel
theorem dX7_bridge_107 : decode cX7_bridge 107 = .ok (.bipush 42, 2) := by decide +kernel
theorem dX7_bridge_109 : decode cX7_bridge 109 = .ok (.iload 5, 2) := by decide +kernel
theorem dX7_bridge_111 : decode cX7_bridge 111 = .ok (.bipush 6, 2) := by decide +kernel
theorem dX7_bridge_113 : decode cX7_bridge 113 = .ok (.irem, 1) := by decide +kernel
theorem dX7_bridge_114 : decode cX7_bridge 114 = .ok (.iastore, 1) := by decide +kernel
theorem dX7_bridge_115 : decode cX7_bridge 115 = .ok (.aload_n 0, 1) := by decide +kernel
theorem dX7_bridge_116 : decode cX7_bridge 116 = .ok (.getfield 16, 3) := by decide +kernel
theorem dX7_bridge_119 : decode cX7_bridge 119 = .ok (.bipush 43, 2) := by decide +kernel
theorem dX7_bridge_121 : decode cX7_bridge 121 = .ok (.iconst 1, 1) := by decide +kernel
theorem dX7_bridge_122 : decode cX7_bridge 122 = .ok (.iastore, 1) := by decide +kernel
theorem dX7_bridge_123 : decode cX7_bridge 123 = .ok (.aload_n 0, 1) := by decide +kernel
theorem dX7_bridge_124 : decode cX7_bridge 124 = .ok (.aload_n 0, 1) := by decide +kernel
theorem dX7_bridge_125 : decode cX7_bridge 125 = .ok (.getfield 104, 3) := by decide +kernel
theorem dX7_bridge_128 : decode cX7_bridge 128 = .ok (.iconst 1, 1) := by decide +kernel
theorem dX7_bridge_129 : decode cX7_bridge 129 = .ok (.iadd, 1) := by decide +kernel
theorem dX7_bridge_130 : decode cX7_bridge 130 = .ok (.putfield 172, 3) := by decide +kernel
theorem dX7_bridge_133 : decode cX7_bridge 133 = .ok (.aload_n 0, 1) := by decide +kernel
theorem dX7_bridge_134 : decode cX7_bridge 134 = .ok (.iconst (-1), 1) := by decide +kernel
theorem dX7_bridge_135 : decode cX7_bridge 135 = .ok (.putfield 175, 3) := by decide +kernel
theorem dX7_bridge_138 : decode cX7_bridge 138 = .ok (.aload_n 0, 1) := by decide +kernel
theorem dX7_bridge_139 : decode cX7_bridge 139 = .ok (.iload_n 1, 1) := by decide +kernel
theorem dX7_bridge_140 : decode cX7_bridge 140 = .ok (.bipush 99, 2) := by decide +kernel
theorem dX7_bridge_142 : decode cX7_bridge 142 = .ok (.aload_n 0, 1) := by decide +kernel
theorem dX7_bridge_143 : decode cX7_bridge 143 = .ok (.getfield 19, 3) := by decide +kernel
theorem dX7_bridge_146 : decode cX7_bridge 146 = .ok (.iconst 5, 1) := by decide +kernel
theorem dX7_bridge_147 : decode cX7_bridge 147 = .ok (.iload_n 1, 1) := by decide +kernel
theorem dX7_bridge_148 : decode cX7_bridge 148 = .ok (.imul, 1) := by decide +kernel
theorem dX7_bridge_149 : decode cX7_bridge 149 = .ok (.iconst 1, 1) := by decide +kernel
theorem dX7_bridge_150 : decode cX7_bridge 150 = .ok (.iadd, 1) := by decide +kernel
theorem dX7_bridge_151 : decode cX7_bridge 151 = .ok (.iaload, 1) := by decide +kernel
theorem dX7_bridge_152 : decode cX7_bridge 152 = .ok (.isub, 1) := by decide +kernel
theorem dX7_bridge_153 : decode cX7_bridge 153 = .ok (.invokevirtual 188, 3) := by decide +kernel
theorem dX7_bridge_156 : decode cX7_bridge 156 = .ok (.aload_n 0, 1) := by decide +kernel
theorem dX7_bridge_157 : decode cX7_bridge 157 = .ok (.iload_n 1, 1) := by decide +kernel
theorem dX7_bridge_158 : decode cX7_bridge 158 = .ok (.invokevirtual 192, 3) := by decide +kernel
theorem dX7_bridge_161 : decode cX7_bridge 161 = .ok (.istore 6, 2) := by decide +kernel
theorem dX7_bridge_163 : decode cX7_bridge 163 = .ok (.iload 6, 2) := by decide +kernel
theorem dX7_bridge_165 : decode cX7_bridge 165 = .ok (.iconst (-1), 1) := by decide +kernel
theorem dX7_bridge_166 : decode cX7_bridge 166 = .ok (.if_icmp .eq 18, 3) := by decide +kernel
theorem dX7_bridge_169 : decode cX7_bridge 169 = .ok (.aload_n 0, 1) := by decide +kernel
theorem dX7_bridge_170 : decode cX7_bridge 170 = .ok (.getfield 25, 3) := by decide +kernel
theorem dX7_bridge_173 : decode cX7_bridge 173 = .ok (.iload 6, 2) := by decide +kernel
theorem dX7_bridge_175 : decode cX7_bridge 175 = .ok (.iaload, 1) := by decide +kernel
theorem dX7_bridge_176 : decode cX7_bridge 176 = .ok (.iload_n 3, 1) := by decide +kernel
theorem dX7_bridge_177 : decode cX7_bridge 177 = .ok (.if_icmp .ge 7, 3) := by decide +kernel
theorem dX7_bridge_180 : decode cX7_bridge 180 = .ok (.iconst 1, 1) := by decide +kernel
theorem dX7_bridge_181 : decode cX7_bridge 181 = .ok (.goto 4, 3) := by decide +kernel
theorem dX7_bridge_184 : decode cX7_bridge 184 = .ok (.iconst 0, 1) := by decide +kernel
theorem dX7_bridge_185 : decode cX7_bridge 185 = .ok (.istore 7, 2) := by decide +kernel
theorem dX7_bridge_187 : decode cX7_bridge 187 = .ok (.iload 7, 2) := by decide +kernel
theorem dX7_bridge_189 : decode cX7_bridge 189 = .ok (.ifCond .eq 8, 3) := by decide +kernel
theorem dX7_bridge_192 : decode cX7_bridge 192 = .ok (.iload 5, 2) := by decide +kernel
theorem dX7_bridge_194 : decode cX7_bridge 194 = .ok (.goto 5, 3) := by decide +kernel
theorem dX7_bridge_197 : decode cX7_bridge 197 = .ok (.iload 4, 2) := by decide +kernel
theorem dX7_bridge_199 : decode cX7_bridge 199 = .ok (.istore 4, 2) := by decide +kernel
theorem dX7_bridge_201 : decode cX7_bridge 201 = .ok (.iload 7, 2) := by decide +kernel
theorem dX7_bridge_203 : decode cX7_bridge 203 = .ok (.ifCond .eq 13, 3) := by decide +kernel
theorem dX7_bridge_206 : decode cX7_bridge 206 = .ok (.aload_n 0, 1) := by decide +kernel
theorem dX7_bridge_207 : decode cX7_bridge 207 = .ok (.getfield 25, 3) := by decide +kernel
theorem dX7_bridge_210 : decode cX7_bridge 210 = .ok (.iload 6, 2) := by decide +kernel
theorem dX7_bridge_212 : decode cX7_bridge 212 = .ok (.iaload, 1) := by decide +kernel
theorem dX7_bridge_213 : decode cX7_bridge 213 = .ok (.goto 4, 3) := by decide +kernel
theorem dX7_bridge_216 : decode cX7_bridge 216 = .ok (.iload_n 3, 1) := by decide +kernel
theorem dX7_bridge_217 : decode cX7_bridge 217 = .ok (.istore_n 3, 1) := by decide +kernel
theorem dX7_bridge_218 : decode cX7_bridge 218 = .ok (.iinc 5 1, 3) := by decide +kernel
theorem dX7_bridge_221 : decode cX7_bridge 221 = .ok (.goto (-158), 3) := by decide +kernel
theorem dX7_bridge_224 : decode cX7_bridge 224 = .ok (.iload 4, 2) := by decide +kernel
theorem dX7_bridge_226 : decode cX7_bridge 226 = .ok (.ireturn, 1) := by decide +kernel
theorem dX7_log_0 : decode cX7_log 0 = .ok (.iload_n 1, 1) := by decide +kernel
theorem dX7_log_1 : decode cX7_log 1 = .ok (.iconst (-1), 1) := by decide +kernel
theorem dX7_log_2 : decode cX7_log 2 = .ok (.if_icmp .eq 18, 3) := by decide +kernel
theorem dX7_log_5 : decode cX7_log 5 = .ok (.iload_n 1, 1) := by decide +kernel
theorem dX7_log_6 : decode cX7_log 6 = .ok (.i2l, 1) := by decide +kernel
theorem dX7_log_7 : decode cX7_log 7 = .ok (.lconst 0, 1) := by decide +kernel
theorem dX7_log_8 : decode cX7_log 8 = .ok (.ldc2_w 82, 3) := by decide +kernel
theorem dX7_log_11 : decode cX7_log 11 = .ok (.invokestatic 67, 3) := by decide +kernel
theorem dX7_log_14 : decode cX7_log 14 = .ok (.ifCond .ne 6, 3) := by decide +kernel
theorem dX7_log_17 : decode cX7_log 17 = .ok (.bipush (-101), 2) := by decide +kernel
theorem dX7_log_19 : decode cX7_log 19 = .ok (.ireturn, 1) := by decide +kernel
theorem dX7_log_20 : decode cX7_log 20 = .ok (.aload_n 0, 1) := by decide +kernel
theorem dX7_log_21 : decode cX7_log 21 = .ok (.getfield 116, 3) := by decide +kernel
theorem dX7_log_24 : decode cX7_log 24 = .ok (.bipush 7, 2) := by decide +kernel
theorem dX7_log_26 : decode cX7_log 26 = .ok (.if_icmp .ne 6, 3) := by decide +kernel
theorem dX7_log_29 : decode cX7_log 29 = .ok (.bipush (-104), 2) := by decide +kernel
theorem dX7_log_31 : decode cX7_log 31 = .ok (.ireturn, 1) := by decide +kernel
theorem dX7_log_32 : decode cX7_log 32 = .ok (.aload_n 0, 1) := by decide +kernel
theorem dX7_log_33 : decode cX7_log 33 = .ok (.getfield 34, 3) := by decide +kernel
theorem dX7_log_36 : decode cX7_log 36 = .ok (.aload_n 0, 1) := by decide +kernel
theorem dX7_log_37 : decode cX7_log 37 = .ok (.getfield 116, 3) := by decide +kernel
theorem dX7_log_40 : decode cX7_log 40 = .ok (.iload_n 1, 1) := by decide +kernel
theorem dX7_log_41 : decode cX7_log 41 = .ok (.iastore, 1) := by decide +kernel
theorem dX7_log_42 : decode cX7_log 42 = .ok (.aload_n 0, 1) := by decide +kernel
theorem dX7_log_43 : decode cX7_log 43 = .ok (.dup, 1) := by decide +kernel
theorem dX7_log_44 : decode cX7_log 44 = .ok (.getfield 116, 3) := by decide +kernel
theorem dX7_log_47 : decode cX7_log 47 = .ok (.iconst 1, 1) := by decide +kernel
theorem dX7_log_48 : decode cX7_log 48 = .ok (.iadd, 1) := by decide +kernel
theorem dX7_log_49 : decode cX7_log 49 = .ok (.putfield 116, 3) := by decide +kernel
theorem dX7_log_52 : decode cX7_log 52 = .ok (.aload_n 0, 1) := by decide +kernel
theorem dX7_log_53 : decode cX7_log 53 = .ok (.getfield 116, 3) := by decide +kernel
theorem dX7_log_56 : decode cX7_log 56 = .ok (.ireturn, 1) := by decide +kernel
theorem dX7_forget_0 : decode cX7_forget 0 = .ok (.aload_n 0, 1) := by decide +kernel
theorem dX7_forget_1 : decode cX7_forget 1 = .ok (.getfield 116, 3) := by decide +kernel
theorem dX7_forget_4 : decode cX7_forget 4 = .ok (.istore_n 1, 1) := by decide +kernel
theorem dX7_forget_5 : decode cX7_forget 5 = .ok (.aload_n 0, 1) := by decide +kernel
theorem dX7_forget_6 : decode cX7_forget 6 = .ok (.iconst 0, 1) := by decide +kernel
theorem dX7_forget_7 : decode cX7_forget 7 = .ok (.putfield 116, 3) := by decide +kernel
theorem dX7_forget_10 : decode cX7_forget 10 = .ok (.iload_n 1, 1) := by decide +kernel
theorem dX7_forget_11 : decode cX7_forget 11 = .ok (.ireturn, 1) := by decide +kernel
theorem dX7_passLog_0 : decode cX7_passLog 0 = .ok (.iconst 0, 1) := by decide +kernel
theorem dX7_passLog_1 : decode cX7_passLog 1 = .ok (.istore_n 2, 1) := by decide +kernel
theorem dX7_passLog_2 : decode cX7_passLog 2 = .ok (.iload_n 2, 1) := by decide +kernel
theorem dX7_passLog_3 : decode cX7_passLog 3 = .ok (.sipush 13824, 3) := by decide +kernel
theorem dX7_passLog_6 : decode cX7_passLog 6 = .ok (.if_icmp .ge 16, 3) := by decide +kernel
theorem dX7_passLog_9 : decode cX7_passLog 9 = .ok (.aload_n 0, 1) := by decide +kernel
theorem dX7_passLog_10 : decode cX7_passLog 10 = .ok (.getfield 40, 3) := by decide +kernel
theorem dX7_passLog_13 : decode cX7_passLog 13 = .ok (.iload_n 2, 1) := by decide +kernel
theorem dX7_passLog_14 : decode cX7_passLog 14 = .ok (.iconst 0, 1) := by decide +kernel
theorem dX7_passLog_15 : decode cX7_passLog 15 = .ok (.iastore, 1) := by decide +kernel
theorem dX7_passLog_16 : decode cX7_passLog 16 = .ok (.iinc 2 1, 3) := by decide +kernel
theorem dX7_passLog_19 : decode cX7_passLog 19 = .ok (.goto (-17), 3) := by decide +kernel
theorem dX7_passLog_22 : decode cX7_passLog 22 = .ok (.iconst 0, 1) := by decide +kernel
theorem dX7_passLog_23 : decode cX7_passLog 23 = .ok (.istore_n 2, 1) := by decide +kernel
theorem dX7_passLog_24 : decode cX7_passLog 24 = .ok (.iload_n 2, 1) := by decide +kernel
theorem dX7_passLog_25 : decode cX7_passLog 25 = .ok (.sipush 13824, 3) := by decide +kernel
theorem dX7_passLog_28 : decode cX7_passLog 28 = .ok (.if_icmp .ge 147, 3) := by decide +kernel
theorem dX7_passLog_31 : decode cX7_passLog 31 = .ok (.iconst 0, 1) := by decide +kernel
theorem dX7_passLog_32 : decode cX7_passLog 32 = .ok (.istore_n 3, 1) := by decide +kernel
theorem dX7_passLog_33 : decode cX7_passLog 33 = .ok (.iload_n 3, 1) := by decide +kernel
theorem dX7_passLog_34 : decode cX7_passLog 34 = .ok (.aload_n 0, 1) := by decide +kernel
theorem dX7_passLog_35 : decode cX7_passLog 35 = .ok (.getfield 104, 3) := by decide +kernel
theorem dX7_passLog_38 : decode cX7_passLog 38 = .ok (.if_icmp .ge 131, 3) := by decide +kernel
theorem dX7_passLog_41 : decode cX7_passLog 41 = .ok (.aload_n 0, 1) := by decide +kernel
theorem dX7_passLog_42 : decode cX7_passLog 42 = .ok (.getfield 37, 3) := by decide +kernel
theorem dX7_passLog_45 : decode cX7_passLog 45 = .ok (.iload_n 2, 1) := by decide +kernel
theorem dX7_passLog_46 : decode cX7_passLog 46 = .ok (.iaload, 1) := by decide +kernel
theorem dX7_passLog_47 : decode cX7_passLog 47 = .ok (.ifCond .le 122, 3) := by decide +kernel
theorem dX7_passLog_50 : decode cX7_passLog 50 = .ok (.aload_n 0, 1) := by decide +kernel
theorem dX7_passLog_51 : decode cX7_passLog 51 = .ok (.iload_n 3, 1) := by decide +kernel
theorem dX7_passLog_52 : decode cX7_passLog 52 = .ok (.iload_n 2, 1) := by decide +kernel
theorem dX7_passLog_53 : decode cX7_passLog 53 = .ok (.sipush 2304, 3) := by decide +kernel
theorem dX7_passLog_56 : decode cX7_passLog 56 = .ok (.idiv, 1) := by decide +kernel
theorem dX7_passLog_57 : decode cX7_passLog 57 = .ok (.invokevirtual 151, 3) := by decide +kernel
theorem dX7_passLog_60 : decode cX7_passLog 60 = .ok (.istore 4, 2) := by decide +kernel
theorem dX7_passLog_62 : decode cX7_passLog 62 = .ok (.iload 4, 2) := by decide +kernel
theorem dX7_passLog_64 : decode cX7_passLog 64 = .ok (.iconst (-1), 1) := by decide +kernel
theorem dX7_passLog_65 : decode cX7_passLog 65 = .ok (.if_icmp .eq 98, 3) := by decide +kernel
theorem dX7_passLog_68 : decode cX7_passLog 68 = .ok (.iload_n 1, 1) := by decide +kernel
theorem dX7_passLog_69 : decode cX7_passLog 69 = .ok (.iconst (-1), 1) := by decide +kernel
theorem dX7_passLog_70 : decode cX7_passLog 70 = .ok (.if_icmp .eq 9, 3) := by decide +kernel
theorem dX7_passLog_73 : decode cX7_passLog 73 = .ok (.iload_n 1, 1) := by decide +kernel
theorem dX7_passLog_74 : decode cX7_passLog 74 = .ok (.iload 4, 2) := by decide +kernel
theorem dX7_passLog_76 : decode cX7_passLog 76 = .ok (.if_icmp .ne 87, 3) := by decide +kernel
theorem dX7_passLog_79 : decode cX7_passLog 79 = .ok (.iload_n 2, 1) := by decide +kernel
theorem dX7_passLog_80 : decode cX7_passLog 80 = .ok (.sipush 2304, 3) := by decide +kernel
theorem dX7_passLog_83 : decode cX7_passLog 83 = .ok (.irem, 1) := by decide +kernel
theorem dX7_passLog_84 : decode cX7_passLog 84 = .ok (.bipush 9, 2) := by decide +kernel
theorem dX7_passLog_86 : decode cX7_passLog 86 = .ok (.idiv, 1) := by decide +kernel
theorem dX7_passLog_87 : decode cX7_passLog 87 = .ok (.istore 5, 2) := by decide +kernel
theorem dX7_passLog_89 : decode cX7_passLog 89 = .ok (.iload 5, 2) := by decide +kernel
theorem dX7_passLog_91 : decode cX7_passLog 91 = .ok (.iload_n 3, 1) := by decide +kernel
theorem dX7_passLog_92 : decode cX7_passLog 92 = .ok (.ishr, 1) := by decide +kernel
theorem dX7_passLog_93 : decode cX7_passLog 93 = .ok (.iconst 1, 1) := by decide +kernel
theorem dX7_passLog_94 : decode cX7_passLog 94 = .ok (.iand, 1) := by decide +kernel
theorem dX7_passLog_95 : decode cX7_passLog 95 = .ok (.ifCond .ne 15, 3) := by decide +kernel
theorem dX7_passLog_98 : decode cX7_passLog 98 = .ok (.aload_n 0, 1) := by decide +kernel
theorem dX7_passLog_99 : decode cX7_passLog 99 = .ok (.iload_n 3, 1) := by decide +kernel
theorem dX7_passLog_100 : decode cX7_passLog 100 = .ok (.invokevirtual 122, 3) := by decide +kernel
theorem dX7_passLog_103 : decode cX7_passLog 103 = .ok (.ifCond .le 7, 3) := by decide +kernel
theorem dX7_passLog_106 : decode cX7_passLog 106 = .ok (.iconst 1, 1) := by decide +kernel
theorem dX7_passLog_107 : decode cX7_passLog 107 = .ok (.goto 4, 3) := by decide +kernel
theorem dX7_passLog_110 : decode cX7_passLog 110 = .ok (.iconst 0, 1) := by decide +kernel
theorem dX7_passLog_111 : decode cX7_passLog 111 = .ok (.istore 6, 2) := by decide +kernel
theorem dX7_passLog_113 : decode cX7_passLog 113 = .ok (.iload 6, 2) := by decide +kernel
theorem dX7_passLog_115 : decode cX7_passLog 115 = .ok (.ifCond .eq 9, 3) := by decide +kernel
theorem dX7_passLog_118 : decode cX7_passLog 118 = .ok (.iload_n 3, 1) := by decide +kernel
theorem dX7_passLog_119 : decode cX7_passLog 119 = .ok (.iconst 1, 1) := by decide +kernel
theorem dX7_passLog_120 : decode cX7_passLog 120 = .ok (.iadd, 1) := by decide +kernel
theorem dX7_passLog_121 : decode cX7_passLog 121 = .ok (.goto 7, 3) := by decide +kernel
theorem dX7_passLog_124 : decode cX7_passLog 124 = .ok (.iload_n 2, 1) := by decide +kernel
theorem dX7_passLog_125 : decode cX7_passLog 125 = .ok (.bipush 9, 2) := by decide +kernel
theorem dX7_passLog_127 : decode cX7_passLog 127 = .ok (.irem, 1) := by decide +kernel
theorem dX7_passLog_128 : decode cX7_passLog 128 = .ok (.istore 7, 2) := by decide +kernel
theorem dX7_passLog_130 : decode cX7_passLog 130 = .ok (.aload_n 0, 1) := by decide +kernel
theorem dX7_passLog_131 : decode cX7_passLog 131 = .ok (.getfield 40, 3) := by decide +kernel
theorem dX7_passLog_134 : decode cX7_passLog 134 = .ok (.sipush 2304, 3) := by decide +kernel
theorem dX7_passLog_137 : decode cX7_passLog 137 = .ok (.iload 4, 2) := by decide +kernel
theorem dX7_passLog_139 : decode cX7_passLog 139 = .ok (.imul, 1) := by decide +kernel
theorem dX7_passLog_140 : decode cX7_passLog 140 = .ok (.bipush 9, 2) := by decide +kernel
theorem dX7_passLog_142 : decode cX7_passLog 142 = .ok (.iload 5, 2) := by decide +kernel
theorem dX7_passLog_144 : decode cX7_passLog 144 = .ok (.iconst 1, 1) := by decide +kernel
theorem dX7_passLog_145 : decode cX7_passLog 145 = .ok (.iload_n 3, 1) := by decide +kernel
theorem dX7_passLog_146 : decode cX7_passLog 146 = .ok (.ishl, 1) := by decide +kernel
theorem dX7_passLog_147 : decode cX7_passLog 147 = .ok (.ior, 1) := by decide +kernel
theorem dX7_passLog_148 : decode cX7_passLog 148 = .ok (.imul, 1) := by decide +kernel
theorem dX7_passLog_149 : decode cX7_passLog 149 = .ok (.iadd, 1) := by decide +kernel
theorem dX7_passLog_150 : decode cX7_passLog 150 = .ok (.iload 7, 2) := by decide +kernel
theorem dX7_passLog_152 : decode cX7_passLog 152 = .ok (.iadd, 1) := by decide +kernel
theorem dX7_passLog_153 : decode cX7_passLog 153 = .ok (.dup2, 1) := by decide +kernel
theorem dX7_passLog_154 : decode cX7_passLog 154 = .ok (.iaload, 1) := by decide +kernel
theorem dX7_passLog_155 : decode cX7_passLog 155 = .ok (.aload_n 0, 1) := by decide +kernel
theorem dX7_passLog_156 : decode cX7_passLog 156 = .ok (.getfield 37, 3) := by decide +kernel
theorem dX7_passLog_159 : decode cX7_passLog 159 = .ok (.iload_n 2, 1) := by decide +kernel
theorem dX7_passLog_160 : decode cX7_passLog 160 = .ok (.iaload, 1) := by decide +kernel
theorem dX7_passLog_161 : decode cX7_passLog 161 = .ok (.iadd, 1) := by decide +kernel
theorem dX7_passLog_162 : decode cX7_passLog 162 = .ok (.iastore, 1) := by decide +kernel
theorem dX7_passLog_163 : decode cX7_passLog 163 = .ok (.iinc 3 1, 3) := by decide +kernel
theorem dX7_passLog_166 : decode cX7_passLog 166 = .ok (.goto (-133), 3) := by decide +kernel
theorem dX7_passLog_169 : decode cX7_passLog 169 = .ok (.iinc 2 1, 3) := by decide +kernel
theorem dX7_passLog_172 : decode cX7_passLog 172 = .ok (.goto (-148), 3) := by decide +kernel
theorem dX7_passLog_175 : decode cX7_passLog 175 = .ok (.iconst 0, 1) := by decide +kernel
theorem dX7_passLog_176 : decode cX7_passLog 176 = .ok (.istore_n 2, 1) := by decide +kernel
theorem dX7_passLog_177 : decode cX7_passLog 177 = .ok (.iload_n 2, 1) := by decide +kernel
theorem dX7_passLog_178 : decode cX7_passLog 178 = .ok (.sipush 13824, 3) := by decide +kernel
theorem dX7_passLog_181 : decode cX7_passLog 181 = .ok (.if_icmp .ge 21, 3) := by decide +kernel
theorem dX7_passLog_184 : decode cX7_passLog 184 = .ok (.aload_n 0, 1) := by decide +kernel
theorem dX7_passLog_185 : decode cX7_passLog 185 = .ok (.getfield 37, 3) := by decide +kernel
theorem dX7_passLog_188 : decode cX7_passLog 188 = .ok (.iload_n 2, 1) := by decide +kernel
theorem dX7_passLog_189 : decode cX7_passLog 189 = .ok (.aload_n 0, 1) := by decide +kernel
theorem dX7_passLog_190 : decode cX7_passLog 190 = .ok (.getfield 40, 3) := by decide +kernel
theorem dX7_passLog_193 : decode cX7_passLog 193 = .ok (.iload_n 2, 1) := by decide +kernel
theorem dX7_passLog_194 : decode cX7_passLog 194 = .ok (.iaload, 1) := by decide +kernel
theorem dX7_passLog_195 : decode cX7_passLog 195 = .ok (.iastore, 1) := by decide +kernel
theorem dX7_passLog_196 : decode cX7_passLog 196 = .ok (.iinc 2 1, 3) := by decide +kernel
theorem dX7_passLog_199 : decode cX7_passLog 199 = .ok (.goto (-22), 3) := by decide +kernel
theorem dX7_passLog_202 : decode cX7_passLog 202 = .ok (.return_, 1) := by decide +kernel
theorem dX7_layLog_0 : decode cX7_layLog 0 = .ok (.iconst 0, 1) := by decide +kernel
theorem dX7_layLog_1 : decode cX7_layLog 1 = .ok (.istore_n 1, 1) := by decide +kernel
theorem dX7_layLog_2 : decode cX7_layLog 2 = .ok (.iload_n 1, 1) := by decide +kernel
theorem dX7_layLog_3 : decode cX7_layLog 3 = .ok (.sipush 13824, 3) := by decide +kernel
theorem dX7_layLog_6 : decode cX7_layLog 6 = .ok (.if_icmp .ge 16, 3) := by decide +kernel
theorem dX7_layLog_9 : decode cX7_layLog 9 = .ok (.aload_n 0, 1) := by decide +kernel
theorem dX7_layLog_10 : decode cX7_layLog 10 = .ok (.getfield 37, 3) := by decide +kernel
theorem dX7_layLog_13 : decode cX7_layLog 13 = .ok (.iload_n 1, 1) := by decide +kernel
theorem dX7_layLog_14 : decode cX7_layLog 14 = .ok (.iconst 0, 1) := by decide +kernel
theorem dX7_layLog_15 : decode cX7_layLog 15 = .ok (.iastore, 1) := by decide +kernel
theorem dX7_layLog_16 : decode cX7_layLog 16 = .ok (.iinc 1 1, 3) := by decide +kernel
theorem dX7_layLog_19 : decode cX7_layLog 19 = .ok (.goto (-17), 3) := by decide +kernel
theorem dX7_layLog_22 : decode cX7_layLog 22 = .ok (.aload_n 0, 1) := by decide +kernel
theorem dX7_layLog_23 : decode cX7_layLog 23 = .ok (.getfield 37, 3) := by decide +kernel
theorem dX7_layLog_26 : decode cX7_layLog 26 = .ok (.iconst 0, 1) := by decide +kernel
theorem dX7_layLog_27 : decode cX7_layLog 27 = .ok (.iconst 1, 1) := by decide +kernel
theorem dX7_layLog_28 : decode cX7_layLog 28 = .ok (.iastore, 1) := by decide +kernel
theorem dX7_layLog_29 : decode cX7_layLog 29 = .ok (.iconst 0, 1) := by decide +kernel
theorem dX7_layLog_30 : decode cX7_layLog 30 = .ok (.istore_n 1, 1) := by decide +kernel
theorem dX7_layLog_31 : decode cX7_layLog 31 = .ok (.iload_n 1, 1) := by decide +kernel
theorem dX7_layLog_32 : decode cX7_layLog 32 = .ok (.aload_n 0, 1) := by decide +kernel
theorem dX7_layLog_33 : decode cX7_layLog 33 = .ok (.getfield 116, 3) := by decide +kernel
theorem dX7_layLog_36 : decode cX7_layLog 36 = .ok (.if_icmp .ge 19, 3) := by decide +kernel
theorem dX7_layLog_39 : decode cX7_layLog 39 = .ok (.aload_n 0, 1) := by decide +kernel
theorem dX7_layLog_40 : decode cX7_layLog 40 = .ok (.aload_n 0, 1) := by decide +kernel
theorem dX7_layLog_41 : decode cX7_layLog 41 = .ok (.getfield 34, 3) := by decide +kernel
theorem dX7_layLog_44 : decode cX7_layLog 44 = .ok (.iload_n 1, 1) := by decide +kernel
theorem dX7_layLog_45 : decode cX7_layLog 45 = .ok (.iaload, 1) := by decide +kernel
theorem dX7_layLog_46 : decode cX7_layLog 46 = .ok (.invokevirtual 203, 3) := by decide +kernel
theorem dX7_layLog_49 : decode cX7_layLog 49 = .ok (.iinc 1 1, 3) := by decide +kernel
theorem dX7_layLog_52 : decode cX7_layLog 52 = .ok (.goto (-21), 3) := by decide +kernel
theorem dX7_layLog_55 : decode cX7_layLog 55 = .ok (.return_, 1) := by decide +kernel
theorem dX7_rowsBy_0 : decode cX7_rowsBy 0 = .ok (.aload_n 0, 1) := by decide +kernel
theorem dX7_rowsBy_1 : decode cX7_rowsBy 1 = .ok (.invokevirtual 206, 3) := by decide +kernel
theorem dX7_rowsBy_4 : decode cX7_rowsBy 4 = .ok (.iconst 0, 1) := by decide +kernel
theorem dX7_rowsBy_5 : decode cX7_rowsBy 5 = .ok (.istore_n 2, 1) := by decide +kernel
theorem dX7_rowsBy_6 : decode cX7_rowsBy 6 = .ok (.iconst 0, 1) := by decide +kernel
theorem dX7_rowsBy_7 : decode cX7_rowsBy 7 = .ok (.istore_n 3, 1) := by decide +kernel
theorem dX7_rowsBy_8 : decode cX7_rowsBy 8 = .ok (.iload_n 3, 1) := by decide +kernel
theorem dX7_rowsBy_9 : decode cX7_rowsBy 9 = .ok (.sipush 13824, 3) := by decide +kernel
theorem dX7_rowsBy_12 : decode cX7_rowsBy 12 = .ok (.if_icmp .ge 95, 3) := by decide +kernel
theorem dX7_rowsBy_15 : decode cX7_rowsBy 15 = .ok (.iconst 0, 1) := by decide +kernel
theorem dX7_rowsBy_16 : decode cX7_rowsBy 16 = .ok (.istore 4, 2) := by decide +kernel
theorem dX7_rowsBy_18 : decode cX7_rowsBy 18 = .ok (.iconst 0, 1) := by decide +kernel
theorem dX7_rowsBy_19 : decode cX7_rowsBy 19 = .ok (.istore 5, 2) := by decide +kernel
theorem dX7_rowsBy_21 : decode cX7_rowsBy 21 = .ok (.iload 5, 2) := by decide +kernel
theorem dX7_rowsBy_23 : decode cX7_rowsBy 23 = .ok (.aload_n 0, 1) := by decide +kernel
theorem dX7_rowsBy_24 : decode cX7_rowsBy 24 = .ok (.getfield 104, 3) := by decide +kernel
theorem dX7_rowsBy_27 : decode cX7_rowsBy 27 = .ok (.if_icmp .ge 50, 3) := by decide +kernel
theorem dX7_rowsBy_30 : decode cX7_rowsBy 30 = .ok (.aload_n 0, 1) := by decide +kernel
theorem dX7_rowsBy_31 : decode cX7_rowsBy 31 = .ok (.getfield 37, 3) := by decide +kernel
theorem dX7_rowsBy_34 : decode cX7_rowsBy 34 = .ok (.iload_n 3, 1) := by decide +kernel
theorem dX7_rowsBy_35 : decode cX7_rowsBy 35 = .ok (.iaload, 1) := by decide +kernel
theorem dX7_rowsBy_36 : decode cX7_rowsBy 36 = .ok (.ifCond .le 41, 3) := by decide +kernel
theorem dX7_rowsBy_39 : decode cX7_rowsBy 39 = .ok (.iload 4, 2) := by decide +kernel
theorem dX7_rowsBy_41 : decode cX7_rowsBy 41 = .ok (.iload_n 3, 1) := by decide +kernel
theorem dX7_rowsBy_42 : decode cX7_rowsBy 42 = .ok (.sipush 2304, 3) := by decide +kernel
theorem dX7_rowsBy_45 : decode cX7_rowsBy 45 = .ok (.irem, 1) := by decide +kernel
theorem dX7_rowsBy_46 : decode cX7_rowsBy 46 = .ok (.bipush 9, 2) := by decide +kernel
theorem dX7_rowsBy_48 : decode cX7_rowsBy 48 = .ok (.idiv, 1) := by decide +kernel
theorem dX7_rowsBy_49 : decode cX7_rowsBy 49 = .ok (.iload 5, 2) := by decide +kernel
theorem dX7_rowsBy_51 : decode cX7_rowsBy 51 = .ok (.ishr, 1) := by decide +kernel
theorem dX7_rowsBy_52 : decode cX7_rowsBy 52 = .ok (.iconst 1, 1) := by decide +kernel
theorem dX7_rowsBy_53 : decode cX7_rowsBy 53 = .ok (.iand, 1) := by decide +kernel
theorem dX7_rowsBy_54 : decode cX7_rowsBy 54 = .ok (.iconst 1, 1) := by decide +kernel
theorem dX7_rowsBy_55 : decode cX7_rowsBy 55 = .ok (.if_icmp .ne 12, 3) := by decide +kernel
theorem dX7_rowsBy_58 : decode cX7_rowsBy 58 = .ok (.aload_n 0, 1) := by decide +kernel
theorem dX7_rowsBy_59 : decode cX7_rowsBy 59 = .ok (.iload 5, 2) := by decide +kernel
theorem dX7_rowsBy_61 : decode cX7_rowsBy 61 = .ok (.invokevirtual 122, 3) := by decide +kernel
theorem dX7_rowsBy_64 : decode cX7_rowsBy 64 = .ok (.goto 4, 3) := by decide +kernel
theorem dX7_rowsBy_67 : decode cX7_rowsBy 67 = .ok (.iconst 0, 1) := by decide +kernel
theorem dX7_rowsBy_68 : decode cX7_rowsBy 68 = .ok (.iadd, 1) := by decide +kernel
theorem dX7_rowsBy_69 : decode cX7_rowsBy 69 = .ok (.istore 4, 2) := by decide +kernel
theorem dX7_rowsBy_71 : decode cX7_rowsBy 71 = .ok (.iinc 5 1, 3) := by decide +kernel
theorem dX7_rowsBy_74 : decode cX7_rowsBy 74 = .ok (.goto (-53), 3) := by decide +kernel
theorem dX7_rowsBy_77 : decode cX7_rowsBy 77 = .ok (.iload_n 2, 1) := by decide +kernel
theorem dX7_rowsBy_78 : decode cX7_rowsBy 78 = .ok (.iload_n 1, 1) := by decide +kernel
theorem dX7_rowsBy_79 : decode cX7_rowsBy 79 = .ok (.iconst (-1), 1) := by decide +kernel
theorem dX7_rowsBy_80 : decode cX7_rowsBy 80 = .ok (.if_icmp .eq 9, 3) := by decide +kernel
theorem dX7_rowsBy_83 : decode cX7_rowsBy 83 = .ok (.iload 4, 2) := by decide +kernel
theorem dX7_rowsBy_85 : decode cX7_rowsBy 85 = .ok (.iload_n 1, 1) := by decide +kernel
theorem dX7_rowsBy_86 : decode cX7_rowsBy 86 = .ok (.if_icmp .ne 12, 3) := by decide +kernel
theorem dX7_rowsBy_89 : decode cX7_rowsBy 89 = .ok (.aload_n 0, 1) := by decide +kernel
theorem dX7_rowsBy_90 : decode cX7_rowsBy 90 = .ok (.getfield 37, 3) := by decide +kernel
theorem dX7_rowsBy_93 : decode cX7_rowsBy 93 = .ok (.iload_n 3, 1) := by decide +kernel
theorem dX7_rowsBy_94 : decode cX7_rowsBy 94 = .ok (.iaload, 1) := by decide +kernel
theorem dX7_rowsBy_95 : decode cX7_rowsBy 95 = .ok (.goto 4, 3) := by decide +kernel
theorem dX7_rowsBy_98 : decode cX7_rowsBy 98 = .ok (.iconst 0, 1) := by decide +kernel
theorem dX7_rowsBy_99 : decode cX7_rowsBy 99 = .ok (.iadd, 1) := by decide +kernel
theorem dX7_rowsBy_100 : decode cX7_rowsBy 100 = .ok (.istore_n 2, 1) := by decide +kernel
theorem dX7_rowsBy_101 : decode cX7_rowsBy 101 = .ok (.iinc 3 1, 3) := by decide +kernel
theorem dX7_rowsBy_104 : decode cX7_rowsBy 104 = .ok (.goto (-96), 3) := by decide +kernel
theorem dX7_rowsBy_107 : decode cX7_rowsBy 107 = .ok (.iload_n 2, 1) := by decide +kernel
theorem dX7_rowsBy_108 : decode cX7_rowsBy 108 = .ok (.ireturn, 1) := by decide +kernel
theorem dX7_walks_0 : decode cX7_walks 0 = .ok (.aload_n 0, 1) := by decide +kernel
theorem dX7_walks_1 : decode cX7_walks 1 = .ok (.invokevirtual 134, 3) := by decide +kernel
theorem dX7_walks_4 : decode cX7_walks 4 = .ok (.ifCond .eq 8, 3) := by decide +kernel
theorem dX7_walks_7 : decode cX7_walks 7 = .ok (.bipush (-103), 2) := by decide +kernel
theorem dX7_walks_9 : decode cX7_walks 9 = .ok (.goto 8, 3) := by decide +kernel
theorem dX7_walks_12 : decode cX7_walks 12 = .ok (.aload_n 0, 1) := by decide +kernel
theorem dX7_walks_13 : decode cX7_walks 13 = .ok (.iconst (-1), 1) := by decide +kernel
theorem dX7_walks_14 : decode cX7_walks 14 = .ok (.invokevirtual 209, 3) := by decide +kernel
theorem dX7_walks_17 : decode cX7_walks 17 = .ok (.ireturn, 1) := by decide +kernel
theorem dX7_walksBy_0 : decode cX7_walksBy 0 = .ok (.iload_n 1, 1) := by decide +kernel
theorem dX7_walksBy_1 : decode cX7_walksBy 1 = .ok (.i2l, 1) := by decide +kernel
theorem dX7_walksBy_2 : decode cX7_walksBy 2 = .ok (.lconst 0, 1) := by decide +kernel
theorem dX7_walksBy_3 : decode cX7_walksBy 3 = .ok (.ldc2_w 95, 3) := by decide +kernel
theorem dX7_walksBy_6 : decode cX7_walksBy 6 = .ok (.invokestatic 67, 3) := by decide +kernel
theorem dX7_walksBy_9 : decode cX7_walksBy 9 = .ok (.ifCond .ne 6, 3) := by decide +kernel
theorem dX7_walksBy_12 : decode cX7_walksBy 12 = .ok (.bipush (-102), 2) := by decide +kernel
theorem dX7_walksBy_14 : decode cX7_walksBy 14 = .ok (.ireturn, 1) := by decide +kernel
theorem dX7_walksBy_15 : decode cX7_walksBy 15 = .ok (.aload_n 0, 1) := by decide +kernel
theorem dX7_walksBy_16 : decode cX7_walksBy 16 = .ok (.invokevirtual 134, 3) := by decide +kernel
theorem dX7_walksBy_19 : decode cX7_walksBy 19 = .ok (.ifCond .eq 8, 3) := by decide +kernel
theorem dX7_walksBy_22 : decode cX7_walksBy 22 = .ok (.bipush (-103), 2) := by decide +kernel
theorem dX7_walksBy_24 : decode cX7_walksBy 24 = .ok (.goto 8, 3) := by decide +kernel
theorem dX7_walksBy_27 : decode cX7_walksBy 27 = .ok (.aload_n 0, 1) := by decide +kernel
theorem dX7_walksBy_28 : decode cX7_walksBy 28 = .ok (.iload_n 1, 1) := by decide +kernel
theorem dX7_walksBy_29 : decode cX7_walksBy 29 = .ok (.invokevirtual 209, 3) := by decide +kernel
theorem dX7_walksBy_32 : decode cX7_walksBy 32 = .ok (.ireturn, 1) := by decide +kernel
theorem dX7_lastOf_0 : decode cX7_lastOf 0 = .ok (.aload_n 0, 1) := by decide +kernel
theorem dX7_lastOf_1 : decode cX7_lastOf 1 = .ok (.invokevirtual 206, 3) := by decide +kernel
theorem dX7_lastOf_4 : decode cX7_lastOf 4 = .ok (.iconst 0, 1) := by decide +kernel
theorem dX7_lastOf_5 : decode cX7_lastOf 5 = .ok (.istore_n 1, 1) := by decide +kernel
theorem dX7_lastOf_6 : decode cX7_lastOf 6 = .ok (.iconst 0, 1) := by decide +kernel
theorem dX7_lastOf_7 : decode cX7_lastOf 7 = .ok (.istore_n 2, 1) := by decide +kernel
theorem dX7_lastOf_8 : decode cX7_lastOf 8 = .ok (.iload_n 2, 1) := by decide +kernel
theorem dX7_lastOf_9 : decode cX7_lastOf 9 = .ok (.sipush 13824, 3) := by decide +kernel
theorem dX7_lastOf_12 : decode cX7_lastOf 12 = .ok (.if_icmp .ge 31, 3) := by decide +kernel
theorem dX7_lastOf_15 : decode cX7_lastOf 15 = .ok (.iload_n 1, 1) := by decide +kernel
theorem dX7_lastOf_16 : decode cX7_lastOf 16 = .ok (.aload_n 0, 1) := by decide +kernel
theorem dX7_lastOf_17 : decode cX7_lastOf 17 = .ok (.getfield 37, 3) := by decide +kernel
theorem dX7_lastOf_20 : decode cX7_lastOf 20 = .ok (.iload_n 2, 1) := by decide +kernel
theorem dX7_lastOf_21 : decode cX7_lastOf 21 = .ok (.iaload, 1) := by decide +kernel
theorem dX7_lastOf_22 : decode cX7_lastOf 22 = .ok (.ifCond .le 12, 3) := by decide +kernel
theorem dX7_lastOf_25 : decode cX7_lastOf 25 = .ok (.iconst 1, 1) := by decide +kernel
theorem dX7_lastOf_26 : decode cX7_lastOf 26 = .ok (.iload_n 2, 1) := by decide +kernel
theorem dX7_lastOf_27 : decode cX7_lastOf 27 = .ok (.bipush 9, 2) := by decide +kernel
theorem dX7_lastOf_29 : decode cX7_lastOf 29 = .ok (.irem, 1) := by decide +kernel
theorem dX7_lastOf_30 : decode cX7_lastOf 30 = .ok (.ishl, 1) := by decide +kernel
theorem dX7_lastOf_31 : decode cX7_lastOf 31 = .ok (.goto 4, 3) := by decide +kernel
theorem dX7_lastOf_34 : decode cX7_lastOf 34 = .ok (.iconst 0, 1) := by decide +kernel
theorem dX7_lastOf_35 : decode cX7_lastOf 35 = .ok (.ior, 1) := by decide +kernel
theorem dX7_lastOf_36 : decode cX7_lastOf 36 = .ok (.istore_n 1, 1) := by decide +kernel
theorem dX7_lastOf_37 : decode cX7_lastOf 37 = .ok (.iinc 2 1, 3) := by decide +kernel
theorem dX7_lastOf_40 : decode cX7_lastOf 40 = .ok (.goto (-32), 3) := by decide +kernel
theorem dX7_lastOf_43 : decode cX7_lastOf 43 = .ok (.iconst 0, 1) := by decide +kernel
theorem dX7_lastOf_44 : decode cX7_lastOf 44 = .ok (.istore_n 2, 1) := by decide +kernel
theorem dX7_lastOf_45 : decode cX7_lastOf 45 = .ok (.iload_n 2, 1) := by decide +kernel
theorem dX7_lastOf_46 : decode cX7_lastOf 46 = .ok (.bipush 8, 2) := by decide +kernel
theorem dX7_lastOf_48 : decode cX7_lastOf 48 = .ok (.if_icmp .ge 18, 3) := by decide +kernel
theorem dX7_lastOf_51 : decode cX7_lastOf 51 = .ok (.iload_n 1, 1) := by decide +kernel
theorem dX7_lastOf_52 : decode cX7_lastOf 52 = .ok (.iconst 2, 1) := by decide +kernel
theorem dX7_lastOf_53 : decode cX7_lastOf 53 = .ok (.iload_n 2, 1) := by decide +kernel
theorem dX7_lastOf_54 : decode cX7_lastOf 54 = .ok (.ishl, 1) := by decide +kernel
theorem dX7_lastOf_55 : decode cX7_lastOf 55 = .ok (.if_icmp .ne 5, 3) := by decide +kernel
theorem dX7_lastOf_58 : decode cX7_lastOf 58 = .ok (.iload_n 2, 1) := by decide +kernel
theorem dX7_lastOf_59 : decode cX7_lastOf 59 = .ok (.ireturn, 1) := by decide +kernel
theorem dX7_lastOf_60 : decode cX7_lastOf 60 = .ok (.iinc 2 1, 3) := by decide +kernel
theorem dX7_lastOf_63 : decode cX7_lastOf 63 = .ok (.goto (-18), 3) := by decide +kernel
theorem dX7_lastOf_66 : decode cX7_lastOf 66 = .ok (.iconst (-1), 1) := by decide +kernel
theorem dX7_lastOf_67 : decode cX7_lastOf 67 = .ok (.ireturn, 1) := by decide +kernel
theorem dX7_last_0 : decode cX7_last 0 = .ok (.aload_n 0, 1) := by decide +kernel
theorem dX7_last_1 : decode cX7_last 1 = .ok (.invokevirtual 134, 3) := by decide +kernel
theorem dX7_last_4 : decode cX7_last 4 = .ok (.ifCond .eq 8, 3) := by decide +kernel
theorem dX7_last_7 : decode cX7_last 7 = .ok (.bipush (-103), 2) := by decide +kernel
theorem dX7_last_9 : decode cX7_last 9 = .ok (.goto 7, 3) := by decide +kernel
theorem dX7_last_12 : decode cX7_last 12 = .ok (.aload_n 0, 1) := by decide +kernel
theorem dX7_last_13 : decode cX7_last 13 = .ok (.invokevirtual 212, 3) := by decide +kernel
theorem dX7_last_16 : decode cX7_last 16 = .ok (.ireturn, 1) := by decide +kernel
theorem dX7_draw_0 : decode cX7_draw 0 = .ok (.aload_n 0, 1) := by decide +kernel
theorem dX7_draw_1 : decode cX7_draw 1 = .ok (.ldc2_w 215, 3) := by decide +kernel
theorem dX7_draw_4 : decode cX7_draw 4 = .ok (.aload_n 0, 1) := by decide +kernel
theorem dX7_draw_5 : decode cX7_draw 5 = .ok (.getfield 217, 3) := by decide +kernel
theorem dX7_draw_8 : decode cX7_draw 8 = .ok (.i2l, 1) := by decide +kernel
theorem dX7_draw_9 : decode cX7_draw 9 = .ok (.lmul, 1) := by decide +kernel
theorem dX7_draw_10 : decode cX7_draw 10 = .ok (.ldc2_w 220, 3) := by decide +kernel
theorem dX7_draw_13 : decode cX7_draw 13 = .ok (.ladd, 1) := by decide +kernel
theorem dX7_draw_14 : decode cX7_draw 14 = .ok (.ldc2_w 222, 3) := by decide +kernel
theorem dX7_draw_17 : decode cX7_draw 17 = .ok (.land, 1) := by decide +kernel
theorem dX7_draw_18 : decode cX7_draw 18 = .ok (.l2i, 1) := by decide +kernel
theorem dX7_draw_19 : decode cX7_draw 19 = .ok (.putfield 217, 3) := by decide +kernel
theorem dX7_draw_22 : decode cX7_draw 22 = .ok (.aload_n 0, 1) := by decide +kernel
theorem dX7_draw_23 : decode cX7_draw 23 = .ok (.getfield 217, 3) := by decide +kernel
theorem dX7_draw_26 : decode cX7_draw 26 = .ok (.ldc 224, 2) := by decide +kernel
theorem dX7_draw_28 : decode cX7_draw 28 = .ok (.idiv, 1) := by decide +kernel
theorem dX7_draw_29 : decode cX7_draw 29 = .ok (.iload_n 1, 1) := by decide +kernel
theorem dX7_draw_30 : decode cX7_draw 30 = .ok (.irem, 1) := by decide +kernel
theorem dX7_draw_31 : decode cX7_draw 31 = .ok (.ireturn, 1) := by decide +kernel
theorem dX7_copy_0 : decode cX7_copy 0 = .ok (.iconst 0, 1) := by decide +kernel
theorem dX7_copy_1 : decode cX7_copy 1 = .ok (.istore_n 2, 1) := by decide +kernel
theorem dX7_copy_2 : decode cX7_copy 2 = .ok (.iload_n 2, 1) := by decide +kernel
theorem dX7_copy_3 : decode cX7_copy 3 = .ok (.aload_n 0, 1) := by decide +kernel
theorem dX7_copy_4 : decode cX7_copy 4 = .ok (.arraylength, 1) := by decide +kernel
theorem dX7_copy_5 : decode cX7_copy 5 = .ok (.if_icmp .ge 15, 3) := by decide +kernel
theorem dX7_copy_8 : decode cX7_copy 8 = .ok (.aload_n 1, 1) := by decide +kernel
theorem dX7_copy_9 : decode cX7_copy 9 = .ok (.iload_n 2, 1) := by decide +kernel
theorem dX7_copy_10 : decode cX7_copy 10 = .ok (.aload_n 0, 1) := by decide +kernel
theorem dX7_copy_11 : decode cX7_copy 11 = .ok (.iload_n 2, 1) := by decide +kernel
theorem dX7_copy_12 : decode cX7_copy 12 = .ok (.iaload, 1) := by decide +kernel
theorem dX7_copy_13 : decode cX7_copy 13 = .ok (.iastore, 1) := by decide +kernel
theorem dX7_copy_14 : decode cX7_copy 14 = .ok (.iinc 2 1, 3) := by decide +kernel
theorem dX7_copy_17 : decode cX7_copy 17 = .ok (.goto (-15), 3) := by decide +kernel
theorem dX7_copy_20 : decode cX7_copy 20 = .ok (.return_, 1) := by decide +kernel
theorem dX7_sumOf_0 : decode cX7_sumOf 0 = .ok (.iconst 0, 1) := by decide +kernel
theorem dX7_sumOf_1 : decode cX7_sumOf 1 = .ok (.istore_n 2, 1) := by decide +kernel
theorem dX7_sumOf_2 : decode cX7_sumOf 2 = .ok (.iconst 0, 1) := by decide +kernel
theorem dX7_sumOf_3 : decode cX7_sumOf 3 = .ok (.istore_n 3, 1) := by decide +kernel
theorem dX7_sumOf_4 : decode cX7_sumOf 4 = .ok (.iload_n 3, 1) := by decide +kernel
theorem dX7_sumOf_5 : decode cX7_sumOf 5 = .ok (.aload_n 0, 1) := by decide +kernel
theorem dX7_sumOf_6 : decode cX7_sumOf 6 = .ok (.getfield 110, 3) := by decide +kernel
theorem dX7_sumOf_9 : decode cX7_sumOf 9 = .ok (.if_icmp .ge 22, 3) := by decide +kernel
theorem dX7_sumOf_12 : decode cX7_sumOf 12 = .ok (.iload_n 2, 1) := by decide +kernel
theorem dX7_sumOf_13 : decode cX7_sumOf 13 = .ok (.aload_n 0, 1) := by decide +kernel
theorem dX7_sumOf_14 : decode cX7_sumOf 14 = .ok (.getfield 19, 3) := by decide +kernel
theorem dX7_sumOf_17 : decode cX7_sumOf 17 = .ok (.iconst 5, 1) := by decide +kernel
theorem dX7_sumOf_18 : decode cX7_sumOf 18 = .ok (.iload_n 3, 1) := by decide +kernel
theorem dX7_sumOf_19 : decode cX7_sumOf 19 = .ok (.imul, 1) := by decide +kernel
theorem dX7_sumOf_20 : decode cX7_sumOf 20 = .ok (.iload_n 1, 1) := by decide +kernel
theorem dX7_sumOf_21 : decode cX7_sumOf 21 = .ok (.iadd, 1) := by decide +kernel
theorem dX7_sumOf_22 : decode cX7_sumOf 22 = .ok (.iaload, 1) := by decide +kernel
theorem dX7_sumOf_23 : decode cX7_sumOf 23 = .ok (.iadd, 1) := by decide +kernel
theorem dX7_sumOf_24 : decode cX7_sumOf 24 = .ok (.istore_n 2, 1) := by decide +kernel
theorem dX7_sumOf_25 : decode cX7_sumOf 25 = .ok (.iinc 3 1, 3) := by decide +kernel
theorem dX7_sumOf_28 : decode cX7_sumOf 28 = .ok (.goto (-24), 3) := by decide +kernel
theorem dX7_sumOf_31 : decode cX7_sumOf 31 = .ok (.iload_n 2, 1) := by decide +kernel
theorem dX7_sumOf_32 : decode cX7_sumOf 32 = .ok (.ireturn, 1) := by decide +kernel
theorem dX7_months_0 : decode cX7_months 0 = .ok (.iload_n 1, 1) := by decide +kernel
theorem dX7_months_1 : decode cX7_months 1 = .ok (.i2l, 1) := by decide +kernel
theorem dX7_months_2 : decode cX7_months 2 = .ok (.lconst 1, 1) := by decide +kernel
theorem dX7_months_3 : decode cX7_months 3 = .ok (.ldc2_w 95, 3) := by decide +kernel
theorem dX7_months_6 : decode cX7_months 6 = .ok (.invokestatic 67, 3) := by decide +kernel
theorem dX7_months_9 : decode cX7_months 9 = .ok (.ifCond .eq 19, 3) := by decide +kernel
theorem dX7_months_12 : decode cX7_months 12 = .ok (.iload_n 2, 1) := by decide +kernel
theorem dX7_months_13 : decode cX7_months 13 = .ok (.ifCond .lt 15, 3) := by decide +kernel
theorem dX7_months_16 : decode cX7_months 16 = .ok (.iload_n 3, 1) := by decide +kernel
theorem dX7_months_17 : decode cX7_months 17 = .ok (.i2l, 1) := by decide +kernel
theorem dX7_months_18 : decode cX7_months 18 = .ok (.lconst 0, 1) := by decide +kernel
theorem dX7_months_19 : decode cX7_months 19 = .ok (.ldc2_w 225, 3) := by decide +kernel
theorem dX7_months_22 : decode cX7_months 22 = .ok (.invokestatic 67, 3) := by decide +kernel
theorem dX7_months_25 : decode cX7_months 25 = .ok (.ifCond .ne 6, 3) := by decide +kernel
theorem dX7_months_28 : decode cX7_months 28 = .ok (.bipush (-102), 2) := by decide +kernel
theorem dX7_months_30 : decode cX7_months 30 = .ok (.ireturn, 1) := by decide +kernel
theorem dX7_months_31 : decode cX7_months 31 = .ok (.aload_n 0, 1) := by decide +kernel
theorem dX7_months_32 : decode cX7_months 32 = .ok (.invokevirtual 134, 3) := by decide +kernel
theorem dX7_months_35 : decode cX7_months 35 = .ok (.ifCond .eq 6, 3) := by decide +kernel
theorem dX7_months_38 : decode cX7_months 38 = .ok (.bipush (-103), 2) := by decide +kernel
theorem dX7_months_40 : decode cX7_months 40 = .ok (.ireturn, 1) := by decide +kernel
theorem dX7_months_41 : decode cX7_months 41 = .ok (.aload_n 0, 1) := by decide +kernel
theorem dX7_months_42 : decode cX7_months 42 = .ok (.getfield 19, 3) := by decide +kernel
theorem dX7_months_45 : decode cX7_months 45 = .ok (.aload_n 0, 1) := by decide +kernel
theorem dX7_months_46 : decode cX7_months 46 = .ok (.getfield 43, 3) := by decide +kernel
theorem dX7_months_49 : decode cX7_months 49 = .ok (.invokestatic 227, 3) := by decide +kernel
theorem dX7_months_52 : decode cX7_months 52 = .ok (.aload_n 0, 1) := by decide +kernel
theorem dX7_months_53 : decode cX7_months 53 = .ok (.getfield 22, 3) := by decide +kernel
theorem dX7_months_56 : decode cX7_months 56 = .ok (.aload_n 0, 1) := by decide +kernel
theorem dX7_months_57 : decode cX7_months 57 = .ok (.getfield 46, 3) := by decide +kernel
theorem dX7_months_60 : decode cX7_months 60 = .ok (.invokestatic 227, 3) := by decide +kernel
theorem dX7_months_63 : decode cX7_months 63 = .ok (.aload_n 0, 1) := by decide +kernel
theorem dX7_months_64 : decode cX7_months 64 = .ok (.iload_n 2, 1) := by decide +kernel
theorem dX7_months_65 : decode cX7_months 65 = .ok (.putfield 217, 3) := by decide +kernel
theorem dX7_months_68 : decode cX7_months 68 = .ok (.iconst 0, 1) := by decide +kernel
theorem dX7_months_69 : decode cX7_months 69 = .ok (.istore 4, 2) := by decide +kernel
theorem dX7_months_71 : decode cX7_months 71 = .ok (.iload 4, 2) := by decide +kernel
theorem dX7_months_73 : decode cX7_months 73 = .ok (.iload_n 1, 1) := by decide +kernel
theorem dX7_months_74 : decode cX7_months 74 = .ok (.if_icmp .ge 108, 3) := by decide +kernel
theorem dX7_months_77 : decode cX7_months 77 = .ok (.iconst 0, 1) := by decide +kernel
theorem dX7_months_78 : decode cX7_months 78 = .ok (.istore 5, 2) := by decide +kernel
theorem dX7_months_80 : decode cX7_months 80 = .ok (.iload 5, 2) := by decide +kernel
theorem dX7_months_82 : decode cX7_months 82 = .ok (.aload_n 0, 1) := by decide +kernel
theorem dX7_months_83 : decode cX7_months 83 = .ok (.getfield 110, 3) := by decide +kernel
theorem dX7_months_86 : decode cX7_months 86 = .ok (.if_icmp .ge 90, 3) := by decide +kernel
theorem dX7_months_89 : decode cX7_months 89 = .ok (.aload_n 0, 1) := by decide +kernel
theorem dX7_months_90 : decode cX7_months 90 = .ok (.iload 5, 2) := by decide +kernel
theorem dX7_months_92 : decode cX7_months 92 = .ok (.invokevirtual 148, 3) := by decide +kernel
theorem dX7_months_95 : decode cX7_months 95 = .ok (.ifCond .ne 75, 3) := by decide +kernel
theorem dX7_months_98 : decode cX7_months 98 = .ok (.aload_n 0, 1) := by decide +kernel
theorem dX7_months_99 : decode cX7_months 99 = .ok (.aload_n 0, 1) := by decide +kernel
theorem dX7_months_100 : decode cX7_months 100 = .ok (.getfield 104, 3) := by decide +kernel
theorem dX7_months_103 : decode cX7_months 103 = .ok (.invokevirtual 231, 3) := by decide +kernel
theorem dX7_months_106 : decode cX7_months 106 = .ok (.istore 6, 2) := by decide +kernel
theorem dX7_months_108 : decode cX7_months 108 = .ok (.aload_n 0, 1) := by decide +kernel
theorem dX7_months_109 : decode cX7_months 109 = .ok (.iload 5, 2) := by decide +kernel
theorem dX7_months_111 : decode cX7_months 111 = .ok (.iload 6, 2) := by decide +kernel
theorem dX7_months_113 : decode cX7_months 113 = .ok (.aload_n 0, 1) := by decide +kernel
theorem dX7_months_114 : decode cX7_months 114 = .ok (.getfield 16, 3) := by decide +kernel
theorem dX7_months_117 : decode cX7_months 117 = .ok (.iconst 5, 1) := by decide +kernel
theorem dX7_months_118 : decode cX7_months 118 = .ok (.iload 6, 2) := by decide +kernel
theorem dX7_months_120 : decode cX7_months 120 = .ok (.imul, 1) := by decide +kernel
theorem dX7_months_121 : decode cX7_months 121 = .ok (.iconst 3, 1) := by decide +kernel
theorem dX7_months_122 : decode cX7_months 122 = .ok (.iadd, 1) := by decide +kernel
theorem dX7_months_123 : decode cX7_months 123 = .ok (.iaload, 1) := by decide +kernel
theorem dX7_months_124 : decode cX7_months 124 = .ok (.invokevirtual 154, 3) := by decide +kernel
theorem dX7_months_127 : decode cX7_months 127 = .ok (.ifCond .eq 31, 3) := by decide +kernel
theorem dX7_months_130 : decode cX7_months 130 = .ok (.aload_n 0, 1) := by decide +kernel
theorem dX7_months_131 : decode cX7_months 131 = .ok (.iload 5, 2) := by decide +kernel
theorem dX7_months_133 : decode cX7_months 133 = .ok (.iload 6, 2) := by decide +kernel
theorem dX7_months_135 : decode cX7_months 135 = .ok (.aload_n 0, 1) := by decide +kernel
theorem dX7_months_136 : decode cX7_months 136 = .ok (.getfield 16, 3) := by decide +kernel
theorem dX7_months_139 : decode cX7_months 139 = .ok (.iconst 5, 1) := by decide +kernel
theorem dX7_months_140 : decode cX7_months 140 = .ok (.iload 6, 2) := by decide +kernel
theorem dX7_months_142 : decode cX7_months 142 = .ok (.imul, 1) := by decide +kernel
theorem dX7_months_143 : decode cX7_months 143 = .ok (.iconst 3, 1) := by decide +kernel
theorem dX7_months_144 : decode cX7_months 144 = .ok (.iadd, 1) := by decide +kernel
theorem dX7_months_145 : decode cX7_months 145 = .ok (.iaload, 1) := by decide +kernel
theorem dX7_months_146 : decode cX7_months 146 = .ok (.aload_n 0, 1) := by decide +kernel
theorem dX7_months_147 : decode cX7_months 147 = .ok (.iload 6, 2) := by decide +kernel
theorem dX7_months_149 : decode cX7_months 149 = .ok (.invokevirtual 122, 3) := by decide +kernel
theorem dX7_months_152 : decode cX7_months 152 = .ok (.invokevirtual 158, 3) := by decide +kernel
theorem dX7_months_155 : decode cX7_months 155 = .ok (.goto 9, 3) := by decide +kernel
theorem dX7_months_158 : decode cX7_months 158 = .ok (.aload_n 0, 1) := by decide +kernel
theorem dX7_months_159 : decode cX7_months 159 = .ok (.iload 5, 2) := by decide +kernel
theorem dX7_months_161 : decode cX7_months 161 = .ok (.invokevirtual 162, 3) := by decide +kernel
theorem dX7_months_164 : decode cX7_months 164 = .ok (.aload_n 0, 1) := by decide +kernel
theorem dX7_months_165 : decode cX7_months 165 = .ok (.iload 5, 2) := by decide +kernel
theorem dX7_months_167 : decode cX7_months 167 = .ok (.invokevirtual 166, 3) := by decide +kernel
theorem dX7_months_170 : decode cX7_months 170 = .ok (.iinc 5 1, 3) := by decide +kernel
theorem dX7_months_173 : decode cX7_months 173 = .ok (.goto (-93), 3) := by decide +kernel
theorem dX7_months_176 : decode cX7_months 176 = .ok (.iinc 4 1, 3) := by decide +kernel
theorem dX7_months_179 : decode cX7_months 179 = .ok (.goto (-108), 3) := by decide +kernel
theorem dX7_months_182 : decode cX7_months 182 = .ok (.iload_n 3, 1) := by decide +kernel
theorem dX7_months_183 : decode cX7_months 183 = .ok (.ifCond .ne 11, 3) := by decide +kernel
theorem dX7_months_186 : decode cX7_months 186 = .ok (.aload_n 0, 1) := by decide +kernel
theorem dX7_months_187 : decode cX7_months 187 = .ok (.iconst 3, 1) := by decide +kernel
theorem dX7_months_188 : decode cX7_months 188 = .ok (.invokevirtual 234, 3) := by decide +kernel
theorem dX7_months_191 : decode cX7_months 191 = .ok (.goto 33, 3) := by decide +kernel
theorem dX7_months_194 : decode cX7_months 194 = .ok (.iload_n 3, 1) := by decide +kernel
theorem dX7_months_195 : decode cX7_months 195 = .ok (.iconst 1, 1) := by decide +kernel
theorem dX7_months_196 : decode cX7_months 196 = .ok (.if_icmp .ne 11, 3) := by decide +kernel
theorem dX7_months_199 : decode cX7_months 199 = .ok (.aload_n 0, 1) := by decide +kernel
theorem dX7_months_200 : decode cX7_months 200 = .ok (.iconst 1, 1) := by decide +kernel
theorem dX7_months_201 : decode cX7_months 201 = .ok (.invokevirtual 234, 3) := by decide +kernel
theorem dX7_months_204 : decode cX7_months 204 = .ok (.goto 20, 3) := by decide +kernel
theorem dX7_months_207 : decode cX7_months 207 = .ok (.iload_n 3, 1) := by decide +kernel
theorem dX7_months_208 : decode cX7_months 208 = .ok (.iconst 2, 1) := by decide +kernel
theorem dX7_months_209 : decode cX7_months 209 = .ok (.if_icmp .ne 11, 3) := by decide +kernel
theorem dX7_months_212 : decode cX7_months 212 = .ok (.aload_n 0, 1) := by decide +kernel
theorem dX7_months_213 : decode cX7_months 213 = .ok (.iconst 2, 1) := by decide +kernel
theorem dX7_months_214 : decode cX7_months 214 = .ok (.invokevirtual 234, 3) := by decide +kernel
theorem dX7_months_217 : decode cX7_months 217 = .ok (.goto 7, 3) := by decide +kernel
theorem dX7_months_220 : decode cX7_months 220 = .ok (.aload_n 0, 1) := by decide +kernel
theorem dX7_months_221 : decode cX7_months 221 = .ok (.getfield 217, 3) := by decide +kernel
theorem dX7_months_224 : decode cX7_months 224 = .ok (.istore 4, 2) := by decide +kernel
theorem dX7_months_226 : decode cX7_months 226 = .ok (.aload_n 0, 1) := by decide +kernel
theorem dX7_months_227 : decode cX7_months 227 = .ok (.getfield 43, 3) := by decide +kernel
theorem dX7_months_230 : decode cX7_months 230 = .ok (.aload_n 0, 1) := by decide +kernel
theorem dX7_months_231 : decode cX7_months 231 = .ok (.getfield 19, 3) := by decide +kernel
theorem dX7_months_234 : decode cX7_months 234 = .ok (.invokestatic 227, 3) := by decide +kernel
theorem dX7_months_237 : decode cX7_months 237 = .ok (.aload_n 0, 1) := by decide +kernel
theorem dX7_months_238 : decode cX7_months 238 = .ok (.getfield 46, 3) := by decide +kernel
theorem dX7_months_241 : decode cX7_months 241 = .ok (.aload_n 0, 1) := by decide +kernel
theorem dX7_months_242 : decode cX7_months 242 = .ok (.getfield 22, 3) := by decide +kernel
theorem dX7_months_245 : decode cX7_months 245 = .ok (.invokestatic 227, 3) := by decide +kernel
theorem dX7_months_248 : decode cX7_months 248 = .ok (.iload 4, 2) := by decide +kernel
theorem dX7_months_250 : decode cX7_months 250 = .ok (.ireturn, 1) := by decide +kernel
theorem dX7_image_0 : decode cX7_image 0 = .ok (.aload_n 0, 1) := by decide +kernel
theorem dX7_image_1 : decode cX7_image 1 = .ok (.invokevirtual 134, 3) := by decide +kernel
theorem dX7_image_4 : decode cX7_image 4 = .ok (.ifCond .eq 6, 3) := by decide +kernel
theorem dX7_image_7 : decode cX7_image 7 = .ok (.bipush (-103), 2) := by decide +kernel
theorem dX7_image_9 : decode cX7_image 9 = .ok (.ireturn, 1) := by decide +kernel
theorem dX7_image_10 : decode cX7_image 10 = .ok (.aload_n 0, 1) := by decide +kernel
theorem dX7_image_11 : decode cX7_image 11 = .ok (.getfield 16, 3) := by decide +kernel
theorem dX7_image_14 : decode cX7_image 14 = .ok (.aload_n 0, 1) := by decide +kernel
theorem dX7_image_15 : decode cX7_image 15 = .ok (.getfield 49, 3) := by decide +kernel
theorem dX7_image_18 : decode cX7_image 18 = .ok (.invokestatic 227, 3) := by decide +kernel
theorem dX7_image_21 : decode cX7_image 21 = .ok (.aload_n 0, 1) := by decide +kernel
theorem dX7_image_22 : decode cX7_image 22 = .ok (.getfield 19, 3) := by decide +kernel
theorem dX7_image_25 : decode cX7_image 25 = .ok (.aload_n 0, 1) := by decide +kernel
theorem dX7_image_26 : decode cX7_image 26 = .ok (.getfield 52, 3) := by decide +kernel
theorem dX7_image_29 : decode cX7_image 29 = .ok (.invokestatic 227, 3) := by decide +kernel
theorem dX7_image_32 : decode cX7_image 32 = .ok (.aload_n 0, 1) := by decide +kernel
theorem dX7_image_33 : decode cX7_image 33 = .ok (.getfield 22, 3) := by decide +kernel
theorem dX7_image_36 : decode cX7_image 36 = .ok (.aload_n 0, 1) := by decide +kernel
theorem dX7_image_37 : decode cX7_image 37 = .ok (.getfield 55, 3) := by decide +kernel
theorem dX7_image_40 : decode cX7_image 40 = .ok (.invokestatic 227, 3) := by decide +kernel
theorem dX7_image_43 : decode cX7_image 43 = .ok (.aload_n 0, 1) := by decide +kernel
theorem dX7_image_44 : decode cX7_image 44 = .ok (.getfield 34, 3) := by decide +kernel
theorem dX7_image_47 : decode cX7_image 47 = .ok (.aload_n 0, 1) := by decide +kernel
theorem dX7_image_48 : decode cX7_image 48 = .ok (.getfield 58, 3) := by decide +kernel
theorem dX7_image_51 : decode cX7_image 51 = .ok (.invokestatic 227, 3) := by decide +kernel
theorem dX7_image_54 : decode cX7_image 54 = .ok (.aload_n 0, 1) := by decide +kernel
theorem dX7_image_55 : decode cX7_image 55 = .ok (.aload_n 0, 1) := by decide +kernel
theorem dX7_image_56 : decode cX7_image 56 = .ok (.getfield 110, 3) := by decide +kernel
theorem dX7_image_59 : decode cX7_image 59 = .ok (.putfield 237, 3) := by decide +kernel
theorem dX7_image_62 : decode cX7_image 62 = .ok (.aload_n 0, 1) := by decide +kernel
theorem dX7_image_63 : decode cX7_image 63 = .ok (.aload_n 0, 1) := by decide +kernel
theorem dX7_image_64 : decode cX7_image 64 = .ok (.getfield 113, 3) := by decide +kernel
theorem dX7_image_67 : decode cX7_image 67 = .ok (.putfield 240, 3) := by decide +kernel
theorem dX7_image_70 : decode cX7_image 70 = .ok (.aload_n 0, 1) := by decide +kernel
theorem dX7_image_71 : decode cX7_image 71 = .ok (.aload_n 0, 1) := by decide +kernel
theorem dX7_image_72 : decode cX7_image 72 = .ok (.getfield 116, 3) := by decide +kernel
theorem dX7_image_75 : decode cX7_image 75 = .ok (.putfield 243, 3) := by decide +kernel
theorem dX7_image_78 : decode cX7_image 78 = .ok (.aload_n 0, 1) := by decide +kernel
theorem dX7_image_79 : decode cX7_image 79 = .ok (.aload_n 0, 1) := by decide +kernel
theorem dX7_image_80 : decode cX7_image 80 = .ok (.getfield 119, 3) := by decide +kernel
theorem dX7_image_83 : decode cX7_image 83 = .ok (.putfield 61, 3) := by decide +kernel
theorem dX7_image_86 : decode cX7_image 86 = .ok (.aload_n 0, 1) := by decide +kernel
theorem dX7_image_87 : decode cX7_image 87 = .ok (.getfield 113, 3) := by decide +kernel
theorem dX7_image_90 : decode cX7_image 90 = .ok (.ireturn, 1) := by decide +kernel
theorem dX7_restore_0 : decode cX7_restore 0 = .ok (.aload_n 0, 1) := by decide +kernel
theorem dX7_restore_1 : decode cX7_restore 1 = .ok (.getfield 61, 3) := by decide +kernel
theorem dX7_restore_4 : decode cX7_restore 4 = .ok (.aload_n 0, 1) := by decide +kernel
theorem dX7_restore_5 : decode cX7_restore 5 = .ok (.getfield 119, 3) := by decide +kernel
theorem dX7_restore_8 : decode cX7_restore 8 = .ok (.if_icmp .eq 6, 3) := by decide +kernel
theorem dX7_restore_11 : decode cX7_restore 11 = .ok (.bipush (-103), 2) := by decide +kernel
theorem dX7_restore_13 : decode cX7_restore 13 = .ok (.ireturn, 1) := by decide +kernel
theorem dX7_restore_14 : decode cX7_restore 14 = .ok (.aload_n 0, 1) := by decide +kernel
theorem dX7_restore_15 : decode cX7_restore 15 = .ok (.getfield 49, 3) := by decide +kernel
theorem dX7_restore_18 : decode cX7_restore 18 = .ok (.aload_n 0, 1) := by decide +kernel
theorem dX7_restore_19 : decode cX7_restore 19 = .ok (.getfield 16, 3) := by decide +kernel
theorem dX7_restore_22 : decode cX7_restore 22 = .ok (.invokestatic 227, 3) := by decide +kernel
theorem dX7_restore_25 : decode cX7_restore 25 = .ok (.aload_n 0, 1) := by decide +kernel
theorem dX7_restore_26 : decode cX7_restore 26 = .ok (.getfield 52, 3) := by decide +kernel
theorem dX7_restore_29 : decode cX7_restore 29 = .ok (.aload_n 0, 1) := by decide +kernel
theorem dX7_restore_30 : decode cX7_restore 30 = .ok (.getfield 19, 3) := by decide +kernel
theorem dX7_restore_33 : decode cX7_restore 33 = .ok (.invokestatic 227, 3) := by decide +kernel
theorem dX7_restore_36 : decode cX7_restore 36 = .ok (.aload_n 0, 1) := by decide +kernel
theorem dX7_restore_37 : decode cX7_restore 37 = .ok (.getfield 55, 3) := by decide +kernel
theorem dX7_restore_40 : decode cX7_restore 40 = .ok (.aload_n 0, 1) := by decide +kernel
theorem dX7_restore_41 : decode cX7_restore 41 = .ok (.getfield 22, 3) := by decide +kernel
theorem dX7_restore_44 : decode cX7_restore 44 = .ok (.invokestatic 227, 3) := by decide +kernel
theorem dX7_restore_47 : decode cX7_restore 47 = .ok (.aload_n 0, 1) := by decide +kernel
theorem dX7_restore_48 : decode cX7_restore 48 = .ok (.getfield 58, 3) := by decide +kernel
theorem dX7_restore_51 : decode cX7_restore 51 = .ok (.aload_n 0, 1) := by decide +kernel
theorem dX7_restore_52 : decode cX7_restore 52 = .ok (.getfield 34, 3) := by decide +kernel
theorem dX7_restore_55 : decode cX7_restore 55 = .ok (.invokestatic 227, 3) := by decide +kernel
theorem dX7_restore_58 : decode cX7_restore 58 = .ok (.aload_n 0, 1) := by decide +kernel
theorem dX7_restore_59 : decode cX7_restore 59 = .ok (.aload_n 0, 1) := by decide +kernel
theorem dX7_restore_60 : decode cX7_restore 60 = .ok (.getfield 237, 3) := by decide +kernel
theorem dX7_restore_63 : decode cX7_restore 63 = .ok (.putfield 110, 3) := by decide +kernel
theorem dX7_restore_66 : decode cX7_restore 66 = .ok (.aload_n 0, 1) := by decide +kernel
theorem dX7_restore_67 : decode cX7_restore 67 = .ok (.aload_n 0, 1) := by decide +kernel
theorem dX7_restore_68 : decode cX7_restore 68 = .ok (.getfield 240, 3) := by decide +kernel
theorem dX7_restore_71 : decode cX7_restore 71 = .ok (.putfield 113, 3) := by decide +kernel
theorem dX7_restore_74 : decode cX7_restore 74 = .ok (.aload_n 0, 1) := by decide +kernel
theorem dX7_restore_75 : decode cX7_restore 75 = .ok (.aload_n 0, 1) := by decide +kernel
theorem dX7_restore_76 : decode cX7_restore 76 = .ok (.getfield 243, 3) := by decide +kernel
theorem dX7_restore_79 : decode cX7_restore 79 = .ok (.putfield 116, 3) := by decide +kernel
theorem dX7_restore_82 : decode cX7_restore 82 = .ok (.aload_n 0, 1) := by decide +kernel
theorem dX7_restore_83 : decode cX7_restore 83 = .ok (.getfield 113, 3) := by decide +kernel
theorem dX7_restore_86 : decode cX7_restore 86 = .ok (.ireturn, 1) := by decide +kernel
theorem dX7_countOf_0 : decode cX7_countOf 0 = .ok (.iload_n 1, 1) := by decide +kernel
theorem dX7_countOf_1 : decode cX7_countOf 1 = .ok (.tableswitch 97 0 8 #[51, 56, 61, 66, 72, 77, 82, 87, 92], 51) := by decide +kernel
theorem dX7_countOf_52 : decode cX7_countOf 52 = .ok (.aload_n 0, 1) := by decide +kernel
theorem dX7_countOf_53 : decode cX7_countOf 53 = .ok (.getfield 104, 3) := by decide +kernel
theorem dX7_countOf_56 : decode cX7_countOf 56 = .ok (.ireturn, 1) := by decide +kernel
theorem dX7_countOf_57 : decode cX7_countOf 57 = .ok (.aload_n 0, 1) := by decide +kernel
theorem dX7_countOf_58 : decode cX7_countOf 58 = .ok (.getfield 107, 3) := by decide +kernel
theorem dX7_countOf_61 : decode cX7_countOf 61 = .ok (.ireturn, 1) := by decide +kernel
theorem dX7_countOf_62 : decode cX7_countOf 62 = .ok (.aload_n 0, 1) := by decide +kernel
theorem dX7_countOf_63 : decode cX7_countOf 63 = .ok (.getfield 110, 3) := by decide +kernel
theorem dX7_countOf_66 : decode cX7_countOf 66 = .ok (.ireturn, 1) := by decide +kernel
theorem dX7_countOf_67 : decode cX7_countOf 67 = .ok (.aload_n 0, 1) := by decide +kernel
theorem dX7_countOf_68 : decode cX7_countOf 68 = .ok (.iconst 3, 1) := by decide +kernel
theorem dX7_countOf_69 : decode cX7_countOf 69 = .ok (.invokevirtual 234, 3) := by decide +kernel
theorem dX7_countOf_72 : decode cX7_countOf 72 = .ok (.ireturn, 1) := by decide +kernel
theorem dX7_countOf_73 : decode cX7_countOf 73 = .ok (.aload_n 0, 1) := by decide +kernel
theorem dX7_countOf_74 : decode cX7_countOf 74 = .ok (.getfield 113, 3) := by decide +kernel
theorem dX7_countOf_77 : decode cX7_countOf 77 = .ok (.ireturn, 1) := by decide +kernel
theorem dX7_countOf_78 : decode cX7_countOf 78 = .ok (.aload_n 0, 1) := by decide +kernel
theorem dX7_countOf_79 : decode cX7_countOf 79 = .ok (.getfield 116, 3) := by decide +kernel
theorem dX7_countOf_82 : decode cX7_countOf 82 = .ok (.ireturn, 1) := by decide +kernel
theorem dX7_countOf_83 : decode cX7_countOf 83 = .ok (.aload_n 0, 1) := by decide +kernel
theorem dX7_countOf_84 : decode cX7_countOf 84 = .ok (.getfield 71, 3) := by decide +kernel
theorem dX7_countOf_87 : decode cX7_countOf 87 = .ok (.ireturn, 1) := by decide +kernel
theorem dX7_countOf_88 : decode cX7_countOf 88 = .ok (.aload_n 0, 1) := by decide +kernel
theorem dX7_countOf_89 : decode cX7_countOf 89 = .ok (.getfield 119, 3) := by decide +kernel
theorem dX7_countOf_92 : decode cX7_countOf 92 = .ok (.ireturn, 1) := by decide +kernel
theorem dX7_countOf_93 : decode cX7_countOf 93 = .ok (.aload_n 0, 1) := by decide +kernel
theorem dX7_countOf_94 : decode cX7_countOf 94 = .ok (.getfield 185, 3) := by decide +kernel
theorem dX7_countOf_97 : decode cX7_countOf 97 = .ok (.ireturn, 1) := by decide +kernel
theorem dX7_countOf_98 : decode cX7_countOf 98 = .ok (.bipush (-102), 2) := by decide +kernel
theorem dX7_countOf_100 : decode cX7_countOf 100 = .ok (.ireturn, 1) := by decide +kernel
theorem dX7_count_0 : decode cX7_count 0 = .ok (.aload_n 0, 1) := by decide +kernel
theorem dX7_count_1 : decode cX7_count 1 = .ok (.iload_n 1, 1) := by decide +kernel
theorem dX7_count_2 : decode cX7_count 2 = .ok (.invokevirtual 246, 3) := by decide +kernel
theorem dX7_count_5 : decode cX7_count 5 = .ok (.ireturn, 1) := by decide +kernel
theorem dX7_say_0 : decode cX7_say 0 = .ok (.aload_n 0, 1) := by decide +kernel
theorem dX7_say_1 : decode cX7_say 1 = .ok (.ldc2_w 249, 3) := by decide +kernel
theorem dX7_say_4 : decode cX7_say 4 = .ok (.aload_n 0, 1) := by decide +kernel
theorem dX7_say_5 : decode cX7_say 5 = .ok (.getfield 251, 3) := by decide +kernel
theorem dX7_say_8 : decode cX7_say 8 = .ok (.lmul, 1) := by decide +kernel
theorem dX7_say_9 : decode cX7_say 9 = .ok (.lload_n 1, 1) := by decide +kernel
theorem dX7_say_10 : decode cX7_say 10 = .ok (.ladd, 1) := by decide +kernel
theorem dX7_say_11 : decode cX7_say 11 = .ok (.putfield 251, 3) := by decide +kernel
theorem dX7_say_14 : decode cX7_say 14 = .ok (.return_, 1) := by decide +kernel
theorem dX7_digest_0 : decode cX7_digest 0 = .ok (.aload_n 0, 1) := by decide +kernel
theorem dX7_digest_1 : decode cX7_digest 1 = .ok (.ldc2_w 255, 3) := by decide +kernel
theorem dX7_digest_4 : decode cX7_digest 4 = .ok (.putfield 251, 3) := by decide +kernel
theorem dX7_digest_7 : decode cX7_digest 7 = .ok (.iconst 0, 1) := by decide +kernel
theorem dX7_digest_8 : decode cX7_digest 8 = .ok (.istore_n 1, 1) := by decide +kernel
theorem dX7_digest_9 : decode cX7_digest 9 = .ok (.iload_n 1, 1) := by decide +kernel
theorem dX7_digest_10 : decode cX7_digest 10 = .ok (.aload_n 0, 1) := by decide +kernel
theorem dX7_digest_11 : decode cX7_digest 11 = .ok (.getfield 104, 3) := by decide +kernel
theorem dX7_digest_14 : decode cX7_digest 14 = .ok (.if_icmp .ge 34, 3) := by decide +kernel
theorem dX7_digest_17 : decode cX7_digest 17 = .ok (.iconst 0, 1) := by decide +kernel
theorem dX7_digest_18 : decode cX7_digest 18 = .ok (.istore_n 2, 1) := by decide +kernel
theorem dX7_digest_19 : decode cX7_digest 19 = .ok (.iload_n 2, 1) := by decide +kernel
theorem dX7_digest_20 : decode cX7_digest 20 = .ok (.bipush 6, 2) := by decide +kernel
theorem dX7_digest_22 : decode cX7_digest 22 = .ok (.if_icmp .ge 20, 3) := by decide +kernel
theorem dX7_digest_25 : decode cX7_digest 25 = .ok (.aload_n 0, 1) := by decide +kernel
theorem dX7_digest_26 : decode cX7_digest 26 = .ok (.aload_n 0, 1) := by decide +kernel
theorem dX7_digest_27 : decode cX7_digest 27 = .ok (.iload_n 1, 1) := by decide +kernel
theorem dX7_digest_28 : decode cX7_digest 28 = .ok (.iload_n 2, 1) := by decide +kernel
theorem dX7_digest_29 : decode cX7_digest 29 = .ok (.invokevirtual 128, 3) := by decide +kernel
theorem dX7_digest_32 : decode cX7_digest 32 = .ok (.i2l, 1) := by decide +kernel
theorem dX7_digest_33 : decode cX7_digest 33 = .ok (.invokevirtual 257, 3) := by decide +kernel
theorem dX7_digest_36 : decode cX7_digest 36 = .ok (.iinc 2 1, 3) := by decide +kernel
theorem dX7_digest_39 : decode cX7_digest 39 = .ok (.goto (-20), 3) := by decide +kernel
theorem dX7_digest_42 : decode cX7_digest 42 = .ok (.iinc 1 1, 3) := by decide +kernel
theorem dX7_digest_45 : decode cX7_digest 45 = .ok (.goto (-36), 3) := by decide +kernel
theorem dX7_digest_48 : decode cX7_digest 48 = .ok (.iconst 0, 1) := by decide +kernel
theorem dX7_digest_49 : decode cX7_digest 49 = .ok (.istore_n 1, 1) := by decide +kernel
theorem dX7_digest_50 : decode cX7_digest 50 = .ok (.iload_n 1, 1) := by decide +kernel
theorem dX7_digest_51 : decode cX7_digest 51 = .ok (.aload_n 0, 1) := by decide +kernel
theorem dX7_digest_52 : decode cX7_digest 52 = .ok (.getfield 110, 3) := by decide +kernel
theorem dX7_digest_55 : decode cX7_digest 55 = .ok (.if_icmp .ge 45, 3) := by decide +kernel
theorem dX7_digest_58 : decode cX7_digest 58 = .ok (.iconst 0, 1) := by decide +kernel
theorem dX7_digest_59 : decode cX7_digest 59 = .ok (.istore_n 2, 1) := by decide +kernel
theorem dX7_digest_60 : decode cX7_digest 60 = .ok (.iload_n 2, 1) := by decide +kernel
theorem dX7_digest_61 : decode cX7_digest 61 = .ok (.bipush 18, 2) := by decide +kernel
theorem dX7_digest_63 : decode cX7_digest 63 = .ok (.if_icmp .ge 31, 3) := by decide +kernel
theorem dX7_digest_66 : decode cX7_digest 66 = .ok (.iload_n 2, 1) := by decide +kernel
theorem dX7_digest_67 : decode cX7_digest 67 = .ok (.iconst 5, 1) := by decide +kernel
theorem dX7_digest_68 : decode cX7_digest 68 = .ok (.if_icmp .lt 9, 3) := by decide +kernel
theorem dX7_digest_71 : decode cX7_digest 71 = .ok (.iload_n 2, 1) := by decide +kernel
theorem dX7_digest_72 : decode cX7_digest 72 = .ok (.bipush 9, 2) := by decide +kernel
theorem dX7_digest_74 : decode cX7_digest 74 = .ok (.if_icmp .le 14, 3) := by decide +kernel
theorem dX7_digest_77 : decode cX7_digest 77 = .ok (.aload_n 0, 1) := by decide +kernel
theorem dX7_digest_78 : decode cX7_digest 78 = .ok (.aload_n 0, 1) := by decide +kernel
theorem dX7_digest_79 : decode cX7_digest 79 = .ok (.iload_n 1, 1) := by decide +kernel
theorem dX7_digest_80 : decode cX7_digest 80 = .ok (.iload_n 2, 1) := by decide +kernel
theorem dX7_digest_81 : decode cX7_digest 81 = .ok (.invokevirtual 145, 3) := by decide +kernel
theorem dX7_digest_84 : decode cX7_digest 84 = .ok (.i2l, 1) := by decide +kernel
theorem dX7_digest_85 : decode cX7_digest 85 = .ok (.invokevirtual 257, 3) := by decide +kernel
theorem dX7_digest_88 : decode cX7_digest 88 = .ok (.iinc 2 1, 3) := by decide +kernel
theorem dX7_digest_91 : decode cX7_digest 91 = .ok (.goto (-31), 3) := by decide +kernel
theorem dX7_digest_94 : decode cX7_digest 94 = .ok (.iinc 1 1, 3) := by decide +kernel
theorem dX7_digest_97 : decode cX7_digest 97 = .ok (.goto (-47), 3) := by decide +kernel
theorem dX7_digest_100 : decode cX7_digest 100 = .ok (.aload_n 0, 1) := by decide +kernel
theorem dX7_digest_101 : decode cX7_digest 101 = .ok (.invokevirtual 134, 3) := by decide +kernel
theorem dX7_digest_104 : decode cX7_digest 104 = .ok (.ifCond .ne 35, 3) := by decide +kernel
theorem dX7_digest_107 : decode cX7_digest 107 = .ok (.aload_n 0, 1) := by decide +kernel
theorem dX7_digest_108 : decode cX7_digest 108 = .ok (.aload_n 0, 1) := by decide +kernel
theorem dX7_digest_109 : decode cX7_digest 109 = .ok (.iconst (-1), 1) := by decide +kernel
theorem dX7_digest_110 : decode cX7_digest 110 = .ok (.invokevirtual 209, 3) := by decide +kernel
theorem dX7_digest_113 : decode cX7_digest 113 = .ok (.i2l, 1) := by decide +kernel
theorem dX7_digest_114 : decode cX7_digest 114 = .ok (.invokevirtual 257, 3) := by decide +kernel
theorem dX7_digest_117 : decode cX7_digest 117 = .ok (.aload_n 0, 1) := by decide +kernel
theorem dX7_digest_118 : decode cX7_digest 118 = .ok (.aload_n 0, 1) := by decide +kernel
theorem dX7_digest_119 : decode cX7_digest 119 = .ok (.aload_n 0, 1) := by decide +kernel
theorem dX7_digest_120 : decode cX7_digest 120 = .ok (.getfield 107, 3) := by decide +kernel
theorem dX7_digest_123 : decode cX7_digest 123 = .ok (.invokevirtual 209, 3) := by decide +kernel
theorem dX7_digest_126 : decode cX7_digest 126 = .ok (.i2l, 1) := by decide +kernel
theorem dX7_digest_127 : decode cX7_digest 127 = .ok (.invokevirtual 257, 3) := by decide +kernel
theorem dX7_digest_130 : decode cX7_digest 130 = .ok (.aload_n 0, 1) := by decide +kernel
theorem dX7_digest_131 : decode cX7_digest 131 = .ok (.aload_n 0, 1) := by decide +kernel
theorem dX7_digest_132 : decode cX7_digest 132 = .ok (.invokevirtual 212, 3) := by decide +kernel
theorem dX7_digest_135 : decode cX7_digest 135 = .ok (.i2l, 1) := by decide +kernel
theorem dX7_digest_136 : decode cX7_digest 136 = .ok (.invokevirtual 257, 3) := by decide +kernel
theorem dX7_digest_139 : decode cX7_digest 139 = .ok (.iconst 0, 1) := by decide +kernel
theorem dX7_digest_140 : decode cX7_digest 140 = .ok (.istore_n 1, 1) := by decide +kernel
theorem dX7_digest_141 : decode cX7_digest 141 = .ok (.iload_n 1, 1) := by decide +kernel
theorem dX7_digest_142 : decode cX7_digest 142 = .ok (.aload_n 0, 1) := by decide +kernel
theorem dX7_digest_143 : decode cX7_digest 143 = .ok (.getfield 71, 3) := by decide +kernel
theorem dX7_digest_146 : decode cX7_digest 146 = .ok (.if_icmp .ge 20, 3) := by decide +kernel
theorem dX7_digest_149 : decode cX7_digest 149 = .ok (.aload_n 0, 1) := by decide +kernel
theorem dX7_digest_150 : decode cX7_digest 150 = .ok (.aload_n 0, 1) := by decide +kernel
theorem dX7_digest_151 : decode cX7_digest 151 = .ok (.getfield 7, 3) := by decide +kernel
theorem dX7_digest_154 : decode cX7_digest 154 = .ok (.iload_n 1, 1) := by decide +kernel
theorem dX7_digest_155 : decode cX7_digest 155 = .ok (.iaload, 1) := by decide +kernel
theorem dX7_digest_156 : decode cX7_digest 156 = .ok (.i2l, 1) := by decide +kernel
theorem dX7_digest_157 : decode cX7_digest 157 = .ok (.invokevirtual 257, 3) := by decide +kernel
theorem dX7_digest_160 : decode cX7_digest 160 = .ok (.iinc 1 1, 3) := by decide +kernel
theorem dX7_digest_163 : decode cX7_digest 163 = .ok (.goto (-22), 3) := by decide +kernel
theorem dX7_digest_166 : decode cX7_digest 166 = .ok (.iconst 0, 1) := by decide +kernel
theorem dX7_digest_167 : decode cX7_digest 167 = .ok (.istore_n 1, 1) := by decide +kernel
theorem dX7_digest_168 : decode cX7_digest 168 = .ok (.iload_n 1, 1) := by decide +kernel
theorem dX7_digest_169 : decode cX7_digest 169 = .ok (.bipush 9, 2) := by decide +kernel
theorem dX7_digest_171 : decode cX7_digest 171 = .ok (.if_icmp .ge 19, 3) := by decide +kernel
theorem dX7_digest_174 : decode cX7_digest 174 = .ok (.aload_n 0, 1) := by decide +kernel
theorem dX7_digest_175 : decode cX7_digest 175 = .ok (.aload_n 0, 1) := by decide +kernel
theorem dX7_digest_176 : decode cX7_digest 176 = .ok (.iload_n 1, 1) := by decide +kernel
theorem dX7_digest_177 : decode cX7_digest 177 = .ok (.invokevirtual 246, 3) := by decide +kernel
theorem dX7_digest_180 : decode cX7_digest 180 = .ok (.i2l, 1) := by decide +kernel
theorem dX7_digest_181 : decode cX7_digest 181 = .ok (.invokevirtual 257, 3) := by decide +kernel
theorem dX7_digest_184 : decode cX7_digest 184 = .ok (.iinc 1 1, 3) := by decide +kernel
theorem dX7_digest_187 : decode cX7_digest 187 = .ok (.goto (-19), 3) := by decide +kernel
theorem dX7_digest_190 : decode cX7_digest 190 = .ok (.aload_n 0, 1) := by decide +kernel
theorem dX7_digest_191 : decode cX7_digest 191 = .ok (.getfield 251, 3) := by decide +kernel
theorem dX7_digest_194 : decode cX7_digest 194 = .ok (.lreturn, 1) := by decide +kernel
theorem dJ9_max_7cf53_0 : decode cJ9_max_7cf53 0 = .ok (.iload_n 0, 1) := by decide +kernel
theorem dJ9_max_7cf53_1 : decode cJ9_max_7cf53 1 = .ok (.iload_n 1, 1) := by decide +kernel
theorem dJ9_max_7cf53_2 : decode cJ9_max_7cf53 2 = .ok (.if_icmp .lt 7, 3) := by decide +kernel
theorem dJ9_max_7cf53_5 : decode cJ9_max_7cf53 5 = .ok (.iload_n 0, 1) := by decide +kernel
theorem dJ9_max_7cf53_6 : decode cJ9_max_7cf53 6 = .ok (.goto 4, 3) := by decide +kernel
theorem dJ9_max_7cf53_9 : decode cJ9_max_7cf53 9 = .ok (.iload_n 1, 1) := by decide +kernel
theorem dJ9_max_7cf53_10 : decode cJ9_max_7cf53 10 = .ok (.ireturn, 1) := by decide +kernel
theorem dJ9_min_7cf53_0 : decode cJ9_min_7cf53 0 = .ok (.iload_n 0, 1) := by decide +kernel
theorem dJ9_min_7cf53_1 : decode cJ9_min_7cf53 1 = .ok (.iload_n 1, 1) := by decide +kernel
theorem dJ9_min_7cf53_2 : decode cJ9_min_7cf53 2 = .ok (.if_icmp .gt 7, 3) := by decide +kernel
theorem dJ9_min_7cf53_5 : decode cJ9_min_7cf53 5 = .ok (.iload_n 0, 1) := by decide +kernel
theorem dJ9_min_7cf53_6 : decode cJ9_min_7cf53 6 = .ok (.goto 4, 3) := by decide +kernel
theorem dJ9_min_7cf53_9 : decode cJ9_min_7cf53 9 = .ok (.iload_n 1, 1) := by decide +kernel
theorem dJ9_min_7cf53_10 : decode cJ9_min_7cf53 10 = .ok (.ireturn, 1) := by decide +kernel
theorem dL_law_0 : decode cL_law 0 = .ok (.new 7, 3) := by decide +kernel
theorem dL_law_3 : decode cL_law 3 = .ok (.dup, 1) := by decide +kernel
theorem dL_law_4 : decode cL_law 4 = .ok (.invokespecial 9, 3) := by decide +kernel
theorem dL_law_7 : decode cL_law 7 = .ok (.astore_n 1, 1) := by decide +kernel
theorem dL_law_8 : decode cL_law 8 = .ok (.new 10, 3) := by decide +kernel
theorem dL_law_11 : decode cL_law 11 = .ok (.dup, 1) := by decide +kernel
theorem dL_law_12 : decode cL_law 12 = .ok (.invokespecial 12, 3) := by decide +kernel
theorem dL_law_15 : decode cL_law 15 = .ok (.astore_n 2, 1) := by decide +kernel
theorem dL_law_16 : decode cL_law 16 = .ok (.iconst 0, 1) := by decide +kernel
theorem dL_law_17 : decode cL_law 17 = .ok (.istore_n 3, 1) := by decide +kernel
theorem dL_law_18 : decode cL_law 18 = .ok (.iload_n 3, 1) := by decide +kernel
theorem dL_law_19 : decode cL_law 19 = .ok (.aload_n 0, 1) := by decide +kernel
theorem dL_law_20 : decode cL_law 20 = .ok (.arraylength, 1) := by decide +kernel
theorem dL_law_21 : decode cL_law 21 = .ok (.iconst 4, 1) := by decide +kernel
theorem dL_law_22 : decode cL_law 22 = .ok (.isub, 1) := by decide +kernel
theorem dL_law_23 : decode cL_law 23 = .ok (.if_icmp .gt 824, 3) := by decide +kernel
theorem dL_law_26 : decode cL_law 26 = .ok (.aload_n 0, 1) := by decide +kernel
theorem dL_law_27 : decode cL_law 27 = .ok (.iload_n 3, 1) := by decide +kernel
theorem dL_law_28 : decode cL_law 28 = .ok (.iaload, 1) := by decide +kernel
theorem dL_law_29 : decode cL_law 29 = .ok (.bipush 31, 2) := by decide +kernel
theorem dL_law_31 : decode cL_law 31 = .ok (.iand, 1) := by decide +kernel
theorem dL_law_32 : decode cL_law 32 = .ok (.tableswitch 809 0 27 #[128, 151, 164, 177, 190, 223, 256, 289, 338, 351, 384, 417, 460, 483, 506, 539, 562, 595, 618, 641, 654, 667, 690, 703, 746, 759, 772, 795], 128) := by decide +kernel
theorem dL_law_160 : decode cL_law 160 = .ok (.aload_n 1, 1) := by decide +kernel
theorem dL_law_161 : decode cL_law 161 = .ok (.aload_n 0, 1) := by decide +kernel
theorem dL_law_162 : decode cL_law 162 = .ok (.iload_n 3, 1) := by decide +kernel
theorem dL_law_163 : decode cL_law 163 = .ok (.iconst 1, 1) := by decide +kernel
theorem dL_law_164 : decode cL_law 164 = .ok (.iadd, 1) := by decide +kernel
theorem dL_law_165 : decode cL_law 165 = .ok (.iaload, 1) := by decide +kernel
theorem dL_law_166 : decode cL_law 166 = .ok (.invokevirtual 13, 3) := by decide +kernel
theorem dL_law_169 : decode cL_law 169 = .ok (.aload_n 2, 1) := by decide +kernel
theorem dL_law_170 : decode cL_law 170 = .ok (.aload_n 0, 1) := by decide +kernel
theorem dL_law_171 : decode cL_law 171 = .ok (.iload_n 3, 1) := by decide +kernel
theorem dL_law_172 : decode cL_law 172 = .ok (.iconst 1, 1) := by decide +kernel
theorem dL_law_173 : decode cL_law 173 = .ok (.iadd, 1) := by decide +kernel
theorem dL_law_174 : decode cL_law 174 = .ok (.iaload, 1) := by decide +kernel
theorem dL_law_175 : decode cL_law 175 = .ok (.invokevirtual 17, 3) := by decide +kernel
theorem dL_law_178 : decode cL_law 178 = .ok (.if_icmp .eq 663, 3) := by decide +kernel
theorem dL_law_181 : decode cL_law 181 = .ok (.iconst 0, 1) := by decide +kernel
theorem dL_law_182 : decode cL_law 182 = .ok (.ireturn, 1) := by decide +kernel
theorem dL_law_183 : decode cL_law 183 = .ok (.aload_n 1, 1) := by decide +kernel
theorem dL_law_184 : decode cL_law 184 = .ok (.invokevirtual 18, 3) := by decide +kernel
theorem dL_law_187 : decode cL_law 187 = .ok (.aload_n 2, 1) := by decide +kernel
theorem dL_law_188 : decode cL_law 188 = .ok (.invokevirtual 22, 3) := by decide +kernel
theorem dL_law_191 : decode cL_law 191 = .ok (.if_icmp .eq 650, 3) := by decide +kernel
theorem dL_law_194 : decode cL_law 194 = .ok (.iconst 0, 1) := by decide +kernel
theorem dL_law_195 : decode cL_law 195 = .ok (.ireturn, 1) := by decide +kernel
theorem dL_law_196 : decode cL_law 196 = .ok (.aload_n 1, 1) := by decide +kernel
theorem dL_law_197 : decode cL_law 197 = .ok (.invokevirtual 23, 3) := by decide +kernel
theorem dL_law_200 : decode cL_law 200 = .ok (.aload_n 2, 1) := by decide +kernel
theorem dL_law_201 : decode cL_law 201 = .ok (.invokevirtual 26, 3) := by decide +kernel
theorem dL_law_204 : decode cL_law 204 = .ok (.if_icmp .eq 637, 3) := by decide +kernel
theorem dL_law_207 : decode cL_law 207 = .ok (.iconst 0, 1) := by decide +kernel
theorem dL_law_208 : decode cL_law 208 = .ok (.ireturn, 1) := by decide +kernel
theorem dL_law_209 : decode cL_law 209 = .ok (.aload_n 1, 1) := by decide +kernel
theorem dL_law_210 : decode cL_law 210 = .ok (.invokevirtual 27, 3) := by decide +kernel
theorem dL_law_213 : decode cL_law 213 = .ok (.aload_n 2, 1) := by decide +kernel
theorem dL_law_214 : decode cL_law 214 = .ok (.invokevirtual 30, 3) := by decide +kernel
theorem dL_law_217 : decode cL_law 217 = .ok (.if_icmp .eq 624, 3) := by decide +kernel
theorem dL_law_220 : decode cL_law 220 = .ok (.iconst 0, 1) := by decide +kernel
theorem dL_law_221 : decode cL_law 221 = .ok (.ireturn, 1) := by decide +kernel
theorem dL_law_222 : decode cL_law 222 = .ok (.aload_n 1, 1) := by decide +kernel
theorem dL_law_223 : decode cL_law 223 = .ok (.aload_n 0, 1) := by decide +kernel
theorem dL_law_224 : decode cL_law 224 = .ok (.iload_n 3, 1) := by decide +kernel
theorem dL_law_225 : decode cL_law 225 = .ok (.iconst 1, 1) := by decide +kernel
theorem dL_law_226 : decode cL_law 226 = .ok (.iadd, 1) := by decide +kernel
theorem dL_law_227 : decode cL_law 227 = .ok (.iaload, 1) := by decide +kernel
theorem dL_law_228 : decode cL_law 228 = .ok (.aload_n 0, 1) := by decide +kernel
theorem dL_law_229 : decode cL_law 229 = .ok (.iload_n 3, 1) := by decide +kernel
theorem dL_law_230 : decode cL_law 230 = .ok (.iconst 2, 1) := by decide +kernel
theorem dL_law_231 : decode cL_law 231 = .ok (.iadd, 1) := by decide +kernel
theorem dL_law_232 : decode cL_law 232 = .ok (.iaload, 1) := by decide +kernel
theorem dL_law_233 : decode cL_law 233 = .ok (.invokevirtual 31, 3) := by decide +kernel
theorem dL_law_236 : decode cL_law 236 = .ok (.aload_n 2, 1) := by decide +kernel
theorem dL_law_237 : decode cL_law 237 = .ok (.aload_n 0, 1) := by decide +kernel
theorem dL_law_238 : decode cL_law 238 = .ok (.iload_n 3, 1) := by decide +kernel
theorem dL_law_239 : decode cL_law 239 = .ok (.iconst 1, 1) := by decide +kernel
theorem dL_law_240 : decode cL_law 240 = .ok (.iadd, 1) := by decide +kernel
theorem dL_law_241 : decode cL_law 241 = .ok (.iaload, 1) := by decide +kernel
theorem dL_law_242 : decode cL_law 242 = .ok (.aload_n 0, 1) := by decide +kernel
theorem dL_law_243 : decode cL_law 243 = .ok (.iload_n 3, 1) := by decide +kernel
theorem dL_law_244 : decode cL_law 244 = .ok (.iconst 2, 1) := by decide +kernel
theorem dL_law_245 : decode cL_law 245 = .ok (.iadd, 1) := by decide +kernel
theorem dL_law_246 : decode cL_law 246 = .ok (.iaload, 1) := by decide +kernel
theorem dL_law_247 : decode cL_law 247 = .ok (.invokevirtual 35, 3) := by decide +kernel
theorem dL_law_250 : decode cL_law 250 = .ok (.if_icmp .eq 591, 3) := by decide +kernel
theorem dL_law_253 : decode cL_law 253 = .ok (.iconst 0, 1) := by decide +kernel
theorem dL_law_254 : decode cL_law 254 = .ok (.ireturn, 1) := by decide +kernel
theorem dL_law_255 : decode cL_law 255 = .ok (.aload_n 1, 1) := by decide +kernel
theorem dL_law_256 : decode cL_law 256 = .ok (.aload_n 0, 1) := by decide +kernel
theorem dL_law_257 : decode cL_law 257 = .ok (.iload_n 3, 1) := by decide +kernel
theorem dL_law_258 : decode cL_law 258 = .ok (.iconst 1, 1) := by decide +kernel
theorem dL_law_259 : decode cL_law 259 = .ok (.iadd, 1) := by decide +kernel
theorem dL_law_260 : decode cL_law 260 = .ok (.iaload, 1) := by decide +kernel
theorem dL_law_261 : decode cL_law 261 = .ok (.aload_n 0, 1) := by decide +kernel
theorem dL_law_262 : decode cL_law 262 = .ok (.iload_n 3, 1) := by decide +kernel
theorem dL_law_263 : decode cL_law 263 = .ok (.iconst 2, 1) := by decide +kernel
theorem dL_law_264 : decode cL_law 264 = .ok (.iadd, 1) := by decide +kernel
theorem dL_law_265 : decode cL_law 265 = .ok (.iaload, 1) := by decide +kernel
theorem dL_law_266 : decode cL_law 266 = .ok (.invokevirtual 36, 3) := by decide +kernel
theorem dL_law_269 : decode cL_law 269 = .ok (.aload_n 2, 1) := by decide +kernel
theorem dL_law_270 : decode cL_law 270 = .ok (.aload_n 0, 1) := by decide +kernel
theorem dL_law_271 : decode cL_law 271 = .ok (.iload_n 3, 1) := by decide +kernel
theorem dL_law_272 : decode cL_law 272 = .ok (.iconst 1, 1) := by decide +kernel
theorem dL_law_273 : decode cL_law 273 = .ok (.iadd, 1) := by decide +kernel
theorem dL_law_274 : decode cL_law 274 = .ok (.iaload, 1) := by decide +kernel
theorem dL_law_275 : decode cL_law 275 = .ok (.aload_n 0, 1) := by decide +kernel
theorem dL_law_276 : decode cL_law 276 = .ok (.iload_n 3, 1) := by decide +kernel
theorem dL_law_277 : decode cL_law 277 = .ok (.iconst 2, 1) := by decide +kernel
theorem dL_law_278 : decode cL_law 278 = .ok (.iadd, 1) := by decide +kernel
theorem dL_law_279 : decode cL_law 279 = .ok (.iaload, 1) := by decide +kernel
theorem dL_law_280 : decode cL_law 280 = .ok (.invokevirtual 39, 3) := by decide +kernel
theorem dL_law_283 : decode cL_law 283 = .ok (.if_icmp .eq 558, 3) := by decide +kernel
theorem dL_law_286 : decode cL_law 286 = .ok (.iconst 0, 1) := by decide +kernel
theorem dL_law_287 : decode cL_law 287 = .ok (.ireturn, 1) := by decide +kernel
theorem dL_law_288 : decode cL_law 288 = .ok (.aload_n 1, 1) := by decide +kernel
theorem dL_law_289 : decode cL_law 289 = .ok (.aload_n 0, 1) := by decide +kernel
theorem dL_law_290 : decode cL_law 290 = .ok (.iload_n 3, 1) := by decide +kernel
theorem dL_law_291 : decode cL_law 291 = .ok (.iconst 1, 1) := by decide +kernel
theorem dL_law_292 : decode cL_law 292 = .ok (.iadd, 1) := by decide +kernel
theorem dL_law_293 : decode cL_law 293 = .ok (.iaload, 1) := by decide +kernel
theorem dL_law_294 : decode cL_law 294 = .ok (.aload_n 0, 1) := by decide +kernel
theorem dL_law_295 : decode cL_law 295 = .ok (.iload_n 3, 1) := by decide +kernel
theorem dL_law_296 : decode cL_law 296 = .ok (.iconst 2, 1) := by decide +kernel
theorem dL_law_297 : decode cL_law 297 = .ok (.iadd, 1) := by decide +kernel
theorem dL_law_298 : decode cL_law 298 = .ok (.iaload, 1) := by decide +kernel
theorem dL_law_299 : decode cL_law 299 = .ok (.invokevirtual 40, 3) := by decide +kernel
theorem dL_law_302 : decode cL_law 302 = .ok (.aload_n 2, 1) := by decide +kernel
theorem dL_law_303 : decode cL_law 303 = .ok (.aload_n 0, 1) := by decide +kernel
theorem dL_law_304 : decode cL_law 304 = .ok (.iload_n 3, 1) := by decide +kernel
theorem dL_law_305 : decode cL_law 305 = .ok (.iconst 1, 1) := by decide +kernel
theorem dL_law_306 : decode cL_law 306 = .ok (.iadd, 1) := by decide +kernel
theorem dL_law_307 : decode cL_law 307 = .ok (.iaload, 1) := by decide +kernel
theorem dL_law_308 : decode cL_law 308 = .ok (.aload_n 0, 1) := by decide +kernel
theorem dL_law_309 : decode cL_law 309 = .ok (.iload_n 3, 1) := by decide +kernel
theorem dL_law_310 : decode cL_law 310 = .ok (.iconst 2, 1) := by decide +kernel
theorem dL_law_311 : decode cL_law 311 = .ok (.iadd, 1) := by decide +kernel
theorem dL_law_312 : decode cL_law 312 = .ok (.iaload, 1) := by decide +kernel
theorem dL_law_313 : decode cL_law 313 = .ok (.invokevirtual 43, 3) := by decide +kernel
theorem dL_law_316 : decode cL_law 316 = .ok (.if_icmp .eq 525, 3) := by decide +kernel
theorem dL_law_319 : decode cL_law 319 = .ok (.iconst 0, 1) := by decide +kernel
theorem dL_law_320 : decode cL_law 320 = .ok (.ireturn, 1) := by decide +kernel
theorem dL_law_321 : decode cL_law 321 = .ok (.aload_n 1, 1) := by decide +kernel
theorem dL_law_322 : decode cL_law 322 = .ok (.aload_n 0, 1) := by decide +kernel
theorem dL_law_323 : decode cL_law 323 = .ok (.iload_n 3, 1) := by decide +kernel
theorem dL_law_324 : decode cL_law 324 = .ok (.iconst 1, 1) := by decide +kernel
theorem dL_law_325 : decode cL_law 325 = .ok (.iadd, 1) := by decide +kernel
theorem dL_law_326 : decode cL_law 326 = .ok (.iaload, 1) := by decide +kernel
theorem dL_law_327 : decode cL_law 327 = .ok (.aload_n 0, 1) := by decide +kernel
theorem dL_law_328 : decode cL_law 328 = .ok (.iload_n 3, 1) := by decide +kernel
theorem dL_law_329 : decode cL_law 329 = .ok (.iconst 2, 1) := by decide +kernel
theorem dL_law_330 : decode cL_law 330 = .ok (.iadd, 1) := by decide +kernel
theorem dL_law_331 : decode cL_law 331 = .ok (.iaload, 1) := by decide +kernel
theorem dL_law_332 : decode cL_law 332 = .ok (.ifCond .eq 7, 3) := by decide +kernel
theorem dL_law_335 : decode cL_law 335 = .ok (.iconst 1, 1) := by decide +kernel
theorem dL_law_336 : decode cL_law 336 = .ok (.goto 4, 3) := by decide +kernel
theorem dL_law_339 : decode cL_law 339 = .ok (.iconst 0, 1) := by decide +kernel
theorem dL_law_340 : decode cL_law 340 = .ok (.invokevirtual 44, 3) := by decide +kernel
theorem dL_law_343 : decode cL_law 343 = .ok (.aload_n 2, 1) := by decide +kernel
theorem dL_law_344 : decode cL_law 344 = .ok (.aload_n 0, 1) := by decide +kernel
theorem dL_law_345 : decode cL_law 345 = .ok (.iload_n 3, 1) := by decide +kernel
theorem dL_law_346 : decode cL_law 346 = .ok (.iconst 1, 1) := by decide +kernel
theorem dL_law_347 : decode cL_law 347 = .ok (.iadd, 1) := by decide +kernel
theorem dL_law_348 : decode cL_law 348 = .ok (.iaload, 1) := by decide +kernel
theorem dL_law_349 : decode cL_law 349 = .ok (.aload_n 0, 1) := by decide +kernel
theorem dL_law_350 : decode cL_law 350 = .ok (.iload_n 3, 1) := by decide +kernel
theorem dL_law_351 : decode cL_law 351 = .ok (.iconst 2, 1) := by decide +kernel
theorem dL_law_352 : decode cL_law 352 = .ok (.iadd, 1) := by decide +kernel
theorem dL_law_353 : decode cL_law 353 = .ok (.iaload, 1) := by decide +kernel
theorem dL_law_354 : decode cL_law 354 = .ok (.ifCond .eq 7, 3) := by decide +kernel
theorem dL_law_357 : decode cL_law 357 = .ok (.iconst 1, 1) := by decide +kernel
theorem dL_law_358 : decode cL_law 358 = .ok (.goto 4, 3) := by decide +kernel
theorem dL_law_361 : decode cL_law 361 = .ok (.iconst 0, 1) := by decide +kernel
theorem dL_law_362 : decode cL_law 362 = .ok (.invokevirtual 48, 3) := by decide +kernel
theorem dL_law_365 : decode cL_law 365 = .ok (.if_icmp .eq 476, 3) := by decide +kernel
theorem dL_law_368 : decode cL_law 368 = .ok (.iconst 0, 1) := by decide +kernel
theorem dL_law_369 : decode cL_law 369 = .ok (.ireturn, 1) := by decide +kernel
theorem dL_law_370 : decode cL_law 370 = .ok (.aload_n 1, 1) := by decide +kernel
theorem dL_law_371 : decode cL_law 371 = .ok (.invokevirtual 49, 3) := by decide +kernel
theorem dL_law_374 : decode cL_law 374 = .ok (.aload_n 2, 1) := by decide +kernel
theorem dL_law_375 : decode cL_law 375 = .ok (.invokevirtual 52, 3) := by decide +kernel
theorem dL_law_378 : decode cL_law 378 = .ok (.if_icmp .eq 463, 3) := by decide +kernel
theorem dL_law_381 : decode cL_law 381 = .ok (.iconst 0, 1) := by decide +kernel
theorem dL_law_382 : decode cL_law 382 = .ok (.ireturn, 1) := by decide +kernel
theorem dL_law_383 : decode cL_law 383 = .ok (.aload_n 1, 1) := by decide +kernel
theorem dL_law_384 : decode cL_law 384 = .ok (.aload_n 0, 1) := by decide +kernel
theorem dL_law_385 : decode cL_law 385 = .ok (.iload_n 3, 1) := by decide +kernel
theorem dL_law_386 : decode cL_law 386 = .ok (.iconst 1, 1) := by decide +kernel
theorem dL_law_387 : decode cL_law 387 = .ok (.iadd, 1) := by decide +kernel
theorem dL_law_388 : decode cL_law 388 = .ok (.iaload, 1) := by decide +kernel
theorem dL_law_389 : decode cL_law 389 = .ok (.aload_n 0, 1) := by decide +kernel
theorem dL_law_390 : decode cL_law 390 = .ok (.iload_n 3, 1) := by decide +kernel
theorem dL_law_391 : decode cL_law 391 = .ok (.iconst 2, 1) := by decide +kernel
theorem dL_law_392 : decode cL_law 392 = .ok (.iadd, 1) := by decide +kernel
theorem dL_law_393 : decode cL_law 393 = .ok (.iaload, 1) := by decide +kernel
theorem dL_law_394 : decode cL_law 394 = .ok (.invokevirtual 53, 3) := by decide +kernel
theorem dL_law_397 : decode cL_law 397 = .ok (.aload_n 2, 1) := by decide +kernel
theorem dL_law_398 : decode cL_law 398 = .ok (.aload_n 0, 1) := by decide +kernel
theorem dL_law_399 : decode cL_law 399 = .ok (.iload_n 3, 1) := by decide +kernel
theorem dL_law_400 : decode cL_law 400 = .ok (.iconst 1, 1) := by decide +kernel
theorem dL_law_401 : decode cL_law 401 = .ok (.iadd, 1) := by decide +kernel
theorem dL_law_402 : decode cL_law 402 = .ok (.iaload, 1) := by decide +kernel
theorem dL_law_403 : decode cL_law 403 = .ok (.aload_n 0, 1) := by decide +kernel
theorem dL_law_404 : decode cL_law 404 = .ok (.iload_n 3, 1) := by decide +kernel
theorem dL_law_405 : decode cL_law 405 = .ok (.iconst 2, 1) := by decide +kernel
theorem dL_law_406 : decode cL_law 406 = .ok (.iadd, 1) := by decide +kernel
theorem dL_law_407 : decode cL_law 407 = .ok (.iaload, 1) := by decide +kernel
theorem dL_law_408 : decode cL_law 408 = .ok (.invokevirtual 56, 3) := by decide +kernel
theorem dL_law_411 : decode cL_law 411 = .ok (.if_icmp .eq 430, 3) := by decide +kernel
theorem dL_law_414 : decode cL_law 414 = .ok (.iconst 0, 1) := by decide +kernel
theorem dL_law_415 : decode cL_law 415 = .ok (.ireturn, 1) := by decide +kernel
theorem dL_law_416 : decode cL_law 416 = .ok (.aload_n 1, 1) := by decide +kernel
theorem dL_law_417 : decode cL_law 417 = .ok (.aload_n 0, 1) := by decide +kernel
theorem dL_law_418 : decode cL_law 418 = .ok (.iload_n 3, 1) := by decide +kernel
theorem dL_law_419 : decode cL_law 419 = .ok (.iconst 1, 1) := by decide +kernel
theorem dL_law_420 : decode cL_law 420 = .ok (.iadd, 1) := by decide +kernel
theorem dL_law_421 : decode cL_law 421 = .ok (.iaload, 1) := by decide +kernel
theorem dL_law_422 : decode cL_law 422 = .ok (.aload_n 0, 1) := by decide +kernel
theorem dL_law_423 : decode cL_law 423 = .ok (.iload_n 3, 1) := by decide +kernel
theorem dL_law_424 : decode cL_law 424 = .ok (.iconst 2, 1) := by decide +kernel
theorem dL_law_425 : decode cL_law 425 = .ok (.iadd, 1) := by decide +kernel
theorem dL_law_426 : decode cL_law 426 = .ok (.iaload, 1) := by decide +kernel
theorem dL_law_427 : decode cL_law 427 = .ok (.invokevirtual 57, 3) := by decide +kernel
theorem dL_law_430 : decode cL_law 430 = .ok (.aload_n 2, 1) := by decide +kernel
theorem dL_law_431 : decode cL_law 431 = .ok (.aload_n 0, 1) := by decide +kernel
theorem dL_law_432 : decode cL_law 432 = .ok (.iload_n 3, 1) := by decide +kernel
theorem dL_law_433 : decode cL_law 433 = .ok (.iconst 1, 1) := by decide +kernel
theorem dL_law_434 : decode cL_law 434 = .ok (.iadd, 1) := by decide +kernel
theorem dL_law_435 : decode cL_law 435 = .ok (.iaload, 1) := by decide +kernel
theorem dL_law_436 : decode cL_law 436 = .ok (.aload_n 0, 1) := by decide +kernel
theorem dL_law_437 : decode cL_law 437 = .ok (.iload_n 3, 1) := by decide +kernel
theorem dL_law_438 : decode cL_law 438 = .ok (.iconst 2, 1) := by decide +kernel
theorem dL_law_439 : decode cL_law 439 = .ok (.iadd, 1) := by decide +kernel
theorem dL_law_440 : decode cL_law 440 = .ok (.iaload, 1) := by decide +kernel
theorem dL_law_441 : decode cL_law 441 = .ok (.invokevirtual 60, 3) := by decide +kernel
theorem dL_law_444 : decode cL_law 444 = .ok (.if_icmp .eq 397, 3) := by decide +kernel
theorem dL_law_447 : decode cL_law 447 = .ok (.iconst 0, 1) := by decide +kernel
theorem dL_law_448 : decode cL_law 448 = .ok (.ireturn, 1) := by decide +kernel
theorem dL_law_449 : decode cL_law 449 = .ok (.aload_n 1, 1) := by decide +kernel
theorem dL_law_450 : decode cL_law 450 = .ok (.aload_n 0, 1) := by decide +kernel
theorem dL_law_451 : decode cL_law 451 = .ok (.iload_n 3, 1) := by decide +kernel
theorem dL_law_452 : decode cL_law 452 = .ok (.iconst 1, 1) := by decide +kernel
theorem dL_law_453 : decode cL_law 453 = .ok (.iadd, 1) := by decide +kernel
theorem dL_law_454 : decode cL_law 454 = .ok (.iaload, 1) := by decide +kernel
theorem dL_law_455 : decode cL_law 455 = .ok (.aload_n 0, 1) := by decide +kernel
theorem dL_law_456 : decode cL_law 456 = .ok (.iload_n 3, 1) := by decide +kernel
theorem dL_law_457 : decode cL_law 457 = .ok (.iconst 2, 1) := by decide +kernel
theorem dL_law_458 : decode cL_law 458 = .ok (.iadd, 1) := by decide +kernel
theorem dL_law_459 : decode cL_law 459 = .ok (.iaload, 1) := by decide +kernel
theorem dL_law_460 : decode cL_law 460 = .ok (.aload_n 0, 1) := by decide +kernel
theorem dL_law_461 : decode cL_law 461 = .ok (.iload_n 3, 1) := by decide +kernel
theorem dL_law_462 : decode cL_law 462 = .ok (.iconst 3, 1) := by decide +kernel
theorem dL_law_463 : decode cL_law 463 = .ok (.iadd, 1) := by decide +kernel
theorem dL_law_464 : decode cL_law 464 = .ok (.iaload, 1) := by decide +kernel
theorem dL_law_465 : decode cL_law 465 = .ok (.invokevirtual 61, 3) := by decide +kernel
theorem dL_law_468 : decode cL_law 468 = .ok (.aload_n 2, 1) := by decide +kernel
theorem dL_law_469 : decode cL_law 469 = .ok (.aload_n 0, 1) := by decide +kernel
theorem dL_law_470 : decode cL_law 470 = .ok (.iload_n 3, 1) := by decide +kernel
theorem dL_law_471 : decode cL_law 471 = .ok (.iconst 1, 1) := by decide +kernel
theorem dL_law_472 : decode cL_law 472 = .ok (.iadd, 1) := by decide +kernel
theorem dL_law_473 : decode cL_law 473 = .ok (.iaload, 1) := by decide +kernel
theorem dL_law_474 : decode cL_law 474 = .ok (.aload_n 0, 1) := by decide +kernel
theorem dL_law_475 : decode cL_law 475 = .ok (.iload_n 3, 1) := by decide +kernel
theorem dL_law_476 : decode cL_law 476 = .ok (.iconst 2, 1) := by decide +kernel
theorem dL_law_477 : decode cL_law 477 = .ok (.iadd, 1) := by decide +kernel
theorem dL_law_478 : decode cL_law 478 = .ok (.iaload, 1) := by decide +kernel
theorem dL_law_479 : decode cL_law 479 = .ok (.aload_n 0, 1) := by decide +kernel
theorem dL_law_480 : decode cL_law 480 = .ok (.iload_n 3, 1) := by decide +kernel
theorem dL_law_481 : decode cL_law 481 = .ok (.iconst 3, 1) := by decide +kernel
theorem dL_law_482 : decode cL_law 482 = .ok (.iadd, 1) := by decide +kernel
theorem dL_law_483 : decode cL_law 483 = .ok (.iaload, 1) := by decide +kernel
theorem dL_law_484 : decode cL_law 484 = .ok (.invokevirtual 65, 3) := by decide +kernel
theorem dL_law_487 : decode cL_law 487 = .ok (.if_icmp .eq 354, 3) := by decide +kernel
theorem dL_law_490 : decode cL_law 490 = .ok (.iconst 0, 1) := by decide +kernel
theorem dL_law_491 : decode cL_law 491 = .ok (.ireturn, 1) := by decide +kernel
theorem dL_law_492 : decode cL_law 492 = .ok (.aload_n 1, 1) := by decide +kernel
theorem dL_law_493 : decode cL_law 493 = .ok (.aload_n 0, 1) := by decide +kernel
theorem dL_law_494 : decode cL_law 494 = .ok (.iload_n 3, 1) := by decide +kernel
theorem dL_law_495 : decode cL_law 495 = .ok (.iconst 1, 1) := by decide +kernel
theorem dL_law_496 : decode cL_law 496 = .ok (.iadd, 1) := by decide +kernel
theorem dL_law_497 : decode cL_law 497 = .ok (.iaload, 1) := by decide +kernel
theorem dL_law_498 : decode cL_law 498 = .ok (.invokevirtual 66, 3) := by decide +kernel
theorem dL_law_501 : decode cL_law 501 = .ok (.aload_n 2, 1) := by decide +kernel
theorem dL_law_502 : decode cL_law 502 = .ok (.aload_n 0, 1) := by decide +kernel
theorem dL_law_503 : decode cL_law 503 = .ok (.iload_n 3, 1) := by decide +kernel
theorem dL_law_504 : decode cL_law 504 = .ok (.iconst 1, 1) := by decide +kernel
theorem dL_law_505 : decode cL_law 505 = .ok (.iadd, 1) := by decide +kernel
theorem dL_law_506 : decode cL_law 506 = .ok (.iaload, 1) := by decide +kernel
theorem dL_law_507 : decode cL_law 507 = .ok (.invokevirtual 69, 3) := by decide +kernel
theorem dL_law_510 : decode cL_law 510 = .ok (.if_icmp .eq 331, 3) := by decide +kernel
theorem dL_law_513 : decode cL_law 513 = .ok (.iconst 0, 1) := by decide +kernel
theorem dL_law_514 : decode cL_law 514 = .ok (.ireturn, 1) := by decide +kernel
theorem dL_law_515 : decode cL_law 515 = .ok (.aload_n 1, 1) := by decide +kernel
theorem dL_law_516 : decode cL_law 516 = .ok (.aload_n 0, 1) := by decide +kernel
theorem dL_law_517 : decode cL_law 517 = .ok (.iload_n 3, 1) := by decide +kernel
theorem dL_law_518 : decode cL_law 518 = .ok (.iconst 1, 1) := by decide +kernel
theorem dL_law_519 : decode cL_law 519 = .ok (.iadd, 1) := by decide +kernel
theorem dL_law_520 : decode cL_law 520 = .ok (.iaload, 1) := by decide +kernel
theorem dL_law_521 : decode cL_law 521 = .ok (.invokevirtual 70, 3) := by decide +kernel
theorem dL_law_524 : decode cL_law 524 = .ok (.aload_n 2, 1) := by decide +kernel
theorem dL_law_525 : decode cL_law 525 = .ok (.aload_n 0, 1) := by decide +kernel
theorem dL_law_526 : decode cL_law 526 = .ok (.iload_n 3, 1) := by decide +kernel
theorem dL_law_527 : decode cL_law 527 = .ok (.iconst 1, 1) := by decide +kernel
theorem dL_law_528 : decode cL_law 528 = .ok (.iadd, 1) := by decide +kernel
theorem dL_law_529 : decode cL_law 529 = .ok (.iaload, 1) := by decide +kernel
theorem dL_law_530 : decode cL_law 530 = .ok (.invokevirtual 73, 3) := by decide +kernel
theorem dL_law_533 : decode cL_law 533 = .ok (.if_icmp .eq 308, 3) := by decide +kernel
theorem dL_law_536 : decode cL_law 536 = .ok (.iconst 0, 1) := by decide +kernel
theorem dL_law_537 : decode cL_law 537 = .ok (.ireturn, 1) := by decide +kernel
theorem dL_law_538 : decode cL_law 538 = .ok (.aload_n 1, 1) := by decide +kernel
theorem dL_law_539 : decode cL_law 539 = .ok (.aload_n 0, 1) := by decide +kernel
theorem dL_law_540 : decode cL_law 540 = .ok (.iload_n 3, 1) := by decide +kernel
theorem dL_law_541 : decode cL_law 541 = .ok (.iconst 1, 1) := by decide +kernel
theorem dL_law_542 : decode cL_law 542 = .ok (.iadd, 1) := by decide +kernel
theorem dL_law_543 : decode cL_law 543 = .ok (.iaload, 1) := by decide +kernel
theorem dL_law_544 : decode cL_law 544 = .ok (.aload_n 0, 1) := by decide +kernel
theorem dL_law_545 : decode cL_law 545 = .ok (.iload_n 3, 1) := by decide +kernel
theorem dL_law_546 : decode cL_law 546 = .ok (.iconst 2, 1) := by decide +kernel
theorem dL_law_547 : decode cL_law 547 = .ok (.iadd, 1) := by decide +kernel
theorem dL_law_548 : decode cL_law 548 = .ok (.iaload, 1) := by decide +kernel
theorem dL_law_549 : decode cL_law 549 = .ok (.invokevirtual 74, 3) := by decide +kernel
theorem dL_law_552 : decode cL_law 552 = .ok (.aload_n 2, 1) := by decide +kernel
theorem dL_law_553 : decode cL_law 553 = .ok (.aload_n 0, 1) := by decide +kernel
theorem dL_law_554 : decode cL_law 554 = .ok (.iload_n 3, 1) := by decide +kernel
theorem dL_law_555 : decode cL_law 555 = .ok (.iconst 1, 1) := by decide +kernel
theorem dL_law_556 : decode cL_law 556 = .ok (.iadd, 1) := by decide +kernel
theorem dL_law_557 : decode cL_law 557 = .ok (.iaload, 1) := by decide +kernel
theorem dL_law_558 : decode cL_law 558 = .ok (.aload_n 0, 1) := by decide +kernel
theorem dL_law_559 : decode cL_law 559 = .ok (.iload_n 3, 1) := by decide +kernel
theorem dL_law_560 : decode cL_law 560 = .ok (.iconst 2, 1) := by decide +kernel
theorem dL_law_561 : decode cL_law 561 = .ok (.iadd, 1) := by decide +kernel
theorem dL_law_562 : decode cL_law 562 = .ok (.iaload, 1) := by decide +kernel
theorem dL_law_563 : decode cL_law 563 = .ok (.invokevirtual 77, 3) := by decide +kernel
theorem dL_law_566 : decode cL_law 566 = .ok (.if_icmp .eq 275, 3) := by decide +kernel
theorem dL_law_569 : decode cL_law 569 = .ok (.iconst 0, 1) := by decide +kernel
theorem dL_law_570 : decode cL_law 570 = .ok (.ireturn, 1) := by decide +kernel
theorem dL_law_571 : decode cL_law 571 = .ok (.aload_n 1, 1) := by decide +kernel
theorem dL_law_572 : decode cL_law 572 = .ok (.aload_n 0, 1) := by decide +kernel
theorem dL_law_573 : decode cL_law 573 = .ok (.iload_n 3, 1) := by decide +kernel
theorem dL_law_574 : decode cL_law 574 = .ok (.iconst 1, 1) := by decide +kernel
theorem dL_law_575 : decode cL_law 575 = .ok (.iadd, 1) := by decide +kernel
theorem dL_law_576 : decode cL_law 576 = .ok (.iaload, 1) := by decide +kernel
theorem dL_law_577 : decode cL_law 577 = .ok (.invokevirtual 78, 3) := by decide +kernel
theorem dL_law_580 : decode cL_law 580 = .ok (.aload_n 2, 1) := by decide +kernel
theorem dL_law_581 : decode cL_law 581 = .ok (.aload_n 0, 1) := by decide +kernel
theorem dL_law_582 : decode cL_law 582 = .ok (.iload_n 3, 1) := by decide +kernel
theorem dL_law_583 : decode cL_law 583 = .ok (.iconst 1, 1) := by decide +kernel
theorem dL_law_584 : decode cL_law 584 = .ok (.iadd, 1) := by decide +kernel
theorem dL_law_585 : decode cL_law 585 = .ok (.iaload, 1) := by decide +kernel
theorem dL_law_586 : decode cL_law 586 = .ok (.invokevirtual 81, 3) := by decide +kernel
theorem dL_law_589 : decode cL_law 589 = .ok (.if_icmp .eq 252, 3) := by decide +kernel
theorem dL_law_592 : decode cL_law 592 = .ok (.iconst 0, 1) := by decide +kernel
theorem dL_law_593 : decode cL_law 593 = .ok (.ireturn, 1) := by decide +kernel
theorem dL_law_594 : decode cL_law 594 = .ok (.aload_n 1, 1) := by decide +kernel
theorem dL_law_595 : decode cL_law 595 = .ok (.aload_n 0, 1) := by decide +kernel
theorem dL_law_596 : decode cL_law 596 = .ok (.iload_n 3, 1) := by decide +kernel
theorem dL_law_597 : decode cL_law 597 = .ok (.iconst 1, 1) := by decide +kernel
theorem dL_law_598 : decode cL_law 598 = .ok (.iadd, 1) := by decide +kernel
theorem dL_law_599 : decode cL_law 599 = .ok (.iaload, 1) := by decide +kernel
theorem dL_law_600 : decode cL_law 600 = .ok (.aload_n 0, 1) := by decide +kernel
theorem dL_law_601 : decode cL_law 601 = .ok (.iload_n 3, 1) := by decide +kernel
theorem dL_law_602 : decode cL_law 602 = .ok (.iconst 2, 1) := by decide +kernel
theorem dL_law_603 : decode cL_law 603 = .ok (.iadd, 1) := by decide +kernel
theorem dL_law_604 : decode cL_law 604 = .ok (.iaload, 1) := by decide +kernel
theorem dL_law_605 : decode cL_law 605 = .ok (.invokevirtual 82, 3) := by decide +kernel
theorem dL_law_608 : decode cL_law 608 = .ok (.aload_n 2, 1) := by decide +kernel
theorem dL_law_609 : decode cL_law 609 = .ok (.aload_n 0, 1) := by decide +kernel
theorem dL_law_610 : decode cL_law 610 = .ok (.iload_n 3, 1) := by decide +kernel
theorem dL_law_611 : decode cL_law 611 = .ok (.iconst 1, 1) := by decide +kernel
theorem dL_law_612 : decode cL_law 612 = .ok (.iadd, 1) := by decide +kernel
theorem dL_law_613 : decode cL_law 613 = .ok (.iaload, 1) := by decide +kernel
theorem dL_law_614 : decode cL_law 614 = .ok (.aload_n 0, 1) := by decide +kernel
theorem dL_law_615 : decode cL_law 615 = .ok (.iload_n 3, 1) := by decide +kernel
theorem dL_law_616 : decode cL_law 616 = .ok (.iconst 2, 1) := by decide +kernel
theorem dL_law_617 : decode cL_law 617 = .ok (.iadd, 1) := by decide +kernel
theorem dL_law_618 : decode cL_law 618 = .ok (.iaload, 1) := by decide +kernel
theorem dL_law_619 : decode cL_law 619 = .ok (.invokevirtual 85, 3) := by decide +kernel
theorem dL_law_622 : decode cL_law 622 = .ok (.if_icmp .eq 219, 3) := by decide +kernel
theorem dL_law_625 : decode cL_law 625 = .ok (.iconst 0, 1) := by decide +kernel
theorem dL_law_626 : decode cL_law 626 = .ok (.ireturn, 1) := by decide +kernel
theorem dL_law_627 : decode cL_law 627 = .ok (.aload_n 1, 1) := by decide +kernel
theorem dL_law_628 : decode cL_law 628 = .ok (.aload_n 0, 1) := by decide +kernel
theorem dL_law_629 : decode cL_law 629 = .ok (.iload_n 3, 1) := by decide +kernel
theorem dL_law_630 : decode cL_law 630 = .ok (.iconst 1, 1) := by decide +kernel
theorem dL_law_631 : decode cL_law 631 = .ok (.iadd, 1) := by decide +kernel
theorem dL_law_632 : decode cL_law 632 = .ok (.iaload, 1) := by decide +kernel
theorem dL_law_633 : decode cL_law 633 = .ok (.invokevirtual 86, 3) := by decide +kernel
theorem dL_law_636 : decode cL_law 636 = .ok (.aload_n 2, 1) := by decide +kernel
theorem dL_law_637 : decode cL_law 637 = .ok (.aload_n 0, 1) := by decide +kernel
theorem dL_law_638 : decode cL_law 638 = .ok (.iload_n 3, 1) := by decide +kernel
theorem dL_law_639 : decode cL_law 639 = .ok (.iconst 1, 1) := by decide +kernel
theorem dL_law_640 : decode cL_law 640 = .ok (.iadd, 1) := by decide +kernel
theorem dL_law_641 : decode cL_law 641 = .ok (.iaload, 1) := by decide +kernel
theorem dL_law_642 : decode cL_law 642 = .ok (.invokevirtual 89, 3) := by decide +kernel
theorem dL_law_645 : decode cL_law 645 = .ok (.if_icmp .eq 196, 3) := by decide +kernel
theorem dL_law_648 : decode cL_law 648 = .ok (.iconst 0, 1) := by decide +kernel
theorem dL_law_649 : decode cL_law 649 = .ok (.ireturn, 1) := by decide +kernel
theorem dL_law_650 : decode cL_law 650 = .ok (.aload_n 1, 1) := by decide +kernel
theorem dL_law_651 : decode cL_law 651 = .ok (.aload_n 0, 1) := by decide +kernel
theorem dL_law_652 : decode cL_law 652 = .ok (.iload_n 3, 1) := by decide +kernel
theorem dL_law_653 : decode cL_law 653 = .ok (.iconst 1, 1) := by decide +kernel
theorem dL_law_654 : decode cL_law 654 = .ok (.iadd, 1) := by decide +kernel
theorem dL_law_655 : decode cL_law 655 = .ok (.iaload, 1) := by decide +kernel
theorem dL_law_656 : decode cL_law 656 = .ok (.invokevirtual 90, 3) := by decide +kernel
theorem dL_law_659 : decode cL_law 659 = .ok (.aload_n 2, 1) := by decide +kernel
theorem dL_law_660 : decode cL_law 660 = .ok (.aload_n 0, 1) := by decide +kernel
theorem dL_law_661 : decode cL_law 661 = .ok (.iload_n 3, 1) := by decide +kernel
theorem dL_law_662 : decode cL_law 662 = .ok (.iconst 1, 1) := by decide +kernel
theorem dL_law_663 : decode cL_law 663 = .ok (.iadd, 1) := by decide +kernel
theorem dL_law_664 : decode cL_law 664 = .ok (.iaload, 1) := by decide +kernel
theorem dL_law_665 : decode cL_law 665 = .ok (.invokevirtual 93, 3) := by decide +kernel
theorem dL_law_668 : decode cL_law 668 = .ok (.if_icmp .eq 173, 3) := by decide +kernel
theorem dL_law_671 : decode cL_law 671 = .ok (.iconst 0, 1) := by decide +kernel
theorem dL_law_672 : decode cL_law 672 = .ok (.ireturn, 1) := by decide +kernel
theorem dL_law_673 : decode cL_law 673 = .ok (.aload_n 1, 1) := by decide +kernel
theorem dL_law_674 : decode cL_law 674 = .ok (.invokevirtual 94, 3) := by decide +kernel
theorem dL_law_677 : decode cL_law 677 = .ok (.aload_n 2, 1) := by decide +kernel
theorem dL_law_678 : decode cL_law 678 = .ok (.invokevirtual 97, 3) := by decide +kernel
theorem dL_law_681 : decode cL_law 681 = .ok (.if_icmp .eq 160, 3) := by decide +kernel
theorem dL_law_684 : decode cL_law 684 = .ok (.iconst 0, 1) := by decide +kernel
theorem dL_law_685 : decode cL_law 685 = .ok (.ireturn, 1) := by decide +kernel
theorem dL_law_686 : decode cL_law 686 = .ok (.aload_n 1, 1) := by decide +kernel
theorem dL_law_687 : decode cL_law 687 = .ok (.invokevirtual 98, 3) := by decide +kernel
theorem dL_law_690 : decode cL_law 690 = .ok (.aload_n 2, 1) := by decide +kernel
theorem dL_law_691 : decode cL_law 691 = .ok (.invokevirtual 101, 3) := by decide +kernel
theorem dL_law_694 : decode cL_law 694 = .ok (.if_icmp .eq 147, 3) := by decide +kernel
theorem dL_law_697 : decode cL_law 697 = .ok (.iconst 0, 1) := by decide +kernel
theorem dL_law_698 : decode cL_law 698 = .ok (.ireturn, 1) := by decide +kernel
theorem dL_law_699 : decode cL_law 699 = .ok (.aload_n 1, 1) := by decide +kernel
theorem dL_law_700 : decode cL_law 700 = .ok (.aload_n 0, 1) := by decide +kernel
theorem dL_law_701 : decode cL_law 701 = .ok (.iload_n 3, 1) := by decide +kernel
theorem dL_law_702 : decode cL_law 702 = .ok (.iconst 1, 1) := by decide +kernel
theorem dL_law_703 : decode cL_law 703 = .ok (.iadd, 1) := by decide +kernel
theorem dL_law_704 : decode cL_law 704 = .ok (.iaload, 1) := by decide +kernel
theorem dL_law_705 : decode cL_law 705 = .ok (.invokevirtual 102, 3) := by decide +kernel
theorem dL_law_708 : decode cL_law 708 = .ok (.aload_n 2, 1) := by decide +kernel
theorem dL_law_709 : decode cL_law 709 = .ok (.aload_n 0, 1) := by decide +kernel
theorem dL_law_710 : decode cL_law 710 = .ok (.iload_n 3, 1) := by decide +kernel
theorem dL_law_711 : decode cL_law 711 = .ok (.iconst 1, 1) := by decide +kernel
theorem dL_law_712 : decode cL_law 712 = .ok (.iadd, 1) := by decide +kernel
theorem dL_law_713 : decode cL_law 713 = .ok (.iaload, 1) := by decide +kernel
theorem dL_law_714 : decode cL_law 714 = .ok (.invokevirtual 105, 3) := by decide +kernel
theorem dL_law_717 : decode cL_law 717 = .ok (.if_icmp .eq 124, 3) := by decide +kernel
theorem dL_law_720 : decode cL_law 720 = .ok (.iconst 0, 1) := by decide +kernel
theorem dL_law_721 : decode cL_law 721 = .ok (.ireturn, 1) := by decide +kernel
theorem dL_law_722 : decode cL_law 722 = .ok (.aload_n 1, 1) := by decide +kernel
theorem dL_law_723 : decode cL_law 723 = .ok (.invokevirtual 106, 3) := by decide +kernel
theorem dL_law_726 : decode cL_law 726 = .ok (.aload_n 2, 1) := by decide +kernel
theorem dL_law_727 : decode cL_law 727 = .ok (.invokevirtual 109, 3) := by decide +kernel
theorem dL_law_730 : decode cL_law 730 = .ok (.if_icmp .eq 111, 3) := by decide +kernel
theorem dL_law_733 : decode cL_law 733 = .ok (.iconst 0, 1) := by decide +kernel
theorem dL_law_734 : decode cL_law 734 = .ok (.ireturn, 1) := by decide +kernel
theorem dL_law_735 : decode cL_law 735 = .ok (.aload_n 1, 1) := by decide +kernel
theorem dL_law_736 : decode cL_law 736 = .ok (.aload_n 0, 1) := by decide +kernel
theorem dL_law_737 : decode cL_law 737 = .ok (.iload_n 3, 1) := by decide +kernel
theorem dL_law_738 : decode cL_law 738 = .ok (.iconst 1, 1) := by decide +kernel
theorem dL_law_739 : decode cL_law 739 = .ok (.iadd, 1) := by decide +kernel
theorem dL_law_740 : decode cL_law 740 = .ok (.iaload, 1) := by decide +kernel
theorem dL_law_741 : decode cL_law 741 = .ok (.aload_n 0, 1) := by decide +kernel
theorem dL_law_742 : decode cL_law 742 = .ok (.iload_n 3, 1) := by decide +kernel
theorem dL_law_743 : decode cL_law 743 = .ok (.iconst 2, 1) := by decide +kernel
theorem dL_law_744 : decode cL_law 744 = .ok (.iadd, 1) := by decide +kernel
theorem dL_law_745 : decode cL_law 745 = .ok (.iaload, 1) := by decide +kernel
theorem dL_law_746 : decode cL_law 746 = .ok (.aload_n 0, 1) := by decide +kernel
theorem dL_law_747 : decode cL_law 747 = .ok (.iload_n 3, 1) := by decide +kernel
theorem dL_law_748 : decode cL_law 748 = .ok (.iconst 3, 1) := by decide +kernel
theorem dL_law_749 : decode cL_law 749 = .ok (.iadd, 1) := by decide +kernel
theorem dL_law_750 : decode cL_law 750 = .ok (.iaload, 1) := by decide +kernel
theorem dL_law_751 : decode cL_law 751 = .ok (.invokevirtual 110, 3) := by decide +kernel
theorem dL_law_754 : decode cL_law 754 = .ok (.aload_n 2, 1) := by decide +kernel
theorem dL_law_755 : decode cL_law 755 = .ok (.aload_n 0, 1) := by decide +kernel
theorem dL_law_756 : decode cL_law 756 = .ok (.iload_n 3, 1) := by decide +kernel
theorem dL_law_757 : decode cL_law 757 = .ok (.iconst 1, 1) := by decide +kernel
theorem dL_law_758 : decode cL_law 758 = .ok (.iadd, 1) := by decide +kernel
theorem dL_law_759 : decode cL_law 759 = .ok (.iaload, 1) := by decide +kernel
theorem dL_law_760 : decode cL_law 760 = .ok (.aload_n 0, 1) := by decide +kernel
theorem dL_law_761 : decode cL_law 761 = .ok (.iload_n 3, 1) := by decide +kernel
theorem dL_law_762 : decode cL_law 762 = .ok (.iconst 2, 1) := by decide +kernel
theorem dL_law_763 : decode cL_law 763 = .ok (.iadd, 1) := by decide +kernel
theorem dL_law_764 : decode cL_law 764 = .ok (.iaload, 1) := by decide +kernel
theorem dL_law_765 : decode cL_law 765 = .ok (.aload_n 0, 1) := by decide +kernel
theorem dL_law_766 : decode cL_law 766 = .ok (.iload_n 3, 1) := by decide +kernel
theorem dL_law_767 : decode cL_law 767 = .ok (.iconst 3, 1) := by decide +kernel
theorem dL_law_768 : decode cL_law 768 = .ok (.iadd, 1) := by decide +kernel
theorem dL_law_769 : decode cL_law 769 = .ok (.iaload, 1) := by decide +kernel
theorem dL_law_770 : decode cL_law 770 = .ok (.invokevirtual 113, 3) := by decide +kernel
theorem dL_law_773 : decode cL_law 773 = .ok (.if_icmp .eq 68, 3) := by decide +kernel
theorem dL_law_776 : decode cL_law 776 = .ok (.iconst 0, 1) := by decide +kernel
theorem dL_law_777 : decode cL_law 777 = .ok (.ireturn, 1) := by decide +kernel
theorem dL_law_778 : decode cL_law 778 = .ok (.aload_n 1, 1) := by decide +kernel
theorem dL_law_779 : decode cL_law 779 = .ok (.invokevirtual 114, 3) := by decide +kernel
theorem dL_law_782 : decode cL_law 782 = .ok (.aload_n 2, 1) := by decide +kernel
theorem dL_law_783 : decode cL_law 783 = .ok (.invokevirtual 117, 3) := by decide +kernel
theorem dL_law_786 : decode cL_law 786 = .ok (.if_icmp .eq 55, 3) := by decide +kernel
theorem dL_law_789 : decode cL_law 789 = .ok (.iconst 0, 1) := by decide +kernel
theorem dL_law_790 : decode cL_law 790 = .ok (.ireturn, 1) := by decide +kernel
theorem dL_law_791 : decode cL_law 791 = .ok (.aload_n 1, 1) := by decide +kernel
theorem dL_law_792 : decode cL_law 792 = .ok (.invokevirtual 118, 3) := by decide +kernel
theorem dL_law_795 : decode cL_law 795 = .ok (.aload_n 2, 1) := by decide +kernel
theorem dL_law_796 : decode cL_law 796 = .ok (.invokevirtual 121, 3) := by decide +kernel
theorem dL_law_799 : decode cL_law 799 = .ok (.if_icmp .eq 42, 3) := by decide +kernel
theorem dL_law_802 : decode cL_law 802 = .ok (.iconst 0, 1) := by decide +kernel
theorem dL_law_803 : decode cL_law 803 = .ok (.ireturn, 1) := by decide +kernel
theorem dL_law_804 : decode cL_law 804 = .ok (.aload_n 1, 1) := by decide +kernel
theorem dL_law_805 : decode cL_law 805 = .ok (.aload_n 0, 1) := by decide +kernel
theorem dL_law_806 : decode cL_law 806 = .ok (.iload_n 3, 1) := by decide +kernel
theorem dL_law_807 : decode cL_law 807 = .ok (.iconst 1, 1) := by decide +kernel
theorem dL_law_808 : decode cL_law 808 = .ok (.iadd, 1) := by decide +kernel
theorem dL_law_809 : decode cL_law 809 = .ok (.iaload, 1) := by decide +kernel
theorem dL_law_810 : decode cL_law 810 = .ok (.invokevirtual 122, 3) := by decide +kernel
theorem dL_law_813 : decode cL_law 813 = .ok (.aload_n 2, 1) := by decide +kernel
theorem dL_law_814 : decode cL_law 814 = .ok (.aload_n 0, 1) := by decide +kernel
theorem dL_law_815 : decode cL_law 815 = .ok (.iload_n 3, 1) := by decide +kernel
theorem dL_law_816 : decode cL_law 816 = .ok (.iconst 1, 1) := by decide +kernel
theorem dL_law_817 : decode cL_law 817 = .ok (.iadd, 1) := by decide +kernel
theorem dL_law_818 : decode cL_law 818 = .ok (.iaload, 1) := by decide +kernel
theorem dL_law_819 : decode cL_law 819 = .ok (.invokevirtual 125, 3) := by decide +kernel
theorem dL_law_822 : decode cL_law 822 = .ok (.if_icmp .eq 19, 3) := by decide +kernel
theorem dL_law_825 : decode cL_law 825 = .ok (.iconst 0, 1) := by decide +kernel
theorem dL_law_826 : decode cL_law 826 = .ok (.ireturn, 1) := by decide +kernel
theorem dL_law_827 : decode cL_law 827 = .ok (.aload_n 1, 1) := by decide +kernel
theorem dL_law_828 : decode cL_law 828 = .ok (.invokevirtual 126, 3) := by decide +kernel
theorem dL_law_831 : decode cL_law 831 = .ok (.aload_n 2, 1) := by decide +kernel
theorem dL_law_832 : decode cL_law 832 = .ok (.invokevirtual 130, 3) := by decide +kernel
theorem dL_law_835 : decode cL_law 835 = .ok (.lcmp, 1) := by decide +kernel
theorem dL_law_836 : decode cL_law 836 = .ok (.ifCond .eq 5, 3) := by decide +kernel
theorem dL_law_839 : decode cL_law 839 = .ok (.iconst 0, 1) := by decide +kernel
theorem dL_law_840 : decode cL_law 840 = .ok (.ireturn, 1) := by decide +kernel
theorem dL_law_841 : decode cL_law 841 = .ok (.iinc 3 4, 3) := by decide +kernel
theorem dL_law_844 : decode cL_law 844 = .ok (.goto (-826), 3) := by decide +kernel
theorem dL_law_847 : decode cL_law 847 = .ok (.iconst 1, 1) := by decide +kernel
theorem dL_law_848 : decode cL_law 848 = .ok (.ireturn, 1) := by decide +kernel