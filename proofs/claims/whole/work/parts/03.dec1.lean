theorem dX9_placeToAsk_11 : decode cX9_placeToAsk 11 = .ok (.if_icmp .ge 58, 3) := by decide +kernel
theorem dX9_placeToAsk_14 : decode cX9_placeToAsk 14 = .ok (.iload 4, 2) := by decide +kernel
theorem dX9_placeToAsk_16 : decode cX9_placeToAsk 16 = .ok (.bipush 7, 2) := by decide +kernel
theorem dX9_placeToAsk_18 : decode cX9_placeToAsk 18 = .ok (.if_icmp .ge 51, 3) := by decide +kernel
theorem dX9_placeToAsk_21 : decode cX9_placeToAsk 21 = .ok (.aload_n 0, 1) := by decide +kernel
theorem dX9_placeToAsk_22 : decode cX9_placeToAsk 22 = .ok (.getfield 22, 3) := by decide +kernel
theorem dX9_placeToAsk_25 : decode cX9_placeToAsk 25 = .ok (.iload 4, 2) := by decide +kernel
theorem dX9_placeToAsk_27 : decode cX9_placeToAsk 27 = .ok (.iaload, 1) := by decide +kernel
theorem dX9_placeToAsk_28 : decode cX9_placeToAsk 28 = .ok (.aload_n 0, 1) := by decide +kernel
theorem dX9_placeToAsk_29 : decode cX9_placeToAsk 29 = .ok (.getfield 29, 3) := by decide +kernel
theorem dX9_placeToAsk_32 : decode cX9_placeToAsk 32 = .ok (.aload_n 0, 1) := by decide +kernel
theorem dX9_placeToAsk_33 : decode cX9_placeToAsk 33 = .ok (.getfield 22, 3) := by decide +kernel
theorem dX9_placeToAsk_36 : decode cX9_placeToAsk 36 = .ok (.iload 4, 2) := by decide +kernel
theorem dX9_placeToAsk_38 : decode cX9_placeToAsk 38 = .ok (.iaload, 1) := by decide +kernel
theorem dX9_placeToAsk_39 : decode cX9_placeToAsk 39 = .ok (.isub, 1) := by decide +kernel
theorem dX9_placeToAsk_40 : decode cX9_placeToAsk 40 = .ok (.invokestatic 58, 3) := by decide +kernel
theorem dX9_placeToAsk_43 : decode cX9_placeToAsk 43 = .ok (.istore 5, 2) := by decide +kernel
theorem dX9_placeToAsk_45 : decode cX9_placeToAsk 45 = .ok (.iload_n 2, 1) := by decide +kernel
theorem dX9_placeToAsk_46 : decode cX9_placeToAsk 46 = .ok (.bipush (-2), 2) := by decide +kernel
theorem dX9_placeToAsk_48 : decode cX9_placeToAsk 48 = .ok (.if_icmp .eq 9, 3) := by decide +kernel
theorem dX9_placeToAsk_51 : decode cX9_placeToAsk 51 = .ok (.iload 5, 2) := by decide +kernel
theorem dX9_placeToAsk_53 : decode cX9_placeToAsk 53 = .ok (.iload_n 3, 1) := by decide +kernel
theorem dX9_placeToAsk_54 : decode cX9_placeToAsk 54 = .ok (.if_icmp .ge 9, 3) := by decide +kernel
theorem dX9_placeToAsk_57 : decode cX9_placeToAsk 57 = .ok (.iload 4, 2) := by decide +kernel
theorem dX9_placeToAsk_59 : decode cX9_placeToAsk 59 = .ok (.istore_n 2, 1) := by decide +kernel
theorem dX9_placeToAsk_60 : decode cX9_placeToAsk 60 = .ok (.iload 5, 2) := by decide +kernel
theorem dX9_placeToAsk_62 : decode cX9_placeToAsk 62 = .ok (.istore_n 3, 1) := by decide +kernel
theorem dX9_placeToAsk_63 : decode cX9_placeToAsk 63 = .ok (.iinc 4 1, 3) := by decide +kernel
theorem dX9_placeToAsk_66 : decode cX9_placeToAsk 66 = .ok (.goto (-58), 3) := by decide +kernel
theorem dX9_placeToAsk_69 : decode cX9_placeToAsk 69 = .ok (.iload_n 2, 1) := by decide +kernel
theorem dX9_placeToAsk_70 : decode cX9_placeToAsk 70 = .ok (.ireturn, 1) := by decide +kernel
theorem dX10_init_0 : decode cX10_init 0 = .ok (.aload_n 0, 1) := by decide +kernel
theorem dX10_init_1 : decode cX10_init 1 = .ok (.invokespecial 1, 3) := by decide +kernel
theorem dX10_init_4 : decode cX10_init 4 = .ok (.aload_n 0, 1) := by decide +kernel
theorem dX10_init_5 : decode cX10_init 5 = .ok (.new 7, 3) := by decide +kernel
theorem dX10_init_8 : decode cX10_init 8 = .ok (.dup, 1) := by decide +kernel
theorem dX10_init_9 : decode cX10_init 9 = .ok (.invokespecial 9, 3) := by decide +kernel
theorem dX10_init_12 : decode cX10_init 12 = .ok (.putfield 10, 3) := by decide +kernel
theorem dX10_init_15 : decode cX10_init 15 = .ok (.aload_n 0, 1) := by decide +kernel
theorem dX10_init_16 : decode cX10_init 16 = .ok (.new 16, 3) := by decide +kernel
theorem dX10_init_19 : decode cX10_init 19 = .ok (.dup, 1) := by decide +kernel
theorem dX10_init_20 : decode cX10_init 20 = .ok (.invokespecial 18, 3) := by decide +kernel
theorem dX10_init_23 : decode cX10_init 23 = .ok (.putfield 19, 3) := by decide +kernel
theorem dX10_init_26 : decode cX10_init 26 = .ok (.aload_n 0, 1) := by decide +kernel
theorem dX10_init_27 : decode cX10_init 27 = .ok (.new 23, 3) := by decide +kernel
theorem dX10_init_30 : decode cX10_init 30 = .ok (.dup, 1) := by decide +kernel
theorem dX10_init_31 : decode cX10_init 31 = .ok (.aload_n 0, 1) := by decide +kernel
theorem dX10_init_32 : decode cX10_init 32 = .ok (.getfield 10, 3) := by decide +kernel
theorem dX10_init_35 : decode cX10_init 35 = .ok (.invokespecial 25, 3) := by decide +kernel
theorem dX10_init_38 : decode cX10_init 38 = .ok (.putfield 28, 3) := by decide +kernel
theorem dX10_init_41 : decode cX10_init 41 = .ok (.aload_n 0, 1) := by decide +kernel
theorem dX10_init_42 : decode cX10_init 42 = .ok (.new 32, 3) := by decide +kernel
theorem dX10_init_45 : decode cX10_init 45 = .ok (.dup, 1) := by decide +kernel
theorem dX10_init_46 : decode cX10_init 46 = .ok (.aload_n 0, 1) := by decide +kernel
theorem dX10_init_47 : decode cX10_init 47 = .ok (.getfield 19, 3) := by decide +kernel
theorem dX10_init_50 : decode cX10_init 50 = .ok (.invokespecial 34, 3) := by decide +kernel
theorem dX10_init_53 : decode cX10_init 53 = .ok (.putfield 37, 3) := by decide +kernel
theorem dX10_init_56 : decode cX10_init 56 = .ok (.aload_n 0, 1) := by decide +kernel
theorem dX10_init_57 : decode cX10_init 57 = .ok (.new 41, 3) := by decide +kernel
theorem dX10_init_60 : decode cX10_init 60 = .ok (.dup, 1) := by decide +kernel
theorem dX10_init_61 : decode cX10_init 61 = .ok (.aload_n 0, 1) := by decide +kernel
theorem dX10_init_62 : decode cX10_init 62 = .ok (.getfield 37, 3) := by decide +kernel
theorem dX10_init_65 : decode cX10_init 65 = .ok (.invokespecial 43, 3) := by decide +kernel
theorem dX10_init_68 : decode cX10_init 68 = .ok (.putfield 46, 3) := by decide +kernel
theorem dX10_init_71 : decode cX10_init 71 = .ok (.aload_n 0, 1) := by decide +kernel
theorem dX10_init_72 : decode cX10_init 72 = .ok (.new 50, 3) := by decide +kernel
theorem dX10_init_75 : decode cX10_init 75 = .ok (.dup, 1) := by decide +kernel
theorem dX10_init_76 : decode cX10_init 76 = .ok (.aload_n 0, 1) := by decide +kernel
theorem dX10_init_77 : decode cX10_init 77 = .ok (.getfield 19, 3) := by decide +kernel
theorem dX10_init_80 : decode cX10_init 80 = .ok (.aload_n 0, 1) := by decide +kernel
theorem dX10_init_81 : decode cX10_init 81 = .ok (.getfield 37, 3) := by decide +kernel
theorem dX10_init_84 : decode cX10_init 84 = .ok (.invokespecial 52, 3) := by decide +kernel
theorem dX10_init_87 : decode cX10_init 87 = .ok (.putfield 55, 3) := by decide +kernel
theorem dX10_init_90 : decode cX10_init 90 = .ok (.aload_n 0, 1) := by decide +kernel
theorem dX10_init_91 : decode cX10_init 91 = .ok (.new 59, 3) := by decide +kernel
theorem dX10_init_94 : decode cX10_init 94 = .ok (.dup, 1) := by decide +kernel
theorem dX10_init_95 : decode cX10_init 95 = .ok (.invokespecial 61, 3) := by decide +kernel
theorem dX10_init_98 : decode cX10_init 98 = .ok (.putfield 62, 3) := by decide +kernel
theorem dX10_init_101 : decode cX10_init 101 = .ok (.aload_n 0, 1) := by decide +kernel
theorem dX10_init_102 : decode cX10_init 102 = .ok (.new 66, 3) := by decide +kernel
theorem dX10_init_105 : decode cX10_init 105 = .ok (.dup, 1) := by decide +kernel
theorem dX10_init_106 : decode cX10_init 106 = .ok (.invokespecial 68, 3) := by decide +kernel
theorem dX10_init_109 : decode cX10_init 109 = .ok (.putfield 69, 3) := by decide +kernel
theorem dX10_init_112 : decode cX10_init 112 = .ok (.aload_n 0, 1) := by decide +kernel
theorem dX10_init_113 : decode cX10_init 113 = .ok (.new 73, 3) := by decide +kernel
theorem dX10_init_116 : decode cX10_init 116 = .ok (.dup, 1) := by decide +kernel
theorem dX10_init_117 : decode cX10_init 117 = .ok (.invokespecial 75, 3) := by decide +kernel
theorem dX10_init_120 : decode cX10_init 120 = .ok (.putfield 76, 3) := by decide +kernel
theorem dX10_init_123 : decode cX10_init 123 = .ok (.aload_n 0, 1) := by decide +kernel
theorem dX10_init_124 : decode cX10_init 124 = .ok (.iconst 3, 1) := by decide +kernel
theorem dX10_init_125 : decode cX10_init 125 = .ok (.anewarray 66, 3) := by decide +kernel
theorem dX10_init_128 : decode cX10_init 128 = .ok (.putfield 80, 3) := by decide +kernel
theorem dX10_init_131 : decode cX10_init 131 = .ok (.aload_n 0, 1) := by decide +kernel
theorem dX10_init_132 : decode cX10_init 132 = .ok (.iconst (-1), 1) := by decide +kernel
theorem dX10_init_133 : decode cX10_init 133 = .ok (.putfield 84, 3) := by decide +kernel
theorem dX10_init_136 : decode cX10_init 136 = .ok (.iconst 0, 1) := by decide +kernel
theorem dX10_init_137 : decode cX10_init 137 = .ok (.istore_n 1, 1) := by decide +kernel
theorem dX10_init_138 : decode cX10_init 138 = .ok (.iload_n 1, 1) := by decide +kernel
theorem dX10_init_139 : decode cX10_init 139 = .ok (.iconst 3, 1) := by decide +kernel
theorem dX10_init_140 : decode cX10_init 140 = .ok (.if_icmp .ge 22, 3) := by decide +kernel
theorem dX10_init_143 : decode cX10_init 143 = .ok (.aload_n 0, 1) := by decide +kernel
theorem dX10_init_144 : decode cX10_init 144 = .ok (.getfield 80, 3) := by decide +kernel
theorem dX10_init_147 : decode cX10_init 147 = .ok (.iload_n 1, 1) := by decide +kernel
theorem dX10_init_148 : decode cX10_init 148 = .ok (.new 66, 3) := by decide +kernel
theorem dX10_init_151 : decode cX10_init 151 = .ok (.dup, 1) := by decide +kernel
theorem dX10_init_152 : decode cX10_init 152 = .ok (.invokespecial 68, 3) := by decide +kernel
theorem dX10_init_155 : decode cX10_init 155 = .ok (.aastore, 1) := by decide +kernel
theorem dX10_init_156 : decode cX10_init 156 = .ok (.iinc 1 1, 3) := by decide +kernel
theorem dX10_init_159 : decode cX10_init 159 = .ok (.goto (-21), 3) := by decide +kernel
theorem dX10_init_162 : decode cX10_init 162 = .ok (.return_, 1) := by decide +kernel
theorem dX10_feed_0 : decode cX10_feed 0 = .ok (.aload_n 0, 1) := by decide +kernel
theorem dX10_feed_1 : decode cX10_feed 1 = .ok (.getfield 10, 3) := by decide +kernel
theorem dX10_feed_4 : decode cX10_feed 4 = .ok (.getfield 88, 3) := by decide +kernel
theorem dX10_feed_7 : decode cX10_feed 7 = .ok (.sipush 1980, 3) := by decide +kernel
theorem dX10_feed_10 : decode cX10_feed 10 = .ok (.if_icmp .le 5, 3) := by decide +kernel
theorem dX10_feed_13 : decode cX10_feed 13 = .ok (.iconst (-1), 1) := by decide +kernel
theorem dX10_feed_14 : decode cX10_feed 14 = .ok (.ireturn, 1) := by decide +kernel
theorem dX10_feed_15 : decode cX10_feed 15 = .ok (.aload_n 0, 1) := by decide +kernel
theorem dX10_feed_16 : decode cX10_feed 16 = .ok (.getfield 10, 3) := by decide +kernel
theorem dX10_feed_19 : decode cX10_feed 19 = .ok (.iload_n 1, 1) := by decide +kernel
theorem dX10_feed_20 : decode cX10_feed 20 = .ok (.invokevirtual 91, 3) := by decide +kernel
theorem dX10_feed_23 : decode cX10_feed 23 = .ok (.aload_n 0, 1) := by decide +kernel
theorem dX10_feed_24 : decode cX10_feed 24 = .ok (.getfield 10, 3) := by decide +kernel
theorem dX10_feed_27 : decode cX10_feed 27 = .ok (.iload_n 2, 1) := by decide +kernel
theorem dX10_feed_28 : decode cX10_feed 28 = .ok (.invokevirtual 91, 3) := by decide +kernel
theorem dX10_feed_31 : decode cX10_feed 31 = .ok (.aload_n 0, 1) := by decide +kernel
theorem dX10_feed_32 : decode cX10_feed 32 = .ok (.getfield 10, 3) := by decide +kernel
theorem dX10_feed_35 : decode cX10_feed 35 = .ok (.iload_n 3, 1) := by decide +kernel
theorem dX10_feed_36 : decode cX10_feed 36 = .ok (.invokevirtual 91, 3) := by decide +kernel
theorem dX10_feed_39 : decode cX10_feed 39 = .ok (.aload_n 0, 1) := by decide +kernel
theorem dX10_feed_40 : decode cX10_feed 40 = .ok (.getfield 10, 3) := by decide +kernel
theorem dX10_feed_43 : decode cX10_feed 43 = .ok (.iload 4, 2) := by decide +kernel
theorem dX10_feed_45 : decode cX10_feed 45 = .ok (.invokevirtual 91, 3) := by decide +kernel
theorem dX10_feed_48 : decode cX10_feed 48 = .ok (.aload_n 0, 1) := by decide +kernel
theorem dX10_feed_49 : decode cX10_feed 49 = .ok (.getfield 10, 3) := by decide +kernel
theorem dX10_feed_52 : decode cX10_feed 52 = .ok (.iload 5, 2) := by decide +kernel
theorem dX10_feed_54 : decode cX10_feed 54 = .ok (.invokevirtual 91, 3) := by decide +kernel
theorem dX10_feed_57 : decode cX10_feed 57 = .ok (.aload_n 0, 1) := by decide +kernel
theorem dX10_feed_58 : decode cX10_feed 58 = .ok (.getfield 10, 3) := by decide +kernel
theorem dX10_feed_61 : decode cX10_feed 61 = .ok (.getfield 88, 3) := by decide +kernel
theorem dX10_feed_64 : decode cX10_feed 64 = .ok (.ireturn, 1) := by decide +kernel
theorem dX10_back_0 : decode cX10_back 0 = .ok (.iload_n 1, 1) := by decide +kernel
theorem dX10_back_1 : decode cX10_back 1 = .ok (.ifCond .lt 14, 3) := by decide +kernel
theorem dX10_back_4 : decode cX10_back 4 = .ok (.iload_n 1, 1) := by decide +kernel
theorem dX10_back_5 : decode cX10_back 5 = .ok (.aload_n 0, 1) := by decide +kernel
theorem dX10_back_6 : decode cX10_back 6 = .ok (.getfield 10, 3) := by decide +kernel
theorem dX10_back_9 : decode cX10_back 9 = .ok (.getfield 88, 3) := by decide +kernel
theorem dX10_back_12 : decode cX10_back 12 = .ok (.if_icmp .le 5, 3) := by decide +kernel
theorem dX10_back_15 : decode cX10_back 15 = .ok (.iconst (-1), 1) := by decide +kernel
theorem dX10_back_16 : decode cX10_back 16 = .ok (.ireturn, 1) := by decide +kernel
theorem dX10_back_17 : decode cX10_back 17 = .ok (.aload_n 0, 1) := by decide +kernel
theorem dX10_back_18 : decode cX10_back 18 = .ok (.getfield 10, 3) := by decide +kernel
theorem dX10_back_21 : decode cX10_back 21 = .ok (.dup, 1) := by decide +kernel
theorem dX10_back_22 : decode cX10_back 22 = .ok (.getfield 88, 3) := by decide +kernel
theorem dX10_back_25 : decode cX10_back 25 = .ok (.iload_n 1, 1) := by decide +kernel
theorem dX10_back_26 : decode cX10_back 26 = .ok (.isub, 1) := by decide +kernel
theorem dX10_back_27 : decode cX10_back 27 = .ok (.putfield 88, 3) := by decide +kernel
theorem dX10_back_30 : decode cX10_back 30 = .ok (.aload_n 0, 1) := by decide +kernel
theorem dX10_back_31 : decode cX10_back 31 = .ok (.getfield 10, 3) := by decide +kernel
theorem dX10_back_34 : decode cX10_back 34 = .ok (.getfield 88, 3) := by decide +kernel
theorem dX10_back_37 : decode cX10_back 37 = .ok (.ireturn, 1) := by decide +kernel
theorem dX10_read_0 : decode cX10_read 0 = .ok (.aload_n 0, 1) := by decide +kernel
theorem dX10_read_1 : decode cX10_read 1 = .ok (.getfield 28, 3) := by decide +kernel
theorem dX10_read_4 : decode cX10_read 4 = .ok (.invokevirtual 95, 3) := by decide +kernel
theorem dX10_read_7 : decode cX10_read 7 = .ok (.istore_n 1, 1) := by decide +kernel
theorem dX10_read_8 : decode cX10_read 8 = .ok (.aload_n 0, 1) := by decide +kernel
theorem dX10_read_9 : decode cX10_read 9 = .ok (.getfield 10, 3) := by decide +kernel
theorem dX10_read_12 : decode cX10_read 12 = .ok (.iconst 0, 1) := by decide +kernel
theorem dX10_read_13 : decode cX10_read 13 = .ok (.putfield 88, 3) := by decide +kernel
theorem dX10_read_16 : decode cX10_read 16 = .ok (.aload_n 0, 1) := by decide +kernel
theorem dX10_read_17 : decode cX10_read 17 = .ok (.iload_n 1, 1) := by decide +kernel
theorem dX10_read_18 : decode cX10_read 18 = .ok (.ifCond .ne 7, 3) := by decide +kernel
theorem dX10_read_21 : decode cX10_read 21 = .ok (.iconst (-1), 1) := by decide +kernel
theorem dX10_read_22 : decode cX10_read 22 = .ok (.goto 10, 3) := by decide +kernel
theorem dX10_read_25 : decode cX10_read 25 = .ok (.aload_n 0, 1) := by decide +kernel
theorem dX10_read_26 : decode cX10_read 26 = .ok (.getfield 28, 3) := by decide +kernel
theorem dX10_read_29 : decode cX10_read 29 = .ok (.getfield 99, 3) := by decide +kernel
theorem dX10_read_32 : decode cX10_read 32 = .ok (.putfield 84, 3) := by decide +kernel
theorem dX10_read_35 : decode cX10_read 35 = .ok (.iload_n 1, 1) := by decide +kernel
theorem dX10_read_36 : decode cX10_read 36 = .ok (.ifCond .ne 49, 3) := by decide +kernel
theorem dX10_read_39 : decode cX10_read 39 = .ok (.aload_n 0, 1) := by decide +kernel
theorem dX10_read_40 : decode cX10_read 40 = .ok (.getfield 19, 3) := by decide +kernel
theorem dX10_read_43 : decode cX10_read 43 = .ok (.aload_n 0, 1) := by decide +kernel
theorem dX10_read_44 : decode cX10_read 44 = .ok (.getfield 28, 3) := by decide +kernel
theorem dX10_read_47 : decode cX10_read 47 = .ok (.getfield 100, 3) := by decide +kernel
theorem dX10_read_50 : decode cX10_read 50 = .ok (.invokevirtual 103, 3) := by decide +kernel
theorem dX10_read_53 : decode cX10_read 53 = .ok (.aload_n 0, 1) := by decide +kernel
theorem dX10_read_54 : decode cX10_read 54 = .ok (.getfield 69, 3) := by decide +kernel
theorem dX10_read_57 : decode cX10_read 57 = .ok (.aload_n 0, 1) := by decide +kernel
theorem dX10_read_58 : decode cX10_read 58 = .ok (.getfield 19, 3) := by decide +kernel
theorem dX10_read_61 : decode cX10_read 61 = .ok (.invokevirtual 106, 3) := by decide +kernel
theorem dX10_read_64 : decode cX10_read 64 = .ok (.aload_n 0, 1) := by decide +kernel
theorem dX10_read_65 : decode cX10_read 65 = .ok (.getfield 76, 3) := by decide +kernel
theorem dX10_read_68 : decode cX10_read 68 = .ok (.iconst 0, 1) := by decide +kernel
theorem dX10_read_69 : decode cX10_read 69 = .ok (.putfield 109, 3) := by decide +kernel
theorem dX10_read_72 : decode cX10_read 72 = .ok (.aload_n 0, 1) := by decide +kernel
theorem dX10_read_73 : decode cX10_read 73 = .ok (.getfield 62, 3) := by decide +kernel
theorem dX10_read_76 : decode cX10_read 76 = .ok (.iconst 0, 1) := by decide +kernel
theorem dX10_read_77 : decode cX10_read 77 = .ok (.putfield 112, 3) := by decide +kernel
theorem dX10_read_80 : decode cX10_read 80 = .ok (.aload_n 0, 1) := by decide +kernel
theorem dX10_read_81 : decode cX10_read 81 = .ok (.iconst 0, 1) := by decide +kernel
theorem dX10_read_82 : decode cX10_read 82 = .ok (.putfield 113, 3) := by decide +kernel
theorem dX10_read_85 : decode cX10_read 85 = .ok (.iload_n 1, 1) := by decide +kernel
theorem dX10_read_86 : decode cX10_read 86 = .ok (.ireturn, 1) := by decide +kernel
theorem dX10_place_0 : decode cX10_place 0 = .ok (.aload_n 0, 1) := by decide +kernel
theorem dX10_place_1 : decode cX10_place 1 = .ok (.getfield 84, 3) := by decide +kernel
theorem dX10_place_4 : decode cX10_place 4 = .ok (.ireturn, 1) := by decide +kernel
theorem dX10_docket_0 : decode cX10_docket 0 = .ok (.aload_n 0, 1) := by decide +kernel
theorem dX10_docket_1 : decode cX10_docket 1 = .ok (.getfield 19, 3) := by decide +kernel
theorem dX10_docket_4 : decode cX10_docket 4 = .ok (.iload_n 1, 1) := by decide +kernel
theorem dX10_docket_5 : decode cX10_docket 5 = .ok (.invokevirtual 116, 3) := by decide +kernel
theorem dX10_docket_8 : decode cX10_docket 8 = .ok (.ifCond .ne 5, 3) := by decide +kernel
theorem dX10_docket_11 : decode cX10_docket 11 = .ok (.iconst (-1), 1) := by decide +kernel
theorem dX10_docket_12 : decode cX10_docket 12 = .ok (.ireturn, 1) := by decide +kernel
theorem dX10_docket_13 : decode cX10_docket 13 = .ok (.iload_n 2, 1) := by decide +kernel
theorem dX10_docket_14 : decode cX10_docket 14 = .ok (.tableswitch 140 0 6 #[42, 52, 62, 87, 97, 114, 127], 42) := by decide +kernel
theorem dX10_docket_56 : decode cX10_docket 56 = .ok (.aload_n 0, 1) := by decide +kernel
theorem dX10_docket_57 : decode cX10_docket 57 = .ok (.getfield 19, 3) := by decide +kernel
theorem dX10_docket_60 : decode cX10_docket 60 = .ok (.getfield 120, 3) := by decide +kernel
theorem dX10_docket_63 : decode cX10_docket 63 = .ok (.iload_n 1, 1) := by decide +kernel
theorem dX10_docket_64 : decode cX10_docket 64 = .ok (.iaload, 1) := by decide +kernel
theorem dX10_docket_65 : decode cX10_docket 65 = .ok (.ireturn, 1) := by decide +kernel
theorem dX10_docket_66 : decode cX10_docket 66 = .ok (.aload_n 0, 1) := by decide +kernel
theorem dX10_docket_67 : decode cX10_docket 67 = .ok (.getfield 69, 3) := by decide +kernel
theorem dX10_docket_70 : decode cX10_docket 70 = .ok (.getfield 124, 3) := by decide +kernel
theorem dX10_docket_73 : decode cX10_docket 73 = .ok (.iload_n 1, 1) := by decide +kernel
theorem dX10_docket_74 : decode cX10_docket 74 = .ok (.iaload, 1) := by decide +kernel
theorem dX10_docket_75 : decode cX10_docket 75 = .ok (.ireturn, 1) := by decide +kernel
theorem dX10_docket_76 : decode cX10_docket 76 = .ok (.aload_n 0, 1) := by decide +kernel
theorem dX10_docket_77 : decode cX10_docket 77 = .ok (.getfield 69, 3) := by decide +kernel
theorem dX10_docket_80 : decode cX10_docket 80 = .ok (.iload_n 1, 1) := by decide +kernel
theorem dX10_docket_81 : decode cX10_docket 81 = .ok (.invokevirtual 127, 3) := by decide +kernel
theorem dX10_docket_84 : decode cX10_docket 84 = .ok (.ifCond .eq 14, 3) := by decide +kernel
theorem dX10_docket_87 : decode cX10_docket 87 = .ok (.aload_n 0, 1) := by decide +kernel
theorem dX10_docket_88 : decode cX10_docket 88 = .ok (.getfield 69, 3) := by decide +kernel
theorem dX10_docket_91 : decode cX10_docket 91 = .ok (.iload_n 1, 1) := by decide +kernel
theorem dX10_docket_92 : decode cX10_docket 92 = .ok (.invokevirtual 130, 3) := by decide +kernel
theorem dX10_docket_95 : decode cX10_docket 95 = .ok (.goto 5, 3) := by decide +kernel
theorem dX10_docket_98 : decode cX10_docket 98 = .ok (.bipush (-2), 2) := by decide +kernel
theorem dX10_docket_100 : decode cX10_docket 100 = .ok (.ireturn, 1) := by decide +kernel
theorem dX10_docket_101 : decode cX10_docket 101 = .ok (.aload_n 0, 1) := by decide +kernel
theorem dX10_docket_102 : decode cX10_docket 102 = .ok (.getfield 69, 3) := by decide +kernel
theorem dX10_docket_105 : decode cX10_docket 105 = .ok (.getfield 134, 3) := by decide +kernel
theorem dX10_docket_108 : decode cX10_docket 108 = .ok (.iload_n 1, 1) := by decide +kernel
theorem dX10_docket_109 : decode cX10_docket 109 = .ok (.iaload, 1) := by decide +kernel
theorem dX10_docket_110 : decode cX10_docket 110 = .ok (.ireturn, 1) := by decide +kernel
theorem dX10_docket_111 : decode cX10_docket 111 = .ok (.aload_n 0, 1) := by decide +kernel
theorem dX10_docket_112 : decode cX10_docket 112 = .ok (.getfield 69, 3) := by decide +kernel
theorem dX10_docket_115 : decode cX10_docket 115 = .ok (.iload_n 1, 1) := by decide +kernel
theorem dX10_docket_116 : decode cX10_docket 116 = .ok (.invokevirtual 137, 3) := by decide +kernel
theorem dX10_docket_119 : decode cX10_docket 119 = .ok (.ifCond .eq 7, 3) := by decide +kernel
theorem dX10_docket_122 : decode cX10_docket 122 = .ok (.iconst 1, 1) := by decide +kernel
theorem dX10_docket_123 : decode cX10_docket 123 = .ok (.goto 4, 3) := by decide +kernel
theorem dX10_docket_126 : decode cX10_docket 126 = .ok (.iconst 0, 1) := by decide +kernel
theorem dX10_docket_127 : decode cX10_docket 127 = .ok (.ireturn, 1) := by decide +kernel
theorem dX10_docket_128 : decode cX10_docket 128 = .ok (.aload_n 0, 1) := by decide +kernel
theorem dX10_docket_129 : decode cX10_docket 129 = .ok (.getfield 37, 3) := by decide +kernel
theorem dX10_docket_132 : decode cX10_docket 132 = .ok (.aload_n 0, 1) := by decide +kernel
theorem dX10_docket_133 : decode cX10_docket 133 = .ok (.getfield 69, 3) := by decide +kernel
theorem dX10_docket_136 : decode cX10_docket 136 = .ok (.iload_n 1, 1) := by decide +kernel
theorem dX10_docket_137 : decode cX10_docket 137 = .ok (.invokevirtual 140, 3) := by decide +kernel
theorem dX10_docket_140 : decode cX10_docket 140 = .ok (.ireturn, 1) := by decide +kernel
theorem dX10_docket_141 : decode cX10_docket 141 = .ok (.aload_n 0, 1) := by decide +kernel
theorem dX10_docket_142 : decode cX10_docket 142 = .ok (.getfield 37, 3) := by decide +kernel
theorem dX10_docket_145 : decode cX10_docket 145 = .ok (.aload_n 0, 1) := by decide +kernel
theorem dX10_docket_146 : decode cX10_docket 146 = .ok (.getfield 69, 3) := by decide +kernel
theorem dX10_docket_149 : decode cX10_docket 149 = .ok (.iload_n 1, 1) := by decide +kernel
theorem dX10_docket_150 : decode cX10_docket 150 = .ok (.invokevirtual 144, 3) := by decide +kernel
theorem dX10_docket_153 : decode cX10_docket 153 = .ok (.ireturn, 1) := by decide +kernel
theorem dX10_docket_154 : decode cX10_docket 154 = .ok (.iconst (-1), 1) := by decide +kernel
theorem dX10_docket_155 : decode cX10_docket 155 = .ok (.ireturn, 1) := by decide +kernel
theorem dX10_suffers_0 : decode cX10_suffers 0 = .ok (.aload_n 0, 1) := by decide +kernel
theorem dX10_suffers_1 : decode cX10_suffers 1 = .ok (.getfield 69, 3) := by decide +kernel
theorem dX10_suffers_4 : decode cX10_suffers 4 = .ok (.iload_n 1, 1) := by decide +kernel
theorem dX10_suffers_5 : decode cX10_suffers 5 = .ok (.invokevirtual 130, 3) := by decide +kernel
theorem dX10_suffers_8 : decode cX10_suffers 8 = .ok (.istore_n 3, 1) := by decide +kernel
theorem dX10_suffers_9 : decode cX10_suffers 9 = .ok (.iload_n 3, 1) := by decide +kernel
theorem dX10_suffers_10 : decode cX10_suffers 10 = .ok (.iconst (-1), 1) := by decide +kernel
theorem dX10_suffers_11 : decode cX10_suffers 11 = .ok (.if_icmp .ne 5, 3) := by decide +kernel
theorem dX10_suffers_14 : decode cX10_suffers 14 = .ok (.iconst (-1), 1) := by decide +kernel
theorem dX10_suffers_15 : decode cX10_suffers 15 = .ok (.ireturn, 1) := by decide +kernel
theorem dX10_suffers_16 : decode cX10_suffers 16 = .ok (.iload_n 2, 1) := by decide +kernel
theorem dX10_suffers_17 : decode cX10_suffers 17 = .ok (.lookupswitch 71 #[(0, 27), (1, 49)], 27) := by decide +kernel
theorem dX10_suffers_44 : decode cX10_suffers 44 = .ok (.aload_n 0, 1) := by decide +kernel
theorem dX10_suffers_45 : decode cX10_suffers 45 = .ok (.getfield 37, 3) := by decide +kernel
theorem dX10_suffers_48 : decode cX10_suffers 48 = .ok (.aload_n 0, 1) := by decide +kernel
theorem dX10_suffers_49 : decode cX10_suffers 49 = .ok (.getfield 69, 3) := by decide +kernel
theorem dX10_suffers_52 : decode cX10_suffers 52 = .ok (.iload_n 1, 1) := by decide +kernel
theorem dX10_suffers_53 : decode cX10_suffers 53 = .ok (.iload_n 3, 1) := by decide +kernel
theorem dX10_suffers_54 : decode cX10_suffers 54 = .ok (.aload_n 0, 1) := by decide +kernel
theorem dX10_suffers_55 : decode cX10_suffers 55 = .ok (.getfield 69, 3) := by decide +kernel
theorem dX10_suffers_58 : decode cX10_suffers 58 = .ok (.iload_n 3, 1) := by decide +kernel
theorem dX10_suffers_59 : decode cX10_suffers 59 = .ok (.invokevirtual 147, 3) := by decide +kernel
theorem dX10_suffers_62 : decode cX10_suffers 62 = .ok (.invokevirtual 150, 3) := by decide +kernel
theorem dX10_suffers_65 : decode cX10_suffers 65 = .ok (.ireturn, 1) := by decide +kernel
theorem dX10_suffers_66 : decode cX10_suffers 66 = .ok (.aload_n 0, 1) := by decide +kernel
theorem dX10_suffers_67 : decode cX10_suffers 67 = .ok (.getfield 37, 3) := by decide +kernel
theorem dX10_suffers_70 : decode cX10_suffers 70 = .ok (.aload_n 0, 1) := by decide +kernel
theorem dX10_suffers_71 : decode cX10_suffers 71 = .ok (.getfield 69, 3) := by decide +kernel
theorem dX10_suffers_74 : decode cX10_suffers 74 = .ok (.iload_n 1, 1) := by decide +kernel
theorem dX10_suffers_75 : decode cX10_suffers 75 = .ok (.iload_n 3, 1) := by decide +kernel
theorem dX10_suffers_76 : decode cX10_suffers 76 = .ok (.aload_n 0, 1) := by decide +kernel
theorem dX10_suffers_77 : decode cX10_suffers 77 = .ok (.getfield 69, 3) := by decide +kernel
theorem dX10_suffers_80 : decode cX10_suffers 80 = .ok (.iload_n 3, 1) := by decide +kernel
theorem dX10_suffers_81 : decode cX10_suffers 81 = .ok (.invokevirtual 147, 3) := by decide +kernel
theorem dX10_suffers_84 : decode cX10_suffers 84 = .ok (.invokevirtual 154, 3) := by decide +kernel
theorem dX10_suffers_87 : decode cX10_suffers 87 = .ok (.ireturn, 1) := by decide +kernel
theorem dX10_suffers_88 : decode cX10_suffers 88 = .ok (.iconst (-1), 1) := by decide +kernel
theorem dX10_suffers_89 : decode cX10_suffers 89 = .ok (.ireturn, 1) := by decide +kernel
theorem dX10_tells_0 : decode cX10_tells 0 = .ok (.aload_n 0, 1) := by decide +kernel
theorem dX10_tells_1 : decode cX10_tells 1 = .ok (.getfield 19, 3) := by decide +kernel
theorem dX10_tells_4 : decode cX10_tells 4 = .ok (.iload_n 1, 1) := by decide +kernel
theorem dX10_tells_5 : decode cX10_tells 5 = .ok (.invokevirtual 116, 3) := by decide +kernel
theorem dX10_tells_8 : decode cX10_tells 8 = .ok (.ifCond .eq 22, 3) := by decide +kernel
theorem dX10_tells_11 : decode cX10_tells 11 = .ok (.iload_n 2, 1) := by decide +kernel
theorem dX10_tells_12 : decode cX10_tells 12 = .ok (.ifCond .lt 18, 3) := by decide +kernel
theorem dX10_tells_15 : decode cX10_tells 15 = .ok (.iload_n 2, 1) := by decide +kernel
theorem dX10_tells_16 : decode cX10_tells 16 = .ok (.bipush 99, 2) := by decide +kernel
theorem dX10_tells_18 : decode cX10_tells 18 = .ok (.if_icmp .gt 12, 3) := by decide +kernel
theorem dX10_tells_21 : decode cX10_tells 21 = .ok (.iload_n 3, 1) := by decide +kernel
theorem dX10_tells_22 : decode cX10_tells 22 = .ok (.ifCond .lt 8, 3) := by decide +kernel
theorem dX10_tells_25 : decode cX10_tells 25 = .ok (.iload_n 3, 1) := by decide +kernel
theorem dX10_tells_26 : decode cX10_tells 26 = .ok (.iconst 2, 1) := by decide +kernel
theorem dX10_tells_27 : decode cX10_tells 27 = .ok (.if_icmp .le 5, 3) := by decide +kernel
theorem dX10_tells_30 : decode cX10_tells 30 = .ok (.iconst (-1), 1) := by decide +kernel
theorem dX10_tells_31 : decode cX10_tells 31 = .ok (.ireturn, 1) := by decide +kernel
theorem dX10_tells_32 : decode cX10_tells 32 = .ok (.aload_n 0, 1) := by decide +kernel
theorem dX10_tells_33 : decode cX10_tells 33 = .ok (.getfield 37, 3) := by decide +kernel
theorem dX10_tells_36 : decode cX10_tells 36 = .ok (.aload_n 0, 1) := by decide +kernel
theorem dX10_tells_37 : decode cX10_tells 37 = .ok (.getfield 69, 3) := by decide +kernel
theorem dX10_tells_40 : decode cX10_tells 40 = .ok (.iload_n 1, 1) := by decide +kernel
theorem dX10_tells_41 : decode cX10_tells 41 = .ok (.invokevirtual 157, 3) := by decide +kernel
theorem dX10_tells_44 : decode cX10_tells 44 = .ok (.aload_n 0, 1) := by decide +kernel
theorem dX10_tells_45 : decode cX10_tells 45 = .ok (.getfield 37, 3) := by decide +kernel
theorem dX10_tells_48 : decode cX10_tells 48 = .ok (.iload_n 3, 1) := by decide +kernel
theorem dX10_tells_49 : decode cX10_tells 49 = .ok (.iload_n 2, 1) := by decide +kernel
theorem dX10_tells_50 : decode cX10_tells 50 = .ok (.invokevirtual 161, 3) := by decide +kernel
theorem dX10_tells_53 : decode cX10_tells 53 = .ok (.ireturn, 1) := by decide +kernel
theorem dX10_at_0 : decode cX10_at 0 = .ok (.aload_n 0, 1) := by decide +kernel
theorem dX10_at_1 : decode cX10_at 1 = .ok (.getfield 69, 3) := by decide +kernel
theorem dX10_at_4 : decode cX10_at 4 = .ok (.iload_n 1, 1) := by decide +kernel
theorem dX10_at_5 : decode cX10_at 5 = .ok (.invokevirtual 165, 3) := by decide +kernel
theorem dX10_at_8 : decode cX10_at 8 = .ok (.ireturn, 1) := by decide +kernel
theorem dX10_change_0 : decode cX10_change 0 = .ok (.iload_n 1, 1) := by decide +kernel
theorem dX10_change_1 : decode cX10_change 1 = .ok (.iload_n 2, 1) := by decide +kernel
theorem dX10_change_2 : decode cX10_change 2 = .ok (.if_icmp .eq 25, 3) := by decide +kernel
theorem dX10_change_5 : decode cX10_change 5 = .ok (.aload_n 0, 1) := by decide +kernel
theorem dX10_change_6 : decode cX10_change 6 = .ok (.getfield 69, 3) := by decide +kernel
theorem dX10_change_9 : decode cX10_change 9 = .ok (.iload_n 1, 1) := by decide +kernel
theorem dX10_change_10 : decode cX10_change 10 = .ok (.invokevirtual 127, 3) := by decide +kernel
theorem dX10_change_13 : decode cX10_change 13 = .ok (.ifCond .eq 14, 3) := by decide +kernel
theorem dX10_change_16 : decode cX10_change 16 = .ok (.aload_n 0, 1) := by decide +kernel
theorem dX10_change_17 : decode cX10_change 17 = .ok (.getfield 69, 3) := by decide +kernel
theorem dX10_change_20 : decode cX10_change 20 = .ok (.iload_n 2, 1) := by decide +kernel
theorem dX10_change_21 : decode cX10_change 21 = .ok (.invokevirtual 127, 3) := by decide +kernel
theorem dX10_change_24 : decode cX10_change 24 = .ok (.ifCond .ne 5, 3) := by decide +kernel
theorem dX10_change_27 : decode cX10_change 27 = .ok (.iconst 0, 1) := by decide +kernel
theorem dX10_change_28 : decode cX10_change 28 = .ok (.ireturn, 1) := by decide +kernel
theorem dX10_change_29 : decode cX10_change 29 = .ok (.aload_n 0, 1) := by decide +kernel
theorem dX10_change_30 : decode cX10_change 30 = .ok (.getfield 76, 3) := by decide +kernel
theorem dX10_change_33 : decode cX10_change 33 = .ok (.aload_n 0, 1) := by decide +kernel
theorem dX10_change_34 : decode cX10_change 34 = .ok (.getfield 69, 3) := by decide +kernel
theorem dX10_change_37 : decode cX10_change 37 = .ok (.invokevirtual 168, 3) := by decide +kernel
theorem dX10_change_40 : decode cX10_change 40 = .ok (.aload_n 0, 1) := by decide +kernel
theorem dX10_change_41 : decode cX10_change 41 = .ok (.getfield 69, 3) := by decide +kernel
theorem dX10_change_44 : decode cX10_change 44 = .ok (.iload_n 1, 1) := by decide +kernel
theorem dX10_change_45 : decode cX10_change 45 = .ok (.iload_n 2, 1) := by decide +kernel
theorem dX10_change_46 : decode cX10_change 46 = .ok (.invokevirtual 172, 3) := by decide +kernel
theorem dX10_change_49 : decode cX10_change 49 = .ok (.iconst 1, 1) := by decide +kernel
theorem dX10_change_50 : decode cX10_change 50 = .ok (.ireturn, 1) := by decide +kernel
theorem dX10_go_0 : decode cX10_go 0 = .ok (.aload_n 0, 1) := by decide +kernel
theorem dX10_go_1 : decode cX10_go 1 = .ok (.getfield 69, 3) := by decide +kernel
theorem dX10_go_4 : decode cX10_go 4 = .ok (.iload_n 1, 1) := by decide +kernel
theorem dX10_go_5 : decode cX10_go 5 = .ok (.invokevirtual 127, 3) := by decide +kernel
theorem dX10_go_8 : decode cX10_go 8 = .ok (.ifCond .eq 27, 3) := by decide +kernel
theorem dX10_go_11 : decode cX10_go 11 = .ok (.aload_n 0, 1) := by decide +kernel
theorem dX10_go_12 : decode cX10_go 12 = .ok (.getfield 69, 3) := by decide +kernel
theorem dX10_go_15 : decode cX10_go 15 = .ok (.iload_n 2, 1) := by decide +kernel
theorem dX10_go_16 : decode cX10_go 16 = .ok (.invokevirtual 165, 3) := by decide +kernel
theorem dX10_go_19 : decode cX10_go 19 = .ok (.iconst (-1), 1) := by decide +kernel
theorem dX10_go_20 : decode cX10_go 20 = .ok (.if_icmp .eq 15, 3) := by decide +kernel
theorem dX10_go_23 : decode cX10_go 23 = .ok (.aload_n 0, 1) := by decide +kernel
theorem dX10_go_24 : decode cX10_go 24 = .ok (.getfield 69, 3) := by decide +kernel
theorem dX10_go_27 : decode cX10_go 27 = .ok (.iload_n 1, 1) := by decide +kernel
theorem dX10_go_28 : decode cX10_go 28 = .ok (.invokevirtual 130, 3) := by decide +kernel
theorem dX10_go_31 : decode cX10_go 31 = .ok (.iload_n 2, 1) := by decide +kernel
theorem dX10_go_32 : decode cX10_go 32 = .ok (.if_icmp .ne 5, 3) := by decide +kernel
theorem dX10_go_35 : decode cX10_go 35 = .ok (.iconst 0, 1) := by decide +kernel
theorem dX10_go_36 : decode cX10_go 36 = .ok (.ireturn, 1) := by decide +kernel
theorem dX10_go_37 : decode cX10_go 37 = .ok (.aload_n 0, 1) := by decide +kernel
theorem dX10_go_38 : decode cX10_go 38 = .ok (.getfield 76, 3) := by decide +kernel
theorem dX10_go_41 : decode cX10_go 41 = .ok (.aload_n 0, 1) := by decide +kernel
theorem dX10_go_42 : decode cX10_go 42 = .ok (.getfield 69, 3) := by decide +kernel
theorem dX10_go_45 : decode cX10_go 45 = .ok (.invokevirtual 168, 3) := by decide +kernel
theorem dX10_go_48 : decode cX10_go 48 = .ok (.aload_n 0, 1) := by decide +kernel
theorem dX10_go_49 : decode cX10_go 49 = .ok (.getfield 69, 3) := by decide +kernel
theorem dX10_go_52 : decode cX10_go 52 = .ok (.iload_n 1, 1) := by decide +kernel
theorem dX10_go_53 : decode cX10_go 53 = .ok (.iload_n 2, 1) := by decide +kernel
theorem dX10_go_54 : decode cX10_go 54 = .ok (.invokevirtual 176, 3) := by decide +kernel
theorem dX10_go_57 : decode cX10_go 57 = .ok (.iconst 1, 1) := by decide +kernel
theorem dX10_go_58 : decode cX10_go 58 = .ok (.ireturn, 1) := by decide +kernel
theorem dX10_off_0 : decode cX10_off 0 = .ok (.aload_n 0, 1) := by decide +kernel
theorem dX10_off_1 : decode cX10_off 1 = .ok (.getfield 69, 3) := by decide +kernel
theorem dX10_off_4 : decode cX10_off 4 = .ok (.iload_n 1, 1) := by decide +kernel
theorem dX10_off_5 : decode cX10_off 5 = .ok (.invokevirtual 127, 3) := by decide +kernel
theorem dX10_off_8 : decode cX10_off 8 = .ok (.ifCond .ne 5, 3) := by decide +kernel
theorem dX10_off_11 : decode cX10_off 11 = .ok (.iconst 0, 1) := by decide +kernel
theorem dX10_off_12 : decode cX10_off 12 = .ok (.ireturn, 1) := by decide +kernel
theorem dX10_off_13 : decode cX10_off 13 = .ok (.aload_n 0, 1) := by decide +kernel
theorem dX10_off_14 : decode cX10_off 14 = .ok (.getfield 76, 3) := by decide +kernel
theorem dX10_off_17 : decode cX10_off 17 = .ok (.aload_n 0, 1) := by decide +kernel
theorem dX10_off_18 : decode cX10_off 18 = .ok (.getfield 69, 3) := by decide +kernel
theorem dX10_off_21 : decode cX10_off 21 = .ok (.invokevirtual 168, 3) := by decide +kernel
theorem dX10_off_24 : decode cX10_off 24 = .ok (.aload_n 0, 1) := by decide +kernel
theorem dX10_off_25 : decode cX10_off 25 = .ok (.getfield 69, 3) := by decide +kernel
theorem dX10_off_28 : decode cX10_off 28 = .ok (.iload_n 1, 1) := by decide +kernel
theorem dX10_off_29 : decode cX10_off 29 = .ok (.invokevirtual 179, 3) := by decide +kernel
theorem dX10_off_32 : decode cX10_off 32 = .ok (.iconst 1, 1) := by decide +kernel
theorem dX10_off_33 : decode cX10_off 33 = .ok (.ireturn, 1) := by decide +kernel
theorem dX10_on_0 : decode cX10_on 0 = .ok (.aload_n 0, 1) := by decide +kernel
theorem dX10_on_1 : decode cX10_on 1 = .ok (.getfield 19, 3) := by decide +kernel
theorem dX10_on_4 : decode cX10_on 4 = .ok (.iload_n 1, 1) := by decide +kernel
theorem dX10_on_5 : decode cX10_on 5 = .ok (.invokevirtual 116, 3) := by decide +kernel
theorem dX10_on_8 : decode cX10_on 8 = .ok (.ifCond .eq 14, 3) := by decide +kernel
theorem dX10_on_11 : decode cX10_on 11 = .ok (.aload_n 0, 1) := by decide +kernel
theorem dX10_on_12 : decode cX10_on 12 = .ok (.getfield 69, 3) := by decide +kernel
theorem dX10_on_15 : decode cX10_on 15 = .ok (.iload_n 1, 1) := by decide +kernel
theorem dX10_on_16 : decode cX10_on 16 = .ok (.invokevirtual 127, 3) := by decide +kernel
theorem dX10_on_19 : decode cX10_on 19 = .ok (.ifCond .eq 5, 3) := by decide +kernel
theorem dX10_on_22 : decode cX10_on 22 = .ok (.iconst 0, 1) := by decide +kernel
theorem dX10_on_23 : decode cX10_on 23 = .ok (.ireturn, 1) := by decide +kernel
theorem dX10_on_24 : decode cX10_on 24 = .ok (.aload_n 0, 1) := by decide +kernel
theorem dX10_on_25 : decode cX10_on 25 = .ok (.getfield 76, 3) := by decide +kernel
theorem dX10_on_28 : decode cX10_on 28 = .ok (.aload_n 0, 1) := by decide +kernel
theorem dX10_on_29 : decode cX10_on 29 = .ok (.getfield 69, 3) := by decide +kernel
theorem dX10_on_32 : decode cX10_on 32 = .ok (.invokevirtual 168, 3) := by decide +kernel
theorem dX10_on_35 : decode cX10_on 35 = .ok (.aload_n 0, 1) := by decide +kernel
theorem dX10_on_36 : decode cX10_on 36 = .ok (.getfield 69, 3) := by decide +kernel
theorem dX10_on_39 : decode cX10_on 39 = .ok (.iload_n 1, 1) := by decide +kernel
theorem dX10_on_40 : decode cX10_on 40 = .ok (.invokevirtual 182, 3) := by decide +kernel
theorem dX10_on_43 : decode cX10_on 43 = .ok (.iconst 1, 1) := by decide +kernel
theorem dX10_on_44 : decode cX10_on 44 = .ok (.ireturn, 1) := by decide +kernel
theorem dX10_plead_0 : decode cX10_plead 0 = .ok (.aload_n 0, 1) := by decide +kernel
theorem dX10_plead_1 : decode cX10_plead 1 = .ok (.getfield 69, 3) := by decide +kernel
theorem dX10_plead_4 : decode cX10_plead 4 = .ok (.iload_n 1, 1) := by decide +kernel
theorem dX10_plead_5 : decode cX10_plead 5 = .ok (.invokevirtual 185, 3) := by decide +kernel
theorem dX10_plead_8 : decode cX10_plead 8 = .ok (.istore_n 2, 1) := by decide +kernel
theorem dX10_plead_9 : decode cX10_plead 9 = .ok (.aload_n 0, 1) := by decide +kernel
theorem dX10_plead_10 : decode cX10_plead 10 = .ok (.getfield 19, 3) := by decide +kernel
theorem dX10_plead_13 : decode cX10_plead 13 = .ok (.iload_n 2, 1) := by decide +kernel
theorem dX10_plead_14 : decode cX10_plead 14 = .ok (.invokevirtual 116, 3) := by decide +kernel
theorem dX10_plead_17 : decode cX10_plead 17 = .ok (.ifCond .eq 14, 3) := by decide +kernel
theorem dX10_plead_20 : decode cX10_plead 20 = .ok (.aload_n 0, 1) := by decide +kernel
theorem dX10_plead_21 : decode cX10_plead 21 = .ok (.getfield 69, 3) := by decide +kernel
theorem dX10_plead_24 : decode cX10_plead 24 = .ok (.iload_n 1, 1) := by decide +kernel
theorem dX10_plead_25 : decode cX10_plead 25 = .ok (.invokevirtual 137, 3) := by decide +kernel
theorem dX10_plead_28 : decode cX10_plead 28 = .ok (.ifCond .eq 5, 3) := by decide +kernel
theorem dX10_plead_31 : decode cX10_plead 31 = .ok (.iconst (-1), 1) := by decide +kernel
theorem dX10_plead_32 : decode cX10_plead 32 = .ok (.ireturn, 1) := by decide +kernel
theorem dX10_plead_33 : decode cX10_plead 33 = .ok (.aload_n 0, 1) := by decide +kernel
theorem dX10_plead_34 : decode cX10_plead 34 = .ok (.getfield 37, 3) := by decide +kernel
theorem dX10_plead_37 : decode cX10_plead 37 = .ok (.aload_n 0, 1) := by decide +kernel
theorem dX10_plead_38 : decode cX10_plead 38 = .ok (.getfield 69, 3) := by decide +kernel
theorem dX10_plead_41 : decode cX10_plead 41 = .ok (.iload_n 2, 1) := by decide +kernel
theorem dX10_plead_42 : decode cX10_plead 42 = .ok (.invokevirtual 157, 3) := by decide +kernel
theorem dX10_plead_45 : decode cX10_plead 45 = .ok (.aload_n 0, 1) := by decide +kernel
theorem dX10_plead_46 : decode cX10_plead 46 = .ok (.getfield 37, 3) := by decide +kernel
theorem dX10_plead_49 : decode cX10_plead 49 = .ok (.iconst 2, 1) := by decide +kernel
theorem dX10_plead_50 : decode cX10_plead 50 = .ok (.aload_n 0, 1) := by decide +kernel
theorem dX10_plead_51 : decode cX10_plead 51 = .ok (.getfield 19, 3) := by decide +kernel
theorem dX10_plead_54 : decode cX10_plead 54 = .ok (.iload_n 1, 1) := by decide +kernel
theorem dX10_plead_55 : decode cX10_plead 55 = .ok (.invokevirtual 188, 3) := by decide +kernel
theorem dX10_plead_58 : decode cX10_plead 58 = .ok (.invokevirtual 161, 3) := by decide +kernel
theorem dX10_plead_61 : decode cX10_plead 61 = .ok (.istore_n 3, 1) := by decide +kernel
theorem dX10_plead_62 : decode cX10_plead 62 = .ok (.aload_n 0, 1) := by decide +kernel
theorem dX10_plead_63 : decode cX10_plead 63 = .ok (.getfield 69, 3) := by decide +kernel
theorem dX10_plead_66 : decode cX10_plead 66 = .ok (.getfield 124, 3) := by decide +kernel
theorem dX10_plead_69 : decode cX10_plead 69 = .ok (.iload_n 2, 1) := by decide +kernel
theorem dX10_plead_70 : decode cX10_plead 70 = .ok (.iaload, 1) := by decide +kernel
theorem dX10_plead_71 : decode cX10_plead 71 = .ok (.iload_n 3, 1) := by decide +kernel
theorem dX10_plead_72 : decode cX10_plead 72 = .ok (.if_icmp .ge 5, 3) := by decide +kernel
theorem dX10_plead_75 : decode cX10_plead 75 = .ok (.iconst (-1), 1) := by decide +kernel
theorem dX10_plead_76 : decode cX10_plead 76 = .ok (.ireturn, 1) := by decide +kernel
theorem dX10_plead_77 : decode cX10_plead 77 = .ok (.aload_n 0, 1) := by decide +kernel
theorem dX10_plead_78 : decode cX10_plead 78 = .ok (.getfield 76, 3) := by decide +kernel
theorem dX10_plead_81 : decode cX10_plead 81 = .ok (.aload_n 0, 1) := by decide +kernel
theorem dX10_plead_82 : decode cX10_plead 82 = .ok (.getfield 69, 3) := by decide +kernel
theorem dX10_plead_85 : decode cX10_plead 85 = .ok (.invokevirtual 168, 3) := by decide +kernel
theorem dX10_plead_88 : decode cX10_plead 88 = .ok (.aload_n 0, 1) := by decide +kernel
theorem dX10_plead_89 : decode cX10_plead 89 = .ok (.getfield 69, 3) := by decide +kernel
theorem dX10_plead_92 : decode cX10_plead 92 = .ok (.getfield 124, 3) := by decide +kernel
theorem dX10_plead_95 : decode cX10_plead 95 = .ok (.iload_n 2, 1) := by decide +kernel
theorem dX10_plead_96 : decode cX10_plead 96 = .ok (.dup2, 1) := by decide +kernel
theorem dX10_plead_97 : decode cX10_plead 97 = .ok (.iaload, 1) := by decide +kernel
theorem dX10_plead_98 : decode cX10_plead 98 = .ok (.iload_n 3, 1) := by decide +kernel
theorem dX10_plead_99 : decode cX10_plead 99 = .ok (.isub, 1) := by decide +kernel
theorem dX10_plead_100 : decode cX10_plead 100 = .ok (.iastore, 1) := by decide +kernel
theorem dX10_plead_101 : decode cX10_plead 101 = .ok (.aload_n 0, 1) := by decide +kernel
theorem dX10_plead_102 : decode cX10_plead 102 = .ok (.getfield 69, 3) := by decide +kernel
theorem dX10_plead_105 : decode cX10_plead 105 = .ok (.iload_n 1, 1) := by decide +kernel
theorem dX10_plead_106 : decode cX10_plead 106 = .ok (.invokevirtual 191, 3) := by decide +kernel
theorem dX10_plead_109 : decode cX10_plead 109 = .ok (.iload_n 3, 1) := by decide +kernel
theorem dX10_plead_110 : decode cX10_plead 110 = .ok (.ireturn, 1) := by decide +kernel
theorem dX10_sessions_0 : decode cX10_sessions 0 = .ok (.iload_n 1, 1) := by decide +kernel
theorem dX10_sessions_1 : decode cX10_sessions 1 = .ok (.ifCond .lt 9, 3) := by decide +kernel
theorem dX10_sessions_4 : decode cX10_sessions 4 = .ok (.iload_n 1, 1) := by decide +kernel
theorem dX10_sessions_5 : decode cX10_sessions 5 = .ok (.bipush 40, 2) := by decide +kernel
theorem dX10_sessions_7 : decode cX10_sessions 7 = .ok (.if_icmp .le 5, 3) := by decide +kernel
theorem dX10_sessions_10 : decode cX10_sessions 10 = .ok (.iconst (-1), 1) := by decide +kernel
theorem dX10_sessions_11 : decode cX10_sessions 11 = .ok (.ireturn, 1) := by decide +kernel
theorem dX10_sessions_12 : decode cX10_sessions 12 = .ok (.iload_n 1, 1) := by decide +kernel
theorem dX10_sessions_13 : decode cX10_sessions 13 = .ok (.ifCond .le 33, 3) := by decide +kernel
theorem dX10_sessions_16 : decode cX10_sessions 16 = .ok (.aload_n 0, 1) := by decide +kernel
theorem dX10_sessions_17 : decode cX10_sessions 17 = .ok (.getfield 76, 3) := by decide +kernel
theorem dX10_sessions_20 : decode cX10_sessions 20 = .ok (.aload_n 0, 1) := by decide +kernel
theorem dX10_sessions_21 : decode cX10_sessions 21 = .ok (.getfield 69, 3) := by decide +kernel
theorem dX10_sessions_24 : decode cX10_sessions 24 = .ok (.invokevirtual 168, 3) := by decide +kernel
theorem dX10_sessions_27 : decode cX10_sessions 27 = .ok (.aload_n 0, 1) := by decide +kernel
theorem dX10_sessions_28 : decode cX10_sessions 28 = .ok (.getfield 37, 3) := by decide +kernel
theorem dX10_sessions_31 : decode cX10_sessions 31 = .ok (.aload_n 0, 1) := by decide +kernel
theorem dX10_sessions_32 : decode cX10_sessions 32 = .ok (.getfield 69, 3) := by decide +kernel
theorem dX10_sessions_35 : decode cX10_sessions 35 = .ok (.iload_n 1, 1) := by decide +kernel
theorem dX10_sessions_36 : decode cX10_sessions 36 = .ok (.aload_n 0, 1) := by decide +kernel
theorem dX10_sessions_37 : decode cX10_sessions 37 = .ok (.getfield 19, 3) := by decide +kernel
theorem dX10_sessions_40 : decode cX10_sessions 40 = .ok (.getfield 194, 3) := by decide +kernel
theorem dX10_sessions_43 : decode cX10_sessions 43 = .ok (.invokevirtual 197, 3) := by decide +kernel
theorem dX10_sessions_46 : decode cX10_sessions 46 = .ok (.aload_n 0, 1) := by decide +kernel
theorem dX10_sessions_47 : decode cX10_sessions 47 = .ok (.getfield 69, 3) := by decide +kernel
theorem dX10_sessions_50 : decode cX10_sessions 50 = .ok (.getfield 201, 3) := by decide +kernel
theorem dX10_sessions_53 : decode cX10_sessions 53 = .ok (.ireturn, 1) := by decide +kernel
theorem dX10_undo_0 : decode cX10_undo 0 = .ok (.aload_n 0, 1) := by decide +kernel
theorem dX10_undo_1 : decode cX10_undo 1 = .ok (.getfield 76, 3) := by decide +kernel
theorem dX10_undo_4 : decode cX10_undo 4 = .ok (.aload_n 0, 1) := by decide +kernel
theorem dX10_undo_5 : decode cX10_undo 5 = .ok (.getfield 69, 3) := by decide +kernel
theorem dX10_undo_8 : decode cX10_undo 8 = .ok (.invokevirtual 204, 3) := by decide +kernel
theorem dX10_undo_11 : decode cX10_undo 11 = .ok (.ireturn, 1) := by decide +kernel
theorem dX10_best_0 : decode cX10_best 0 = .ok (.iload_n 1, 1) := by decide +kernel
theorem dX10_best_1 : decode cX10_best 1 = .ok (.ifCond .lt 25, 3) := by decide +kernel
theorem dX10_best_4 : decode cX10_best 4 = .ok (.iload_n 1, 1) := by decide +kernel
theorem dX10_best_5 : decode cX10_best 5 = .ok (.iconst 3, 1) := by decide +kernel
theorem dX10_best_6 : decode cX10_best 6 = .ok (.if_icmp .gt 20, 3) := by decide +kernel
theorem dX10_best_9 : decode cX10_best 9 = .ok (.iload_n 2, 1) := by decide +kernel
theorem dX10_best_10 : decode cX10_best 10 = .ok (.bipush (-2), 2) := by decide +kernel
theorem dX10_best_12 : decode cX10_best 12 = .ok (.if_icmp .lt 14, 3) := by decide +kernel
theorem dX10_best_15 : decode cX10_best 15 = .ok (.iload_n 2, 1) := by decide +kernel
theorem dX10_best_16 : decode cX10_best 16 = .ok (.aload_n 0, 1) := by decide +kernel
theorem dX10_best_17 : decode cX10_best 17 = .ok (.getfield 69, 3) := by decide +kernel
theorem dX10_best_20 : decode cX10_best 20 = .ok (.getfield 208, 3) := by decide +kernel
theorem dX10_best_23 : decode cX10_best 23 = .ok (.if_icmp .lt 5, 3) := by decide +kernel
theorem dX10_best_26 : decode cX10_best 26 = .ok (.iconst (-1), 1) := by decide +kernel
theorem dX10_best_27 : decode cX10_best 27 = .ok (.ireturn, 1) := by decide +kernel
theorem dX10_best_28 : decode cX10_best 28 = .ok (.aload_n 0, 1) := by decide +kernel
theorem dX10_best_29 : decode cX10_best 29 = .ok (.getfield 46, 3) := by decide +kernel
theorem dX10_best_32 : decode cX10_best 32 = .ok (.aload_n 0, 1) := by decide +kernel
theorem dX10_best_33 : decode cX10_best 33 = .ok (.getfield 69, 3) := by decide +kernel
theorem dX10_best_36 : decode cX10_best 36 = .ok (.invokevirtual 211, 3) := by decide +kernel
theorem dX10_best_39 : decode cX10_best 39 = .ok (.aload_n 0, 1) := by decide +kernel
theorem dX10_best_40 : decode cX10_best 40 = .ok (.getfield 46, 3) := by decide +kernel
theorem dX10_best_43 : decode cX10_best 43 = .ok (.iload_n 1, 1) := by decide +kernel
theorem dX10_best_44 : decode cX10_best 44 = .ok (.invokevirtual 214, 3) := by decide +kernel
theorem dX10_best_47 : decode cX10_best 47 = .ok (.iload_n 2, 1) := by decide +kernel
theorem dX10_best_48 : decode cX10_best 48 = .ok (.iconst (-1), 1) := by decide +kernel
theorem dX10_best_49 : decode cX10_best 49 = .ok (.if_icmp .ne 11, 3) := by decide +kernel
theorem dX10_best_52 : decode cX10_best 52 = .ok (.aload_n 0, 1) := by decide +kernel
theorem dX10_best_53 : decode cX10_best 53 = .ok (.getfield 46, 3) := by decide +kernel
theorem dX10_best_56 : decode cX10_best 56 = .ok (.getfield 217, 3) := by decide +kernel
theorem dX10_best_59 : decode cX10_best 59 = .ok (.ireturn, 1) := by decide +kernel
theorem dX10_best_60 : decode cX10_best 60 = .ok (.iload_n 2, 1) := by decide +kernel
theorem dX10_best_61 : decode cX10_best 61 = .ok (.bipush (-2), 2) := by decide +kernel
theorem dX10_best_63 : decode cX10_best 63 = .ok (.if_icmp .ne 13, 3) := by decide +kernel
theorem dX10_best_66 : decode cX10_best 66 = .ok (.aload_n 0, 1) := by decide +kernel
theorem dX10_best_67 : decode cX10_best 67 = .ok (.getfield 46, 3) := by decide +kernel
theorem dX10_best_70 : decode cX10_best 70 = .ok (.getfield 220, 3) := by decide +kernel
theorem dX10_best_73 : decode cX10_best 73 = .ok (.goto 11, 3) := by decide +kernel
theorem dX10_best_76 : decode cX10_best 76 = .ok (.aload_n 0, 1) := by decide +kernel
theorem dX10_best_77 : decode cX10_best 77 = .ok (.getfield 46, 3) := by decide +kernel
theorem dX10_best_80 : decode cX10_best 80 = .ok (.iload_n 2, 1) := by decide +kernel
theorem dX10_best_81 : decode cX10_best 81 = .ok (.invokevirtual 223, 3) := by decide +kernel
theorem dX10_best_84 : decode cX10_best 84 = .ok (.ireturn, 1) := by decide +kernel
theorem dX10_traders_0 : decode cX10_traders 0 = .ok (.aload_n 0, 1) := by decide +kernel
theorem dX10_traders_1 : decode cX10_traders 1 = .ok (.getfield 69, 3) := by decide +kernel
theorem dX10_traders_4 : decode cX10_traders 4 = .ok (.iload_n 1, 1) := by decide +kernel
theorem dX10_traders_5 : decode cX10_traders 5 = .ok (.invokevirtual 127, 3) := by decide +kernel
theorem dX10_traders_8 : decode cX10_traders 8 = .ok (.ifCond .ne 5, 3) := by decide +kernel
theorem dX10_traders_11 : decode cX10_traders 11 = .ok (.iconst (-1), 1) := by decide +kernel
theorem dX10_traders_12 : decode cX10_traders 12 = .ok (.ireturn, 1) := by decide +kernel
theorem dX10_traders_13 : decode cX10_traders 13 = .ok (.aload_n 0, 1) := by decide +kernel
theorem dX10_traders_14 : decode cX10_traders 14 = .ok (.getfield 46, 3) := by decide +kernel
theorem dX10_traders_17 : decode cX10_traders 17 = .ok (.aload_n 0, 1) := by decide +kernel
theorem dX10_traders_18 : decode cX10_traders 18 = .ok (.getfield 69, 3) := by decide +kernel
theorem dX10_traders_21 : decode cX10_traders 21 = .ok (.invokevirtual 226, 3) := by decide +kernel
theorem dX10_traders_24 : decode cX10_traders 24 = .ok (.aload_n 0, 1) := by decide +kernel
theorem dX10_traders_25 : decode cX10_traders 25 = .ok (.getfield 46, 3) := by decide +kernel
theorem dX10_traders_28 : decode cX10_traders 28 = .ok (.iload_n 1, 1) := by decide +kernel
theorem dX10_traders_29 : decode cX10_traders 29 = .ok (.invokevirtual 229, 3) := by decide +kernel
theorem dX10_traders_32 : decode cX10_traders 32 = .ok (.ireturn, 1) := by decide +kernel
theorem dX10_gain_0 : decode cX10_gain 0 = .ok (.iload_n 1, 1) := by decide +kernel
theorem dX10_gain_1 : decode cX10_gain 1 = .ok (.iload_n 2, 1) := by decide +kernel
theorem dX10_gain_2 : decode cX10_gain 2 = .ok (.if_icmp .eq 25, 3) := by decide +kernel
theorem dX10_gain_5 : decode cX10_gain 5 = .ok (.aload_n 0, 1) := by decide +kernel
theorem dX10_gain_6 : decode cX10_gain 6 = .ok (.getfield 69, 3) := by decide +kernel
theorem dX10_gain_9 : decode cX10_gain 9 = .ok (.iload_n 1, 1) := by decide +kernel
theorem dX10_gain_10 : decode cX10_gain 10 = .ok (.invokevirtual 127, 3) := by decide +kernel
theorem dX10_gain_13 : decode cX10_gain 13 = .ok (.ifCond .eq 14, 3) := by decide +kernel
theorem dX10_gain_16 : decode cX10_gain 16 = .ok (.aload_n 0, 1) := by decide +kernel
theorem dX10_gain_17 : decode cX10_gain 17 = .ok (.getfield 69, 3) := by decide +kernel
theorem dX10_gain_20 : decode cX10_gain 20 = .ok (.iload_n 2, 1) := by decide +kernel
theorem dX10_gain_21 : decode cX10_gain 21 = .ok (.invokevirtual 127, 3) := by decide +kernel
theorem dX10_gain_24 : decode cX10_gain 24 = .ok (.ifCond .ne 6, 3) := by decide +kernel
theorem dX10_gain_27 : decode cX10_gain 27 = .ok (.ldc 232, 2) := by decide +kernel
theorem dX10_gain_29 : decode cX10_gain 29 = .ok (.ireturn, 1) := by decide +kernel
theorem dX10_gain_30 : decode cX10_gain 30 = .ok (.aload_n 0, 1) := by decide +kernel
theorem dX10_gain_31 : decode cX10_gain 31 = .ok (.getfield 55, 3) := by decide +kernel
theorem dX10_gain_34 : decode cX10_gain 34 = .ok (.aload_n 0, 1) := by decide +kernel
theorem dX10_gain_35 : decode cX10_gain 35 = .ok (.getfield 69, 3) := by decide +kernel
theorem dX10_gain_38 : decode cX10_gain 38 = .ok (.iload_n 1, 1) := by decide +kernel
theorem dX10_gain_39 : decode cX10_gain 39 = .ok (.iload_n 2, 1) := by decide +kernel
theorem dX10_gain_40 : decode cX10_gain 40 = .ok (.invokevirtual 233, 3) := by decide +kernel
theorem dX10_gain_43 : decode cX10_gain 43 = .ok (.ireturn, 1) := by decide +kernel
theorem dX10_behind_0 : decode cX10_behind 0 = .ok (.aload_n 0, 1) := by decide +kernel
theorem dX10_behind_1 : decode cX10_behind 1 = .ok (.getfield 69, 3) := by decide +kernel
theorem dX10_behind_4 : decode cX10_behind 4 = .ok (.iload_n 1, 1) := by decide +kernel
theorem dX10_behind_5 : decode cX10_behind 5 = .ok (.invokevirtual 127, 3) := by decide +kernel
theorem dX10_behind_8 : decode cX10_behind 8 = .ok (.ifCond .ne 5, 3) := by decide +kernel
theorem dX10_behind_11 : decode cX10_behind 11 = .ok (.iconst (-1), 1) := by decide +kernel
theorem dX10_behind_12 : decode cX10_behind 12 = .ok (.ireturn, 1) := by decide +kernel
theorem dX10_behind_13 : decode cX10_behind 13 = .ok (.aload_n 0, 1) := by decide +kernel
theorem dX10_behind_14 : decode cX10_behind 14 = .ok (.getfield 69, 3) := by decide +kernel
theorem dX10_behind_17 : decode cX10_behind 17 = .ok (.iload_n 1, 1) := by decide +kernel
theorem dX10_behind_18 : decode cX10_behind 18 = .ok (.invokevirtual 185, 3) := by decide +kernel
theorem dX10_behind_21 : decode cX10_behind 21 = .ok (.istore_n 2, 1) := by decide +kernel
theorem dX10_behind_22 : decode cX10_behind 22 = .ok (.iload_n 2, 1) := by decide +kernel
theorem dX10_behind_23 : decode cX10_behind 23 = .ok (.iconst (-1), 1) := by decide +kernel
theorem dX10_behind_24 : decode cX10_behind 24 = .ok (.if_icmp .ne 8, 3) := by decide +kernel
theorem dX10_behind_27 : decode cX10_behind 27 = .ok (.bipush (-2), 2) := by decide +kernel
theorem dX10_behind_29 : decode cX10_behind 29 = .ok (.goto 4, 3) := by decide +kernel
theorem dX10_behind_32 : decode cX10_behind 32 = .ok (.iload_n 2, 1) := by decide +kernel
theorem dX10_behind_33 : decode cX10_behind 33 = .ok (.ireturn, 1) := by decide +kernel
theorem dX10_rests_0 : decode cX10_rests 0 = .ok (.aload_n 0, 1) := by decide +kernel
theorem dX10_rests_1 : decode cX10_rests 1 = .ok (.getfield 46, 3) := by decide +kernel
theorem dX10_rests_4 : decode cX10_rests 4 = .ok (.aload_n 0, 1) := by decide +kernel
theorem dX10_rests_5 : decode cX10_rests 5 = .ok (.getfield 69, 3) := by decide +kernel
theorem dX10_rests_8 : decode cX10_rests 8 = .ok (.invokevirtual 211, 3) := by decide +kernel
theorem dX10_rests_11 : decode cX10_rests 11 = .ok (.aload_n 0, 1) := by decide +kernel
theorem dX10_rests_12 : decode cX10_rests 12 = .ok (.getfield 46, 3) := by decide +kernel
theorem dX10_rests_15 : decode cX10_rests 15 = .ok (.invokevirtual 237, 3) := by decide +kernel
theorem dX10_rests_18 : decode cX10_rests 18 = .ok (.ireturn, 1) := by decide +kernel
theorem dX10_settles_0 : decode cX10_settles 0 = .ok (.aload_n 0, 1) := by decide +kernel
theorem dX10_settles_1 : decode cX10_settles 1 = .ok (.getfield 46, 3) := by decide +kernel
theorem dX10_settles_4 : decode cX10_settles 4 = .ok (.aload_n 0, 1) := by decide +kernel
theorem dX10_settles_5 : decode cX10_settles 5 = .ok (.getfield 69, 3) := by decide +kernel
theorem dX10_settles_8 : decode cX10_settles 8 = .ok (.invokevirtual 226, 3) := by decide +kernel
theorem dX10_settles_11 : decode cX10_settles 11 = .ok (.aload_n 0, 1) := by decide +kernel
theorem dX10_settles_12 : decode cX10_settles 12 = .ok (.getfield 46, 3) := by decide +kernel
theorem dX10_settles_15 : decode cX10_settles 15 = .ok (.invokevirtual 240, 3) := by decide +kernel
theorem dX10_settles_18 : decode cX10_settles 18 = .ok (.ireturn, 1) := by decide +kernel
theorem dX10_shunned_0 : decode cX10_shunned 0 = .ok (.iload_n 1, 1) := by decide +kernel
theorem dX10_shunned_1 : decode cX10_shunned 1 = .ok (.ifCond .lt 8, 3) := by decide +kernel
theorem dX10_shunned_4 : decode cX10_shunned 4 = .ok (.iload_n 1, 1) := by decide +kernel
theorem dX10_shunned_5 : decode cX10_shunned 5 = .ok (.iconst 1, 1) := by decide +kernel
theorem dX10_shunned_6 : decode cX10_shunned 6 = .ok (.if_icmp .le 5, 3) := by decide +kernel
theorem dX10_shunned_9 : decode cX10_shunned 9 = .ok (.iconst (-1), 1) := by decide +kernel
theorem dX10_shunned_10 : decode cX10_shunned 10 = .ok (.ireturn, 1) := by decide +kernel
theorem dX10_shunned_11 : decode cX10_shunned 11 = .ok (.aload_n 0, 1) := by decide +kernel
theorem dX10_shunned_12 : decode cX10_shunned 12 = .ok (.getfield 55, 3) := by decide +kernel
theorem dX10_shunned_15 : decode cX10_shunned 15 = .ok (.aload_n 0, 1) := by decide +kernel
theorem dX10_shunned_16 : decode cX10_shunned 16 = .ok (.getfield 69, 3) := by decide +kernel
theorem dX10_shunned_19 : decode cX10_shunned 19 = .ok (.invokevirtual 243, 3) := by decide +kernel
theorem dX10_shunned_22 : decode cX10_shunned 22 = .ok (.aload_n 0, 1) := by decide +kernel
theorem dX10_shunned_23 : decode cX10_shunned 23 = .ok (.getfield 55, 3) := by decide +kernel
theorem dX10_shunned_26 : decode cX10_shunned 26 = .ok (.iload_n 1, 1) := by decide +kernel
theorem dX10_shunned_27 : decode cX10_shunned 27 = .ok (.invokevirtual 246, 3) := by decide +kernel
theorem dX10_shunned_30 : decode cX10_shunned 30 = .ok (.ireturn, 1) := by decide +kernel
theorem dX10_buyers_0 : decode cX10_buyers 0 = .ok (.aload_n 0, 1) := by decide +kernel
theorem dX10_buyers_1 : decode cX10_buyers 1 = .ok (.getfield 55, 3) := by decide +kernel
theorem dX10_buyers_4 : decode cX10_buyers 4 = .ok (.aload_n 0, 1) := by decide +kernel
theorem dX10_buyers_5 : decode cX10_buyers 5 = .ok (.getfield 69, 3) := by decide +kernel
theorem dX10_buyers_8 : decode cX10_buyers 8 = .ok (.invokevirtual 249, 3) := by decide +kernel
theorem dX10_buyers_11 : decode cX10_buyers 11 = .ok (.ireturn, 1) := by decide +kernel
theorem dX10_lighter_0 : decode cX10_lighter 0 = .ok (.iload_n 1, 1) := by decide +kernel
theorem dX10_lighter_1 : decode cX10_lighter 1 = .ok (.ifCond .lt 8, 3) := by decide +kernel
theorem dX10_lighter_4 : decode cX10_lighter 4 = .ok (.iload_n 1, 1) := by decide +kernel
theorem dX10_lighter_5 : decode cX10_lighter 5 = .ok (.iconst 1, 1) := by decide +kernel
theorem dX10_lighter_6 : decode cX10_lighter 6 = .ok (.if_icmp .le 5, 3) := by decide +kernel
theorem dX10_lighter_9 : decode cX10_lighter 9 = .ok (.iconst (-1), 1) := by decide +kernel
theorem dX10_lighter_10 : decode cX10_lighter 10 = .ok (.ireturn, 1) := by decide +kernel
theorem dX10_lighter_11 : decode cX10_lighter 11 = .ok (.aload_n 0, 1) := by decide +kernel
theorem dX10_lighter_12 : decode cX10_lighter 12 = .ok (.getfield 55, 3) := by decide +kernel
theorem dX10_lighter_15 : decode cX10_lighter 15 = .ok (.aload_n 0, 1) := by decide +kernel
theorem dX10_lighter_16 : decode cX10_lighter 16 = .ok (.getfield 69, 3) := by decide +kernel
theorem dX10_lighter_19 : decode cX10_lighter 19 = .ok (.invokevirtual 253, 3) := by decide +kernel
theorem dX10_lighter_22 : decode cX10_lighter 22 = .ok (.aload_n 0, 1) := by decide +kernel
theorem dX10_lighter_23 : decode cX10_lighter 23 = .ok (.getfield 55, 3) := by decide +kernel
theorem dX10_lighter_26 : decode cX10_lighter 26 = .ok (.iload_n 1, 1) := by decide +kernel
theorem dX10_lighter_27 : decode cX10_lighter 27 = .ok (.invokevirtual 246, 3) := by decide +kernel
theorem dX10_lighter_30 : decode cX10_lighter 30 = .ok (.ireturn, 1) := by decide +kernel
theorem dX10_furthest_0 : decode cX10_furthest 0 = .ok (.aload_n 0, 1) := by decide +kernel
theorem dX10_furthest_1 : decode cX10_furthest 1 = .ok (.getfield 69, 3) := by decide +kernel
theorem dX10_furthest_4 : decode cX10_furthest 4 = .ok (.iload_n 1, 1) := by decide +kernel
theorem dX10_furthest_5 : decode cX10_furthest 5 = .ok (.invokevirtual 127, 3) := by decide +kernel
theorem dX10_furthest_8 : decode cX10_furthest 8 = .ok (.ifCond .eq 12, 3) := by decide +kernel
theorem dX10_furthest_11 : decode cX10_furthest 11 = .ok (.iload_n 2, 1) := by decide +kernel
theorem dX10_furthest_12 : decode cX10_furthest 12 = .ok (.ifCond .lt 8, 3) := by decide +kernel
theorem dX10_furthest_15 : decode cX10_furthest 15 = .ok (.iload_n 2, 1) := by decide +kernel
theorem dX10_furthest_16 : decode cX10_furthest 16 = .ok (.iconst 1, 1) := by decide +kernel
theorem dX10_furthest_17 : decode cX10_furthest 17 = .ok (.if_icmp .le 5, 3) := by decide +kernel
theorem dX10_furthest_20 : decode cX10_furthest 20 = .ok (.iconst (-1), 1) := by decide +kernel
theorem dX10_furthest_21 : decode cX10_furthest 21 = .ok (.ireturn, 1) := by decide +kernel
theorem dX10_furthest_22 : decode cX10_furthest 22 = .ok (.aload_n 0, 1) := by decide +kernel
theorem dX10_furthest_23 : decode cX10_furthest 23 = .ok (.getfield 55, 3) := by decide +kernel
theorem dX10_furthest_26 : decode cX10_furthest 26 = .ok (.aload_n 0, 1) := by decide +kernel
theorem dX10_furthest_27 : decode cX10_furthest 27 = .ok (.getfield 69, 3) := by decide +kernel
theorem dX10_furthest_30 : decode cX10_furthest 30 = .ok (.iload_n 1, 1) := by decide +kernel
theorem dX10_furthest_31 : decode cX10_furthest 31 = .ok (.invokevirtual 256, 3) := by decide +kernel
theorem dX10_furthest_34 : decode cX10_furthest 34 = .ok (.aload_n 0, 1) := by decide +kernel
theorem dX10_furthest_35 : decode cX10_furthest 35 = .ok (.getfield 55, 3) := by decide +kernel
theorem dX10_furthest_38 : decode cX10_furthest 38 = .ok (.iload_n 2, 1) := by decide +kernel
theorem dX10_furthest_39 : decode cX10_furthest 39 = .ok (.invokevirtual 246, 3) := by decide +kernel
theorem dX10_furthest_42 : decode cX10_furthest 42 = .ok (.ireturn, 1) := by decide +kernel
theorem dX10_then_0 : decode cX10_then 0 = .ok (.aload_n 0, 1) := by decide +kernel
theorem dX10_then_1 : decode cX10_then 1 = .ok (.getfield 19, 3) := by decide +kernel
theorem dX10_then_4 : decode cX10_then 4 = .ok (.iload_n 1, 1) := by decide +kernel
theorem dX10_then_5 : decode cX10_then 5 = .ok (.invokevirtual 116, 3) := by decide +kernel
theorem dX10_then_8 : decode cX10_then 8 = .ok (.ifCond .eq 13, 3) := by decide +kernel
theorem dX10_then_11 : decode cX10_then 11 = .ok (.iload_n 2, 1) := by decide +kernel
theorem dX10_then_12 : decode cX10_then 12 = .ok (.ifCond .lt 9, 3) := by decide +kernel
theorem dX10_then_15 : decode cX10_then 15 = .ok (.iload_n 2, 1) := by decide +kernel
theorem dX10_then_16 : decode cX10_then 16 = .ok (.bipush 40, 2) := by decide +kernel
theorem dX10_then_18 : decode cX10_then 18 = .ok (.if_icmp .le 5, 3) := by decide +kernel
theorem dX10_then_21 : decode cX10_then 21 = .ok (.iconst (-1), 1) := by decide +kernel
theorem dX10_then_22 : decode cX10_then 22 = .ok (.ireturn, 1) := by decide +kernel
theorem dX10_then_23 : decode cX10_then 23 = .ok (.aload_n 0, 1) := by decide +kernel
theorem dX10_then_24 : decode cX10_then 24 = .ok (.getfield 55, 3) := by decide +kernel
theorem dX10_then_27 : decode cX10_then 27 = .ok (.aload_n 0, 1) := by decide +kernel
theorem dX10_then_28 : decode cX10_then 28 = .ok (.getfield 69, 3) := by decide +kernel
theorem dX10_then_31 : decode cX10_then 31 = .ok (.iload_n 2, 1) := by decide +kernel
theorem dX10_then_32 : decode cX10_then 32 = .ok (.invokevirtual 259, 3) := by decide +kernel
theorem dX10_then_35 : decode cX10_then 35 = .ok (.getfield 134, 3) := by decide +kernel
theorem dX10_then_38 : decode cX10_then 38 = .ok (.iload_n 1, 1) := by decide +kernel
theorem dX10_then_39 : decode cX10_then 39 = .ok (.iaload, 1) := by decide +kernel
theorem dX10_then_40 : decode cX10_then 40 = .ok (.ireturn, 1) := by decide +kernel
theorem dX10_listIn_0 : decode cX10_listIn 0 = .ok (.iload_n 1, 1) := by decide +kernel
theorem dX10_listIn_1 : decode cX10_listIn 1 = .ok (.ifCond .lt 18, 3) := by decide +kernel
theorem dX10_listIn_4 : decode cX10_listIn 4 = .ok (.iload_n 1, 1) := by decide +kernel
theorem dX10_listIn_5 : decode cX10_listIn 5 = .ok (.bipush 40, 2) := by decide +kernel
theorem dX10_listIn_7 : decode cX10_listIn 7 = .ok (.if_icmp .gt 12, 3) := by decide +kernel
theorem dX10_listIn_10 : decode cX10_listIn 10 = .ok (.iload_n 2, 1) := by decide +kernel
theorem dX10_listIn_11 : decode cX10_listIn 11 = .ok (.ifCond .lt 8, 3) := by decide +kernel
theorem dX10_listIn_14 : decode cX10_listIn 14 = .ok (.iload_n 2, 1) := by decide +kernel
theorem dX10_listIn_15 : decode cX10_listIn 15 = .ok (.iconst 1, 1) := by decide +kernel
theorem dX10_listIn_16 : decode cX10_listIn 16 = .ok (.if_icmp .le 5, 3) := by decide +kernel
theorem dX10_listIn_19 : decode cX10_listIn 19 = .ok (.iconst (-1), 1) := by decide +kernel
theorem dX10_listIn_20 : decode cX10_listIn 20 = .ok (.ireturn, 1) := by decide +kernel
theorem dX10_listIn_21 : decode cX10_listIn 21 = .ok (.aload_n 0, 1) := by decide +kernel
theorem dX10_listIn_22 : decode cX10_listIn 22 = .ok (.getfield 55, 3) := by decide +kernel
theorem dX10_listIn_25 : decode cX10_listIn 25 = .ok (.aload_n 0, 1) := by decide +kernel
theorem dX10_listIn_26 : decode cX10_listIn 26 = .ok (.getfield 69, 3) := by decide +kernel
theorem dX10_listIn_29 : decode cX10_listIn 29 = .ok (.iload_n 1, 1) := by decide +kernel
theorem dX10_listIn_30 : decode cX10_listIn 30 = .ok (.invokevirtual 259, 3) := by decide +kernel
theorem dX10_listIn_33 : decode cX10_listIn 33 = .ok (.astore_n 3, 1) := by decide +kernel
theorem dX10_listIn_34 : decode cX10_listIn 34 = .ok (.iload_n 2, 1) := by decide +kernel
theorem dX10_listIn_35 : decode cX10_listIn 35 = .ok (.ifCond .ne 10, 3) := by decide +kernel
theorem dX10_listIn_38 : decode cX10_listIn 38 = .ok (.aload_n 3, 1) := by decide +kernel
theorem dX10_listIn_39 : decode cX10_listIn 39 = .ok (.getfield 208, 3) := by decide +kernel
theorem dX10_listIn_42 : decode cX10_listIn 42 = .ok (.goto 7, 3) := by decide +kernel
theorem dX10_listIn_45 : decode cX10_listIn 45 = .ok (.aload_n 3, 1) := by decide +kernel
theorem dX10_listIn_46 : decode cX10_listIn 46 = .ok (.getfield 263, 3) := by decide +kernel
theorem dX10_listIn_49 : decode cX10_listIn 49 = .ok (.ireturn, 1) := by decide +kernel
theorem dX10_year_0 : decode cX10_year 0 = .ok (.aload_n 0, 1) := by decide +kernel
theorem dX10_year_1 : decode cX10_year 1 = .ok (.getfield 19, 3) := by decide +kernel
theorem dX10_year_4 : decode cX10_year 4 = .ok (.iload_n 1, 1) := by decide +kernel
theorem dX10_year_5 : decode cX10_year 5 = .ok (.invokevirtual 116, 3) := by decide +kernel
theorem dX10_year_8 : decode cX10_year 8 = .ok (.ifCond .eq 24, 3) := by decide +kernel
theorem dX10_year_11 : decode cX10_year 11 = .ok (.iload_n 2, 1) := by decide +kernel
theorem dX10_year_12 : decode cX10_year 12 = .ok (.ifCond .lt 20, 3) := by decide +kernel
theorem dX10_year_15 : decode cX10_year 15 = .ok (.iload_n 2, 1) := by decide +kernel
theorem dX10_year_16 : decode cX10_year 16 = .ok (.bipush 40, 2) := by decide +kernel
theorem dX10_year_18 : decode cX10_year 18 = .ok (.if_icmp .gt 14, 3) := by decide +kernel
theorem dX10_year_21 : decode cX10_year 21 = .ok (.iload_n 3, 1) := by decide +kernel
theorem dX10_year_22 : decode cX10_year 22 = .ok (.iconst 1, 1) := by decide +kernel
theorem dX10_year_23 : decode cX10_year 23 = .ok (.if_icmp .lt 9, 3) := by decide +kernel
theorem dX10_year_26 : decode cX10_year 26 = .ok (.iload_n 3, 1) := by decide +kernel
theorem dX10_year_27 : decode cX10_year 27 = .ok (.bipush 20, 2) := by decide +kernel
theorem dX10_year_29 : decode cX10_year 29 = .ok (.if_icmp .le 5, 3) := by decide +kernel
theorem dX10_year_32 : decode cX10_year 32 = .ok (.iconst (-1), 1) := by decide +kernel
theorem dX10_year_33 : decode cX10_year 33 = .ok (.ireturn, 1) := by decide +kernel
theorem dX10_year_34 : decode cX10_year 34 = .ok (.aload_n 0, 1) := by decide +kernel
theorem dX10_year_35 : decode cX10_year 35 = .ok (.getfield 55, 3) := by decide +kernel
theorem dX10_year_38 : decode cX10_year 38 = .ok (.aload_n 0, 1) := by decide +kernel
theorem dX10_year_39 : decode cX10_year 39 = .ok (.getfield 69, 3) := by decide +kernel
theorem dX10_year_42 : decode cX10_year 42 = .ok (.iload_n 1, 1) := by decide +kernel
theorem dX10_year_43 : decode cX10_year 43 = .ok (.iload_n 2, 1) := by decide +kernel
theorem dX10_year_44 : decode cX10_year 44 = .ok (.iload_n 3, 1) := by decide +kernel
theorem dX10_year_45 : decode cX10_year 45 = .ok (.invokevirtual 266, 3) := by decide +kernel
theorem dX10_year_48 : decode cX10_year 48 = .ok (.ireturn, 1) := by decide +kernel
theorem dX10_tell_0 : decode cX10_tell 0 = .ok (.iload_n 1, 1) := by decide +kernel
theorem dX10_tell_1 : decode cX10_tell 1 = .ok (.ifCond .lt 20, 3) := by decide +kernel
theorem dX10_tell_4 : decode cX10_tell 4 = .ok (.iload_n 1, 1) := by decide +kernel
theorem dX10_tell_5 : decode cX10_tell 5 = .ok (.bipush 7, 2) := by decide +kernel
theorem dX10_tell_7 : decode cX10_tell 7 = .ok (.if_icmp .ge 14, 3) := by decide +kernel
theorem dX10_tell_10 : decode cX10_tell 10 = .ok (.iload_n 2, 1) := by decide +kernel
theorem dX10_tell_11 : decode cX10_tell 11 = .ok (.ifCond .lt 10, 3) := by decide +kernel
theorem dX10_tell_14 : decode cX10_tell 14 = .ok (.iload_n 2, 1) := by decide +kernel
theorem dX10_tell_15 : decode cX10_tell 15 = .ok (.sipush 999, 3) := by decide +kernel
theorem dX10_tell_18 : decode cX10_tell 18 = .ok (.if_icmp .le 5, 3) := by decide +kernel
theorem dX10_tell_21 : decode cX10_tell 21 = .ok (.iconst (-1), 1) := by decide +kernel
theorem dX10_tell_22 : decode cX10_tell 22 = .ok (.ireturn, 1) := by decide +kernel
theorem dX10_tell_23 : decode cX10_tell 23 = .ok (.aload_n 0, 1) := by decide +kernel
theorem dX10_tell_24 : decode cX10_tell 24 = .ok (.getfield 62, 3) := by decide +kernel
theorem dX10_tell_27 : decode cX10_tell 27 = .ok (.iload_n 1, 1) := by decide +kernel
theorem dX10_tell_28 : decode cX10_tell 28 = .ok (.iload_n 2, 1) := by decide +kernel
theorem dX10_tell_29 : decode cX10_tell 29 = .ok (.iload_n 3, 1) := by decide +kernel
theorem dX10_tell_30 : decode cX10_tell 30 = .ok (.invokevirtual 269, 3) := by decide +kernel
theorem dX10_tell_33 : decode cX10_tell 33 = .ok (.ireturn, 1) := by decide +kernel
theorem dX10_forget_0 : decode cX10_forget 0 = .ok (.aload_n 0, 1) := by decide +kernel
theorem dX10_forget_1 : decode cX10_forget 1 = .ok (.getfield 62, 3) := by decide +kernel
theorem dX10_forget_4 : decode cX10_forget 4 = .ok (.getfield 112, 3) := by decide +kernel
theorem dX10_forget_7 : decode cX10_forget 7 = .ok (.istore_n 1, 1) := by decide +kernel
theorem dX10_forget_8 : decode cX10_forget 8 = .ok (.aload_n 0, 1) := by decide +kernel
theorem dX10_forget_9 : decode cX10_forget 9 = .ok (.getfield 62, 3) := by decide +kernel
theorem dX10_forget_12 : decode cX10_forget 12 = .ok (.iconst 0, 1) := by decide +kernel
theorem dX10_forget_13 : decode cX10_forget 13 = .ok (.putfield 112, 3) := by decide +kernel
theorem dX10_forget_16 : decode cX10_forget 16 = .ok (.iload_n 1, 1) := by decide +kernel
theorem dX10_forget_17 : decode cX10_forget 17 = .ok (.ireturn, 1) := by decide +kernel
theorem dX10_fits_0 : decode cX10_fits 0 = .ok (.iload_n 1, 1) := by decide +kernel
theorem dX10_fits_1 : decode cX10_fits 1 = .ok (.ifCond .lt 23, 3) := by decide +kernel
theorem dX10_fits_4 : decode cX10_fits 4 = .ok (.iload_n 1, 1) := by decide +kernel
theorem dX10_fits_5 : decode cX10_fits 5 = .ok (.aload_n 0, 1) := by decide +kernel
theorem dX10_fits_6 : decode cX10_fits 6 = .ok (.getfield 62, 3) := by decide +kernel
theorem dX10_fits_9 : decode cX10_fits 9 = .ok (.getfield 112, 3) := by decide +kernel
theorem dX10_fits_12 : decode cX10_fits 12 = .ok (.if_icmp .gt 12, 3) := by decide +kernel
theorem dX10_fits_15 : decode cX10_fits 15 = .ok (.iload_n 2, 1) := by decide +kernel
theorem dX10_fits_16 : decode cX10_fits 16 = .ok (.ifCond .lt 8, 3) := by decide +kernel
theorem dX10_fits_19 : decode cX10_fits 19 = .ok (.iload_n 2, 1) := by decide +kernel
theorem dX10_fits_20 : decode cX10_fits 20 = .ok (.iconst 1, 1) := by decide +kernel
theorem dX10_fits_21 : decode cX10_fits 21 = .ok (.if_icmp .le 5, 3) := by decide +kernel
theorem dX10_fits_24 : decode cX10_fits 24 = .ok (.iconst (-1), 1) := by decide +kernel
theorem dX10_fits_25 : decode cX10_fits 25 = .ok (.ireturn, 1) := by decide +kernel
theorem dX10_fits_26 : decode cX10_fits 26 = .ok (.aload_n 0, 1) := by decide +kernel
theorem dX10_fits_27 : decode cX10_fits 27 = .ok (.getfield 46, 3) := by decide +kernel
theorem dX10_fits_30 : decode cX10_fits 30 = .ok (.aload_n 0, 1) := by decide +kernel
theorem dX10_fits_31 : decode cX10_fits 31 = .ok (.getfield 69, 3) := by decide +kernel
theorem dX10_fits_34 : decode cX10_fits 34 = .ok (.invokevirtual 211, 3) := by decide +kernel
theorem dX10_fits_37 : decode cX10_fits 37 = .ok (.aload_n 0, 1) := by decide +kernel
theorem dX10_fits_38 : decode cX10_fits 38 = .ok (.getfield 62, 3) := by decide +kernel
theorem dX10_fits_41 : decode cX10_fits 41 = .ok (.aload_n 0, 1) := by decide +kernel
theorem dX10_fits_42 : decode cX10_fits 42 = .ok (.getfield 46, 3) := by decide +kernel
theorem dX10_fits_45 : decode cX10_fits 45 = .ok (.iload_n 1, 1) := by decide +kernel
theorem dX10_fits_46 : decode cX10_fits 46 = .ok (.iconst 0, 1) := by decide +kernel
theorem dX10_fits_47 : decode cX10_fits 47 = .ok (.invokevirtual 273, 3) := by decide +kernel
theorem dX10_fits_50 : decode cX10_fits 50 = .ok (.iload_n 2, 1) := by decide +kernel
theorem dX10_fits_51 : decode cX10_fits 51 = .ok (.ifCond .ne 11, 3) := by decide +kernel
theorem dX10_fits_54 : decode cX10_fits 54 = .ok (.aload_n 0, 1) := by decide +kernel
theorem dX10_fits_55 : decode cX10_fits 55 = .ok (.getfield 62, 3) := by decide +kernel
theorem dX10_fits_58 : decode cX10_fits 58 = .ok (.getfield 277, 3) := by decide +kernel
theorem dX10_fits_61 : decode cX10_fits 61 = .ok (.ireturn, 1) := by decide +kernel
theorem dX10_fits_62 : decode cX10_fits 62 = .ok (.aload_n 0, 1) := by decide +kernel
theorem dX10_fits_63 : decode cX10_fits 63 = .ok (.getfield 62, 3) := by decide +kernel
theorem dX10_fits_66 : decode cX10_fits 66 = .ok (.getfield 277, 3) := by decide +kernel
theorem dX10_fits_69 : decode cX10_fits 69 = .ok (.ifCond .ne 8, 3) := by decide +kernel
theorem dX10_fits_72 : decode cX10_fits 72 = .ok (.bipush (-2), 2) := by decide +kernel
theorem dX10_fits_74 : decode cX10_fits 74 = .ok (.goto 10, 3) := by decide +kernel
theorem dX10_fits_77 : decode cX10_fits 77 = .ok (.aload_n 0, 1) := by decide +kernel
theorem dX10_fits_78 : decode cX10_fits 78 = .ok (.getfield 62, 3) := by decide +kernel
theorem dX10_fits_81 : decode cX10_fits 81 = .ok (.getfield 280, 3) := by decide +kernel
theorem dX10_fits_84 : decode cX10_fits 84 = .ok (.ireturn, 1) := by decide +kernel
theorem dX10_ask_0 : decode cX10_ask 0 = .ok (.iload_n 1, 1) := by decide +kernel
theorem dX10_ask_1 : decode cX10_ask 1 = .ok (.ifCond .lt 25, 3) := by decide +kernel
theorem dX10_ask_4 : decode cX10_ask 4 = .ok (.iload_n 1, 1) := by decide +kernel
theorem dX10_ask_5 : decode cX10_ask 5 = .ok (.aload_n 0, 1) := by decide +kernel
theorem dX10_ask_6 : decode cX10_ask 6 = .ok (.getfield 62, 3) := by decide +kernel
theorem dX10_ask_9 : decode cX10_ask 9 = .ok (.getfield 112, 3) := by decide +kernel
theorem dX10_ask_12 : decode cX10_ask 12 = .ok (.if_icmp .gt 14, 3) := by decide +kernel
theorem dX10_ask_15 : decode cX10_ask 15 = .ok (.iload_n 2, 1) := by decide +kernel
theorem dX10_ask_16 : decode cX10_ask 16 = .ok (.ifCond .lt 10, 3) := by decide +kernel
theorem dX10_ask_19 : decode cX10_ask 19 = .ok (.iload_n 2, 1) := by decide +kernel
theorem dX10_ask_20 : decode cX10_ask 20 = .ok (.sipush 999, 3) := by decide +kernel
theorem dX10_ask_23 : decode cX10_ask 23 = .ok (.if_icmp .le 5, 3) := by decide +kernel
theorem dX10_ask_26 : decode cX10_ask 26 = .ok (.iconst (-1), 1) := by decide +kernel
theorem dX10_ask_27 : decode cX10_ask 27 = .ok (.ireturn, 1) := by decide +kernel
theorem dX10_ask_28 : decode cX10_ask 28 = .ok (.aload_n 0, 1) := by decide +kernel
theorem dX10_ask_29 : decode cX10_ask 29 = .ok (.getfield 46, 3) := by decide +kernel
theorem dX10_ask_32 : decode cX10_ask 32 = .ok (.aload_n 0, 1) := by decide +kernel
theorem dX10_ask_33 : decode cX10_ask 33 = .ok (.getfield 69, 3) := by decide +kernel
theorem dX10_ask_36 : decode cX10_ask 36 = .ok (.invokevirtual 211, 3) := by decide +kernel
theorem dX10_ask_39 : decode cX10_ask 39 = .ok (.aload_n 0, 1) := by decide +kernel
theorem dX10_ask_40 : decode cX10_ask 40 = .ok (.getfield 62, 3) := by decide +kernel
theorem dX10_ask_43 : decode cX10_ask 43 = .ok (.aload_n 0, 1) := by decide +kernel
theorem dX10_ask_44 : decode cX10_ask 44 = .ok (.getfield 46, 3) := by decide +kernel
theorem dX10_ask_47 : decode cX10_ask 47 = .ok (.iload_n 1, 1) := by decide +kernel
theorem dX10_ask_48 : decode cX10_ask 48 = .ok (.iload_n 2, 1) := by decide +kernel
theorem dX10_ask_49 : decode cX10_ask 49 = .ok (.invokevirtual 273, 3) := by decide +kernel
theorem dX10_ask_52 : decode cX10_ask 52 = .ok (.aload_n 0, 1) := by decide +kernel
theorem dX10_ask_53 : decode cX10_ask 53 = .ok (.getfield 62, 3) := by decide +kernel
theorem dX10_ask_56 : decode cX10_ask 56 = .ok (.getfield 277, 3) := by decide +kernel
theorem dX10_ask_59 : decode cX10_ask 59 = .ok (.ifCond .ne 8, 3) := by decide +kernel
theorem dX10_ask_62 : decode cX10_ask 62 = .ok (.bipush (-2), 2) := by decide +kernel
theorem dX10_ask_64 : decode cX10_ask 64 = .ok (.goto 17, 3) := by decide +kernel
theorem dX10_ask_67 : decode cX10_ask 67 = .ok (.aload_n 0, 1) := by decide +kernel
theorem dX10_ask_68 : decode cX10_ask 68 = .ok (.getfield 62, 3) := by decide +kernel
theorem dX10_ask_71 : decode cX10_ask 71 = .ok (.aload_n 0, 1) := by decide +kernel
theorem dX10_ask_72 : decode cX10_ask 72 = .ok (.getfield 69, 3) := by decide +kernel
theorem dX10_ask_75 : decode cX10_ask 75 = .ok (.getfield 208, 3) := by decide +kernel
theorem dX10_ask_78 : decode cX10_ask 78 = .ok (.invokevirtual 283, 3) := by decide +kernel
theorem dX10_ask_81 : decode cX10_ask 81 = .ok (.ireturn, 1) := by decide +kernel
theorem dX10_hold_0 : decode cX10_hold 0 = .ok (.iload_n 1, 1) := by decide +kernel
theorem dX10_hold_1 : decode cX10_hold 1 = .ok (.ifCond .lt 8, 3) := by decide +kernel
theorem dX10_hold_4 : decode cX10_hold 4 = .ok (.iload_n 1, 1) := by decide +kernel
theorem dX10_hold_5 : decode cX10_hold 5 = .ok (.iconst 3, 1) := by decide +kernel
theorem dX10_hold_6 : decode cX10_hold 6 = .ok (.if_icmp .lt 5, 3) := by decide +kernel
theorem dX10_hold_9 : decode cX10_hold 9 = .ok (.iconst 0, 1) := by decide +kernel
theorem dX10_hold_10 : decode cX10_hold 10 = .ok (.ireturn, 1) := by decide +kernel
theorem dX10_hold_11 : decode cX10_hold 11 = .ok (.aload_n 0, 1) := by decide +kernel
theorem dX10_hold_12 : decode cX10_hold 12 = .ok (.getfield 80, 3) := by decide +kernel
theorem dX10_hold_15 : decode cX10_hold 15 = .ok (.iload_n 1, 1) := by decide +kernel
theorem dX10_hold_16 : decode cX10_hold 16 = .ok (.aaload, 1) := by decide +kernel
theorem dX10_hold_17 : decode cX10_hold 17 = .ok (.aload_n 0, 1) := by decide +kernel
theorem dX10_hold_18 : decode cX10_hold 18 = .ok (.getfield 69, 3) := by decide +kernel
theorem dX10_hold_21 : decode cX10_hold 21 = .ok (.invokevirtual 286, 3) := by decide +kernel
theorem dX10_hold_24 : decode cX10_hold 24 = .ok (.aload_n 0, 1) := by decide +kernel
theorem dX10_hold_25 : decode cX10_hold 25 = .ok (.dup, 1) := by decide +kernel
theorem dX10_hold_26 : decode cX10_hold 26 = .ok (.getfield 113, 3) := by decide +kernel
theorem dX10_hold_29 : decode cX10_hold 29 = .ok (.iconst 1, 1) := by decide +kernel
theorem dX10_hold_30 : decode cX10_hold 30 = .ok (.iload_n 1, 1) := by decide +kernel
theorem dX10_hold_31 : decode cX10_hold 31 = .ok (.ishl, 1) := by decide +kernel
theorem dX10_hold_32 : decode cX10_hold 32 = .ok (.ior, 1) := by decide +kernel
theorem dX10_hold_33 : decode cX10_hold 33 = .ok (.putfield 113, 3) := by decide +kernel
theorem dX10_hold_36 : decode cX10_hold 36 = .ok (.iconst 1, 1) := by decide +kernel
theorem dX10_hold_37 : decode cX10_hold 37 = .ok (.ireturn, 1) := by decide +kernel
theorem dX10_restore_0 : decode cX10_restore 0 = .ok (.iload_n 1, 1) := by decide +kernel
theorem dX10_restore_1 : decode cX10_restore 1 = .ok (.ifCond .lt 19, 3) := by decide +kernel
theorem dX10_restore_4 : decode cX10_restore 4 = .ok (.iload_n 1, 1) := by decide +kernel
theorem dX10_restore_5 : decode cX10_restore 5 = .ok (.iconst 3, 1) := by decide +kernel
theorem dX10_restore_6 : decode cX10_restore 6 = .ok (.if_icmp .ge 14, 3) := by decide +kernel
theorem dX10_restore_9 : decode cX10_restore 9 = .ok (.aload_n 0, 1) := by decide +kernel
theorem dX10_restore_10 : decode cX10_restore 10 = .ok (.getfield 113, 3) := by decide +kernel
theorem dX10_restore_13 : decode cX10_restore 13 = .ok (.iload_n 1, 1) := by decide +kernel
theorem dX10_restore_14 : decode cX10_restore 14 = .ok (.ishr, 1) := by decide +kernel
theorem dX10_restore_15 : decode cX10_restore 15 = .ok (.iconst 1, 1) := by decide +kernel
theorem dX10_restore_16 : decode cX10_restore 16 = .ok (.iand, 1) := by decide +kernel
theorem dX10_restore_17 : decode cX10_restore 17 = .ok (.ifCond .ne 5, 3) := by decide +kernel
theorem dX10_restore_20 : decode cX10_restore 20 = .ok (.iconst 0, 1) := by decide +kernel
theorem dX10_restore_21 : decode cX10_restore 21 = .ok (.ireturn, 1) := by decide +kernel
theorem dX10_restore_22 : decode cX10_restore 22 = .ok (.aload_n 0, 1) := by decide +kernel
theorem dX10_restore_23 : decode cX10_restore 23 = .ok (.getfield 69, 3) := by decide +kernel
theorem dX10_restore_26 : decode cX10_restore 26 = .ok (.aload_n 0, 1) := by decide +kernel
theorem dX10_restore_27 : decode cX10_restore 27 = .ok (.getfield 80, 3) := by decide +kernel
theorem dX10_restore_30 : decode cX10_restore 30 = .ok (.iload_n 1, 1) := by decide +kernel
theorem dX10_restore_31 : decode cX10_restore 31 = .ok (.aaload, 1) := by decide +kernel
theorem dX10_restore_32 : decode cX10_restore 32 = .ok (.invokevirtual 286, 3) := by decide +kernel
theorem dX10_restore_35 : decode cX10_restore 35 = .ok (.aload_n 0, 1) := by decide +kernel
theorem dX10_restore_36 : decode cX10_restore 36 = .ok (.getfield 76, 3) := by decide +kernel
theorem dX10_restore_39 : decode cX10_restore 39 = .ok (.iconst 0, 1) := by decide +kernel
theorem dX10_restore_40 : decode cX10_restore 40 = .ok (.putfield 109, 3) := by decide +kernel
theorem dX10_restore_43 : decode cX10_restore 43 = .ok (.iconst 1, 1) := by decide +kernel
theorem dX10_restore_44 : decode cX10_restore 44 = .ok (.ireturn, 1) := by decide +kernel
theorem dX10_count_0 : decode cX10_count 0 = .ok (.iload_n 1, 1) := by decide +kernel
theorem dX10_count_1 : decode cX10_count 1 = .ok (.tableswitch 267 0 18 #[91, 99, 107, 115, 123, 135, 146, 154, 165, 173, 181, 189, 197, 205, 218, 230, 235, 247, 262], 91) := by decide +kernel
theorem dX10_count_92 : decode cX10_count 92 = .ok (.aload_n 0, 1) := by decide +kernel
theorem dX10_count_93 : decode cX10_count 93 = .ok (.getfield 19, 3) := by decide +kernel
theorem dX10_count_96 : decode cX10_count 96 = .ok (.getfield 288, 3) := by decide +kernel
theorem dX10_count_99 : decode cX10_count 99 = .ok (.ireturn, 1) := by decide +kernel
theorem dX10_count_100 : decode cX10_count 100 = .ok (.aload_n 0, 1) := by decide +kernel
theorem dX10_count_101 : decode cX10_count 101 = .ok (.getfield 69, 3) := by decide +kernel
theorem dX10_count_104 : decode cX10_count 104 = .ok (.getfield 208, 3) := by decide +kernel
theorem dX10_count_107 : decode cX10_count 107 = .ok (.ireturn, 1) := by decide +kernel
theorem dX10_count_108 : decode cX10_count 108 = .ok (.aload_n 0, 1) := by decide +kernel
theorem dX10_count_109 : decode cX10_count 109 = .ok (.getfield 69, 3) := by decide +kernel
theorem dX10_count_112 : decode cX10_count 112 = .ok (.getfield 201, 3) := by decide +kernel
theorem dX10_count_115 : decode cX10_count 115 = .ok (.ireturn, 1) := by decide +kernel
theorem dX10_count_116 : decode cX10_count 116 = .ok (.aload_n 0, 1) := by decide +kernel
theorem dX10_count_117 : decode cX10_count 117 = .ok (.getfield 69, 3) := by decide +kernel
theorem dX10_count_120 : decode cX10_count 120 = .ok (.getfield 263, 3) := by decide +kernel
theorem dX10_count_123 : decode cX10_count 123 = .ok (.ireturn, 1) := by decide +kernel
theorem dX10_count_124 : decode cX10_count 124 = .ok (.aload_n 0, 1) := by decide +kernel
theorem dX10_count_125 : decode cX10_count 125 = .ok (.getfield 37, 3) := by decide +kernel
theorem dX10_count_128 : decode cX10_count 128 = .ok (.aload_n 0, 1) := by decide +kernel
theorem dX10_count_129 : decode cX10_count 129 = .ok (.getfield 69, 3) := by decide +kernel
theorem dX10_count_132 : decode cX10_count 132 = .ok (.invokevirtual 291, 3) := by decide +kernel
theorem dX10_count_135 : decode cX10_count 135 = .ok (.ireturn, 1) := by decide +kernel
theorem dX10_count_136 : decode cX10_count 136 = .ok (.aload_n 0, 1) := by decide +kernel
theorem dX10_count_137 : decode cX10_count 137 = .ok (.getfield 69, 3) := by decide +kernel
theorem dX10_count_140 : decode cX10_count 140 = .ok (.getfield 134, 3) := by decide +kernel
theorem dX10_count_143 : decode cX10_count 143 = .ok (.invokestatic 294, 3) := by decide +kernel
theorem dX10_count_146 : decode cX10_count 146 = .ok (.ireturn, 1) := by decide +kernel
theorem dX10_count_147 : decode cX10_count 147 = .ok (.aload_n 0, 1) := by decide +kernel
theorem dX10_count_148 : decode cX10_count 148 = .ok (.getfield 69, 3) := by decide +kernel
theorem dX10_count_151 : decode cX10_count 151 = .ok (.getfield 298, 3) := by decide +kernel
theorem dX10_count_154 : decode cX10_count 154 = .ok (.ireturn, 1) := by decide +kernel
theorem dX10_count_155 : decode cX10_count 155 = .ok (.aload_n 0, 1) := by decide +kernel
theorem dX10_count_156 : decode cX10_count 156 = .ok (.getfield 69, 3) := by decide +kernel
theorem dX10_count_159 : decode cX10_count 159 = .ok (.getfield 124, 3) := by decide +kernel
theorem dX10_count_162 : decode cX10_count 162 = .ok (.invokestatic 294, 3) := by decide +kernel
theorem dX10_count_165 : decode cX10_count 165 = .ok (.ireturn, 1) := by decide +kernel
theorem dX10_count_166 : decode cX10_count 166 = .ok (.aload_n 0, 1) := by decide +kernel
theorem dX10_count_167 : decode cX10_count 167 = .ok (.getfield 10, 3) := by decide +kernel
theorem dX10_count_170 : decode cX10_count 170 = .ok (.getfield 88, 3) := by decide +kernel
theorem dX10_count_173 : decode cX10_count 173 = .ok (.ireturn, 1) := by decide +kernel
theorem dX10_count_174 : decode cX10_count 174 = .ok (.aload_n 0, 1) := by decide +kernel
theorem dX10_count_175 : decode cX10_count 175 = .ok (.getfield 76, 3) := by decide +kernel
theorem dX10_count_178 : decode cX10_count 178 = .ok (.getfield 109, 3) := by decide +kernel
theorem dX10_count_181 : decode cX10_count 181 = .ok (.ireturn, 1) := by decide +kernel
theorem dX10_count_182 : decode cX10_count 182 = .ok (.aload_n 0, 1) := by decide +kernel
theorem dX10_count_183 : decode cX10_count 183 = .ok (.getfield 62, 3) := by decide +kernel
theorem dX10_count_186 : decode cX10_count 186 = .ok (.getfield 112, 3) := by decide +kernel
theorem dX10_count_189 : decode cX10_count 189 = .ok (.ireturn, 1) := by decide +kernel
theorem dX10_count_190 : decode cX10_count 190 = .ok (.aload_n 0, 1) := by decide +kernel
theorem dX10_count_191 : decode cX10_count 191 = .ok (.getfield 113, 3) := by decide +kernel
theorem dX10_count_194 : decode cX10_count 194 = .ok (.invokestatic 301, 3) := by decide +kernel
theorem dX10_count_197 : decode cX10_count 197 = .ok (.ireturn, 1) := by decide +kernel
theorem dX10_count_198 : decode cX10_count 198 = .ok (.aload_n 0, 1) := by decide +kernel
theorem dX10_count_199 : decode cX10_count 199 = .ok (.getfield 69, 3) := by decide +kernel
theorem dX10_count_202 : decode cX10_count 202 = .ok (.getfield 306, 3) := by decide +kernel
theorem dX10_count_205 : decode cX10_count 205 = .ok (.ireturn, 1) := by decide +kernel
theorem dX10_count_206 : decode cX10_count 206 = .ok (.aload_n 0, 1) := by decide +kernel
theorem dX10_count_207 : decode cX10_count 207 = .ok (.invokevirtual 309, 3) := by decide +kernel
theorem dX10_count_210 : decode cX10_count 210 = .ok (.ifCond .eq 7, 3) := by decide +kernel
theorem dX10_count_213 : decode cX10_count 213 = .ok (.iconst 1, 1) := by decide +kernel
theorem dX10_count_214 : decode cX10_count 214 = .ok (.goto 4, 3) := by decide +kernel
theorem dX10_count_217 : decode cX10_count 217 = .ok (.iconst 0, 1) := by decide +kernel
theorem dX10_count_218 : decode cX10_count 218 = .ok (.ireturn, 1) := by decide +kernel
theorem dX10_count_219 : decode cX10_count 219 = .ok (.aload_n 0, 1) := by decide +kernel
theorem dX10_count_220 : decode cX10_count 220 = .ok (.getfield 37, 3) := by decide +kernel
theorem dX10_count_223 : decode cX10_count 223 = .ok (.aload_n 0, 1) := by decide +kernel
theorem dX10_count_224 : decode cX10_count 224 = .ok (.getfield 69, 3) := by decide +kernel
theorem dX10_count_227 : decode cX10_count 227 = .ok (.invokevirtual 313, 3) := by decide +kernel
theorem dX10_count_230 : decode cX10_count 230 = .ok (.ireturn, 1) := by decide +kernel
theorem dX10_count_231 : decode cX10_count 231 = .ok (.aload_n 0, 1) := by decide +kernel
theorem dX10_count_232 : decode cX10_count 232 = .ok (.invokevirtual 316, 3) := by decide +kernel
theorem dX10_count_235 : decode cX10_count 235 = .ok (.ireturn, 1) := by decide +kernel
theorem dX10_count_236 : decode cX10_count 236 = .ok (.aload_n 0, 1) := by decide +kernel
theorem dX10_count_237 : decode cX10_count 237 = .ok (.getfield 37, 3) := by decide +kernel
theorem dX10_count_240 : decode cX10_count 240 = .ok (.aload_n 0, 1) := by decide +kernel
theorem dX10_count_241 : decode cX10_count 241 = .ok (.getfield 69, 3) := by decide +kernel
theorem dX10_count_244 : decode cX10_count 244 = .ok (.invokevirtual 319, 3) := by decide +kernel
theorem dX10_count_247 : decode cX10_count 247 = .ok (.ireturn, 1) := by decide +kernel
theorem dX10_count_248 : decode cX10_count 248 = .ok (.aload_n 0, 1) := by decide +kernel
theorem dX10_count_249 : decode cX10_count 249 = .ok (.getfield 55, 3) := by decide +kernel
theorem dX10_count_252 : decode cX10_count 252 = .ok (.aload_n 0, 1) := by decide +kernel
theorem dX10_count_253 : decode cX10_count 253 = .ok (.getfield 69, 3) := by decide +kernel
theorem dX10_count_256 : decode cX10_count 256 = .ok (.invokevirtual 249, 3) := by decide +kernel
theorem dX10_count_259 : decode cX10_count 259 = .ok (.invokestatic 301, 3) := by decide +kernel
theorem dX10_count_262 : decode cX10_count 262 = .ok (.ireturn, 1) := by decide +kernel
theorem dX10_count_263 : decode cX10_count 263 = .ok (.aload_n 0, 1) := by decide +kernel
theorem dX10_count_264 : decode cX10_count 264 = .ok (.invokevirtual 322, 3) := by decide +kernel
theorem dX10_count_267 : decode cX10_count 267 = .ok (.ireturn, 1) := by decide +kernel
theorem dX10_count_268 : decode cX10_count 268 = .ok (.iconst (-1), 1) := by decide +kernel
theorem dX10_count_269 : decode cX10_count 269 = .ok (.ireturn, 1) := by decide +kernel
theorem dX10_added_0 : decode cX10_added 0 = .ok (.iconst 0, 1) := by decide +kernel
theorem dX10_added_1 : decode cX10_added 1 = .ok (.istore_n 1, 1) := by decide +kernel
theorem dX10_added_2 : decode cX10_added 2 = .ok (.aload_n 0, 1) := by decide +kernel
theorem dX10_added_3 : decode cX10_added 3 = .ok (.astore_n 2, 1) := by decide +kernel
theorem dX10_added_4 : decode cX10_added 4 = .ok (.aload_n 2, 1) := by decide +kernel
theorem dX10_added_5 : decode cX10_added 5 = .ok (.arraylength, 1) := by decide +kernel
theorem dX10_added_6 : decode cX10_added 6 = .ok (.istore_n 3, 1) := by decide +kernel
theorem dX10_added_7 : decode cX10_added 7 = .ok (.iconst 0, 1) := by decide +kernel
theorem dX10_added_8 : decode cX10_added 8 = .ok (.istore 4, 2) := by decide +kernel
theorem dX10_added_10 : decode cX10_added 10 = .ok (.iload 4, 2) := by decide +kernel
theorem dX10_added_12 : decode cX10_added 12 = .ok (.iload_n 3, 1) := by decide +kernel
theorem dX10_added_13 : decode cX10_added 13 = .ok (.if_icmp .ge 20, 3) := by decide +kernel
theorem dX10_added_16 : decode cX10_added 16 = .ok (.aload_n 2, 1) := by decide +kernel
theorem dX10_added_17 : decode cX10_added 17 = .ok (.iload 4, 2) := by decide +kernel
theorem dX10_added_19 : decode cX10_added 19 = .ok (.iaload, 1) := by decide +kernel
theorem dX10_added_20 : decode cX10_added 20 = .ok (.istore 5, 2) := by decide +kernel
theorem dX10_added_22 : decode cX10_added 22 = .ok (.iload_n 1, 1) := by decide +kernel
theorem dX10_added_23 : decode cX10_added 23 = .ok (.iload 5, 2) := by decide +kernel
theorem dX10_added_25 : decode cX10_added 25 = .ok (.iadd, 1) := by decide +kernel
theorem dX10_added_26 : decode cX10_added 26 = .ok (.istore_n 1, 1) := by decide +kernel
theorem dX10_added_27 : decode cX10_added 27 = .ok (.iinc 4 1, 3) := by decide +kernel
theorem dX10_added_30 : decode cX10_added 30 = .ok (.goto (-20), 3) := by decide +kernel
theorem dX10_added_33 : decode cX10_added 33 = .ok (.iload_n 1, 1) := by decide +kernel
theorem dX10_added_34 : decode cX10_added 34 = .ok (.ireturn, 1) := by decide +kernel
theorem dX10_isAtRest_0 : decode cX10_isAtRest 0 = .ok (.aload_n 0, 1) := by decide +kernel
theorem dX10_isAtRest_1 : decode cX10_isAtRest 1 = .ok (.getfield 46, 3) := by decide +kernel
theorem dX10_isAtRest_4 : decode cX10_isAtRest 4 = .ok (.aload_n 0, 1) := by decide +kernel
theorem dX10_isAtRest_5 : decode cX10_isAtRest 5 = .ok (.getfield 69, 3) := by decide +kernel
theorem dX10_isAtRest_8 : decode cX10_isAtRest 8 = .ok (.invokevirtual 226, 3) := by decide +kernel
theorem dX10_isAtRest_11 : decode cX10_isAtRest 11 = .ok (.aload_n 0, 1) := by decide +kernel
theorem dX10_isAtRest_12 : decode cX10_isAtRest 12 = .ok (.getfield 46, 3) := by decide +kernel
theorem dX10_isAtRest_15 : decode cX10_isAtRest 15 = .ok (.invokevirtual 325, 3) := by decide +kernel
theorem dX10_isAtRest_18 : decode cX10_isAtRest 18 = .ok (.ireturn, 1) := by decide +kernel
theorem dX10_unlisted_0 : decode cX10_unlisted 0 = .ok (.iconst 0, 1) := by decide +kernel
theorem dX10_unlisted_1 : decode cX10_unlisted 1 = .ok (.istore_n 1, 1) := by decide +kernel
theorem dX10_unlisted_2 : decode cX10_unlisted 2 = .ok (.iconst 0, 1) := by decide +kernel
theorem dX10_unlisted_3 : decode cX10_unlisted 3 = .ok (.istore_n 2, 1) := by decide +kernel
theorem dX10_unlisted_4 : decode cX10_unlisted 4 = .ok (.iload_n 2, 1) := by decide +kernel
theorem dX10_unlisted_5 : decode cX10_unlisted 5 = .ok (.aload_n 0, 1) := by decide +kernel
theorem dX10_unlisted_6 : decode cX10_unlisted 6 = .ok (.getfield 19, 3) := by decide +kernel
theorem dX10_unlisted_9 : decode cX10_unlisted 9 = .ok (.getfield 288, 3) := by decide +kernel
theorem dX10_unlisted_12 : decode cX10_unlisted 12 = .ok (.if_icmp .ge 26, 3) := by decide +kernel
theorem dX10_unlisted_15 : decode cX10_unlisted 15 = .ok (.aload_n 0, 1) := by decide +kernel
theorem dX10_unlisted_16 : decode cX10_unlisted 16 = .ok (.getfield 69, 3) := by decide +kernel
theorem dX10_unlisted_19 : decode cX10_unlisted 19 = .ok (.iload_n 2, 1) := by decide +kernel
theorem dX10_unlisted_20 : decode cX10_unlisted 20 = .ok (.invokevirtual 127, 3) := by decide +kernel
theorem dX10_unlisted_23 : decode cX10_unlisted 23 = .ok (.ifCond .ne 9, 3) := by decide +kernel
theorem dX10_unlisted_26 : decode cX10_unlisted 26 = .ok (.iload_n 1, 1) := by decide +kernel
theorem dX10_unlisted_27 : decode cX10_unlisted 27 = .ok (.iconst 1, 1) := by decide +kernel
theorem dX10_unlisted_28 : decode cX10_unlisted 28 = .ok (.iload_n 2, 1) := by decide +kernel
theorem dX10_unlisted_29 : decode cX10_unlisted 29 = .ok (.ishl, 1) := by decide +kernel
theorem dX10_unlisted_30 : decode cX10_unlisted 30 = .ok (.ior, 1) := by decide +kernel
theorem dX10_unlisted_31 : decode cX10_unlisted 31 = .ok (.istore_n 1, 1) := by decide +kernel
theorem dX10_unlisted_32 : decode cX10_unlisted 32 = .ok (.iinc 2 1, 3) := by decide +kernel
theorem dX10_unlisted_35 : decode cX10_unlisted 35 = .ok (.goto (-31), 3) := by decide +kernel
theorem dX10_unlisted_38 : decode cX10_unlisted 38 = .ok (.iload_n 1, 1) := by decide +kernel
theorem dX10_unlisted_39 : decode cX10_unlisted 39 = .ok (.ireturn, 1) := by decide +kernel
theorem dX10_spared_0 : decode cX10_spared 0 = .ok (.aload_n 0, 1) := by decide +kernel
theorem dX10_spared_1 : decode cX10_spared 1 = .ok (.getfield 46, 3) := by decide +kernel
theorem dX10_spared_4 : decode cX10_spared 4 = .ok (.aload_n 0, 1) := by decide +kernel
theorem dX10_spared_5 : decode cX10_spared 5 = .ok (.getfield 69, 3) := by decide +kernel
theorem dX10_spared_8 : decode cX10_spared 8 = .ok (.invokevirtual 211, 3) := by decide +kernel
theorem dX10_spared_11 : decode cX10_spared 11 = .ok (.aload_n 0, 1) := by decide +kernel
theorem dX10_spared_12 : decode cX10_spared 12 = .ok (.getfield 46, 3) := by decide +kernel
theorem dX10_spared_15 : decode cX10_spared 15 = .ok (.iconst 0, 1) := by decide +kernel
theorem dX10_spared_16 : decode cX10_spared 16 = .ok (.invokevirtual 214, 3) := by decide +kernel
theorem dX10_spared_19 : decode cX10_spared 19 = .ok (.aload_n 0, 1) := by decide +kernel
theorem dX10_spared_20 : decode cX10_spared 20 = .ok (.getfield 37, 3) := by decide +kernel
theorem dX10_spared_23 : decode cX10_spared 23 = .ok (.aload_n 0, 1) := by decide +kernel
theorem dX10_spared_24 : decode cX10_spared 24 = .ok (.getfield 69, 3) := by decide +kernel
theorem dX10_spared_27 : decode cX10_spared 27 = .ok (.invokevirtual 291, 3) := by decide +kernel
theorem dX10_spared_30 : decode cX10_spared 30 = .ok (.aload_n 0, 1) := by decide +kernel
theorem dX10_spared_31 : decode cX10_spared 31 = .ok (.getfield 46, 3) := by decide +kernel
theorem dX10_spared_34 : decode cX10_spared 34 = .ok (.getfield 217, 3) := by decide +kernel
theorem dX10_spared_37 : decode cX10_spared 37 = .ok (.isub, 1) := by decide +kernel
theorem dX10_spared_38 : decode cX10_spared 38 = .ok (.ireturn, 1) := by decide +kernel
theorem dX11_init_0 : decode cX11_init 0 = .ok (.aload_n 0, 1) := by decide +kernel
theorem dX11_init_1 : decode cX11_init 1 = .ok (.invokespecial 7, 3) := by decide +kernel
theorem dX11_init_4 : decode cX11_init 4 = .ok (.aload_n 0, 1) := by decide +kernel
theorem dX11_init_5 : decode cX11_init 5 = .ok (.sipush 2000, 3) := by decide +kernel
theorem dX11_init_8 : decode cX11_init 8 = .ok (.newarray .byte, 2) := by decide +kernel
theorem dX11_init_10 : decode cX11_init 10 = .ok (.putfield 13, 3) := by decide +kernel
theorem dX11_init_13 : decode cX11_init 13 = .ok (.aload_n 0, 1) := by decide +kernel
theorem dX11_init_14 : decode cX11_init 14 = .ok (.sipush 2000, 3) := by decide +kernel
theorem dX11_init_17 : decode cX11_init 17 = .ok (.newarray .byte, 2) := by decide +kernel
theorem dX11_init_19 : decode cX11_init 19 = .ok (.putfield 17, 3) := by decide +kernel
theorem dX11_init_22 : decode cX11_init 22 = .ok (.aload_n 0, 1) := by decide +kernel
theorem dX11_init_23 : decode cX11_init 23 = .ok (.sipush 403, 3) := by decide +kernel
theorem dX11_init_26 : decode cX11_init 26 = .ok (.newarray .int, 2) := by decide +kernel
theorem dX11_init_28 : decode cX11_init 28 = .ok (.putfield 20, 3) := by decide +kernel
theorem dX11_init_31 : decode cX11_init 31 = .ok (.aload_n 0, 1) := by decide +kernel
theorem dX11_init_32 : decode cX11_init 32 = .ok (.sipush 403, 3) := by decide +kernel
theorem dX11_init_35 : decode cX11_init 35 = .ok (.newarray .int, 2) := by decide +kernel
theorem dX11_init_37 : decode cX11_init 37 = .ok (.putfield 24, 3) := by decide +kernel
theorem dX11_init_40 : decode cX11_init 40 = .ok (.aload_n 0, 1) := by decide +kernel
theorem dX11_init_41 : decode cX11_init 41 = .ok (.sipush 403, 3) := by decide +kernel
theorem dX11_init_44 : decode cX11_init 44 = .ok (.newarray .int, 2) := by decide +kernel
theorem dX11_init_46 : decode cX11_init 46 = .ok (.putfield 27, 3) := by decide +kernel
theorem dX11_init_49 : decode cX11_init 49 = .ok (.aload_n 0, 1) := by decide +kernel
theorem dX11_init_50 : decode cX11_init 50 = .ok (.sipush 403, 3) := by decide +kernel
theorem dX11_init_53 : decode cX11_init 53 = .ok (.newarray .long, 2) := by decide +kernel
theorem dX11_init_55 : decode cX11_init 55 = .ok (.putfield 30, 3) := by decide +kernel
theorem dX11_init_58 : decode cX11_init 58 = .ok (.aload_n 0, 1) := by decide +kernel
theorem dX11_init_59 : decode cX11_init 59 = .ok (.bipush 19, 2) := by decide +kernel
theorem dX11_init_61 : decode cX11_init 61 = .ok (.newarray .long, 2) := by decide +kernel
theorem dX11_init_63 : decode cX11_init 63 = .ok (.putfield 34, 3) := by decide +kernel
theorem dX11_init_66 : decode cX11_init 66 = .ok (.aload_n 0, 1) := by decide +kernel
theorem dX11_init_67 : decode cX11_init 67 = .ok (.iconst (-1), 1) := by decide +kernel
theorem dX11_init_68 : decode cX11_init 68 = .ok (.putfield 37, 3) := by decide +kernel
theorem dX11_init_71 : decode cX11_init 71 = .ok (.aload_n 0, 1) := by decide +kernel
theorem dX11_init_72 : decode cX11_init 72 = .ok (.bipush 7, 2) := by decide +kernel
theorem dX11_init_74 : decode cX11_init 74 = .ok (.newarray .long, 2) := by decide +kernel
theorem dX11_init_76 : decode cX11_init 76 = .ok (.putfield 40, 3) := by decide +kernel
theorem dX11_init_79 : decode cX11_init 79 = .ok (.aload_n 0, 1) := by decide +kernel
theorem dX11_init_80 : decode cX11_init 80 = .ok (.iconst 2, 1) := by decide +kernel
theorem dX11_init_81 : decode cX11_init 81 = .ok (.newarray .int, 2) := by decide +kernel
theorem dX11_init_83 : decode cX11_init 83 = .ok (.putfield 43, 3) := by decide +kernel
theorem dX11_init_86 : decode cX11_init 86 = .ok (.aload_n 0, 1) := by decide +kernel
theorem dX11_init_87 : decode cX11_init 87 = .ok (.bipush 14, 2) := by decide +kernel
theorem dX11_init_89 : decode cX11_init 89 = .ok (.newarray .int, 2) := by decide +kernel
theorem dX11_init_91 : decode cX11_init 91 = .ok (.putfield 46, 3) := by decide +kernel
theorem dX11_init_94 : decode cX11_init 94 = .ok (.aload_n 0, 1) := by decide +kernel
theorem dX11_init_95 : decode cX11_init 95 = .ok (.bipush 14, 2) := by decide +kernel
theorem dX11_init_97 : decode cX11_init 97 = .ok (.newarray .int, 2) := by decide +kernel
theorem dX11_init_99 : decode cX11_init 99 = .ok (.putfield 49, 3) := by decide +kernel
theorem dX11_init_102 : decode cX11_init 102 = .ok (.aload_n 0, 1) := by decide +kernel
theorem dX11_init_103 : decode cX11_init 103 = .ok (.iconst 2, 1) := by decide +kernel
theorem dX11_init_104 : decode cX11_init 104 = .ok (.newarray .int, 2) := by decide +kernel
theorem dX11_init_106 : decode cX11_init 106 = .ok (.putfield 52, 3) := by decide +kernel
theorem dX11_init_109 : decode cX11_init 109 = .ok (.aload_n 0, 1) := by decide +kernel
theorem dX11_init_110 : decode cX11_init 110 = .ok (.iconst 2, 1) := by decide +kernel
theorem dX11_init_111 : decode cX11_init 111 = .ok (.newarray .int, 2) := by decide +kernel
theorem dX11_init_113 : decode cX11_init 113 = .ok (.putfield 55, 3) := by decide +kernel
theorem dX11_init_116 : decode cX11_init 116 = .ok (.aload_n 0, 1) := by decide +kernel
theorem dX11_init_117 : decode cX11_init 117 = .ok (.bipush 8, 2) := by decide +kernel
theorem dX11_init_119 : decode cX11_init 119 = .ok (.newarray .int, 2) := by decide +kernel
theorem dX11_init_121 : decode cX11_init 121 = .ok (.putfield 58, 3) := by decide +kernel
theorem dX11_init_124 : decode cX11_init 124 = .ok (.aload_n 0, 1) := by decide +kernel
theorem dX11_init_125 : decode cX11_init 125 = .ok (.bipush 8, 2) := by decide +kernel
theorem dX11_init_127 : decode cX11_init 127 = .ok (.newarray .int, 2) := by decide +kernel
theorem dX11_init_129 : decode cX11_init 129 = .ok (.putfield 61, 3) := by decide +kernel
theorem dX11_init_132 : decode cX11_init 132 = .ok (.aload_n 0, 1) := by decide +kernel
theorem dX11_init_133 : decode cX11_init 133 = .ok (.sipush 260, 3) := by decide +kernel
theorem dX11_init_136 : decode cX11_init 136 = .ok (.newarray .boolean, 2) := by decide +kernel
theorem dX11_init_138 : decode cX11_init 138 = .ok (.putfield 64, 3) := by decide +kernel
theorem dX11_init_141 : decode cX11_init 141 = .ok (.aload_n 0, 1) := by decide +kernel
theorem dX11_init_142 : decode cX11_init 142 = .ok (.sipush 260, 3) := by decide +kernel
theorem dX11_init_145 : decode cX11_init 145 = .ok (.newarray .int, 2) := by decide +kernel
theorem dX11_init_147 : decode cX11_init 147 = .ok (.putfield 68, 3) := by decide +kernel
theorem dX11_init_150 : decode cX11_init 150 = .ok (.aload_n 0, 1) := by decide +kernel
theorem dX11_init_151 : decode cX11_init 151 = .ok (.sipush 260, 3) := by decide +kernel
theorem dX11_init_154 : decode cX11_init 154 = .ok (.newarray .int, 2) := by decide +kernel
theorem dX11_init_156 : decode cX11_init 156 = .ok (.putfield 71, 3) := by decide +kernel
theorem dX11_init_159 : decode cX11_init 159 = .ok (.aload_n 0, 1) := by decide +kernel
theorem dX11_init_160 : decode cX11_init 160 = .ok (.sipush 260, 3) := by decide +kernel
theorem dX11_init_163 : decode cX11_init 163 = .ok (.newarray .int, 2) := by decide +kernel
theorem dX11_init_165 : decode cX11_init 165 = .ok (.putfield 74, 3) := by decide +kernel
theorem dX11_init_168 : decode cX11_init 168 = .ok (.aload_n 0, 1) := by decide +kernel
theorem dX11_init_169 : decode cX11_init 169 = .ok (.sipush 260, 3) := by decide +kernel
theorem dX11_init_172 : decode cX11_init 172 = .ok (.newarray .int, 2) := by decide +kernel
theorem dX11_init_174 : decode cX11_init 174 = .ok (.putfield 77, 3) := by decide +kernel
theorem dX11_init_177 : decode cX11_init 177 = .ok (.aload_n 0, 1) := by decide +kernel
theorem dX11_init_178 : decode cX11_init 178 = .ok (.sipush 840, 3) := by decide +kernel
theorem dX11_init_181 : decode cX11_init 181 = .ok (.newarray .int, 2) := by decide +kernel
theorem dX11_init_183 : decode cX11_init 183 = .ok (.putfield 80, 3) := by decide +kernel
theorem dX11_init_186 : decode cX11_init 186 = .ok (.aload_n 0, 1) := by decide +kernel
theorem dX11_init_187 : decode cX11_init 187 = .ok (.sipush 840, 3) := by decide +kernel
theorem dX11_init_190 : decode cX11_init 190 = .ok (.newarray .int, 2) := by decide +kernel
theorem dX11_init_192 : decode cX11_init 192 = .ok (.putfield 83, 3) := by decide +kernel
theorem dX11_init_195 : decode cX11_init 195 = .ok (.aload_n 0, 1) := by decide +kernel
theorem dX11_init_196 : decode cX11_init 196 = .ok (.bipush 64, 2) := by decide +kernel
theorem dX11_init_198 : decode cX11_init 198 = .ok (.newarray .int, 2) := by decide +kernel
theorem dX11_init_200 : decode cX11_init 200 = .ok (.putfield 86, 3) := by decide +kernel
theorem dX11_init_203 : decode cX11_init 203 = .ok (.aload_n 0, 1) := by decide +kernel
theorem dX11_init_204 : decode cX11_init 204 = .ok (.bipush 9, 2) := by decide +kernel
theorem dX11_init_206 : decode cX11_init 206 = .ok (.newarray .int, 2) := by decide +kernel
theorem dX11_init_208 : decode cX11_init 208 = .ok (.putfield 89, 3) := by decide +kernel
theorem dX11_init_211 : decode cX11_init 211 = .ok (.aload_n 0, 1) := by decide +kernel
theorem dX11_init_212 : decode cX11_init 212 = .ok (.sipush 400, 3) := by decide +kernel
theorem dX11_init_215 : decode cX11_init 215 = .ok (.newarray .int, 2) := by decide +kernel
theorem dX11_init_217 : decode cX11_init 217 = .ok (.putfield 92, 3) := by decide +kernel
theorem dX11_init_220 : decode cX11_init 220 = .ok (.aload_n 0, 1) := by decide +kernel
theorem dX11_init_221 : decode cX11_init 221 = .ok (.bipush 26, 2) := by decide +kernel
theorem dX11_init_223 : decode cX11_init 223 = .ok (.newarray .int, 2) := by decide +kernel
theorem dX11_init_225 : decode cX11_init 225 = .ok (.putfield 95, 3) := by decide +kernel
theorem dX11_init_228 : decode cX11_init 228 = .ok (.aload_n 0, 1) := by decide +kernel
theorem dX11_init_229 : decode cX11_init 229 = .ok (.bipush 26, 2) := by decide +kernel
theorem dX11_init_231 : decode cX11_init 231 = .ok (.newarray .int, 2) := by decide +kernel
theorem dX11_init_233 : decode cX11_init 233 = .ok (.putfield 98, 3) := by decide +kernel
theorem dX11_init_236 : decode cX11_init 236 = .ok (.aload_n 0, 1) := by decide +kernel
theorem dX11_init_237 : decode cX11_init 237 = .ok (.bipush 7, 2) := by decide +kernel
theorem dX11_init_239 : decode cX11_init 239 = .ok (.newarray .int, 2) := by decide +kernel
theorem dX11_init_241 : decode cX11_init 241 = .ok (.putfield 101, 3) := by decide +kernel
theorem dX11_init_244 : decode cX11_init 244 = .ok (.aload_n 0, 1) := by decide +kernel
theorem dX11_init_245 : decode cX11_init 245 = .ok (.sipush 1040, 3) := by decide +kernel
theorem dX11_init_248 : decode cX11_init 248 = .ok (.newarray .int, 2) := by decide +kernel
theorem dX11_init_250 : decode cX11_init 250 = .ok (.putfield 104, 3) := by decide +kernel
theorem dX11_init_253 : decode cX11_init 253 = .ok (.aload_n 0, 1) := by decide +kernel
theorem dX11_init_254 : decode cX11_init 254 = .ok (.bipush 7, 2) := by decide +kernel
theorem dX11_init_256 : decode cX11_init 256 = .ok (.newarray .int, 2) := by decide +kernel
theorem dX11_init_258 : decode cX11_init 258 = .ok (.putfield 107, 3) := by decide +kernel
theorem dX11_init_261 : decode cX11_init 261 = .ok (.aload_n 0, 1) := by decide +kernel
theorem dX11_init_262 : decode cX11_init 262 = .ok (.bipush 20, 2) := by decide +kernel
theorem dX11_init_264 : decode cX11_init 264 = .ok (.newarray .int, 2) := by decide +kernel
theorem dX11_init_266 : decode cX11_init 266 = .ok (.putfield 110, 3) := by decide +kernel
theorem dX11_init_269 : decode cX11_init 269 = .ok (.aload_n 0, 1) := by decide +kernel
theorem dX11_init_270 : decode cX11_init 270 = .ok (.bipush 20, 2) := by decide +kernel
theorem dX11_init_272 : decode cX11_init 272 = .ok (.newarray .int, 2) := by decide +kernel
theorem dX11_init_274 : decode cX11_init 274 = .ok (.putfield 113, 3) := by decide +kernel
theorem dX11_init_277 : decode cX11_init 277 = .ok (.aload_n 0, 1) := by decide +kernel
theorem dX11_init_278 : decode cX11_init 278 = .ok (.bipush 20, 2) := by decide +kernel
theorem dX11_init_280 : decode cX11_init 280 = .ok (.newarray .boolean, 2) := by decide +kernel
theorem dX11_init_282 : decode cX11_init 282 = .ok (.putfield 116, 3) := by decide +kernel
theorem dX11_init_285 : decode cX11_init 285 = .ok (.aload_n 0, 1) := by decide +kernel
theorem dX11_init_286 : decode cX11_init 286 = .ok (.bipush 7, 2) := by decide +kernel
theorem dX11_init_288 : decode cX11_init 288 = .ok (.newarray .int, 2) := by decide +kernel
theorem dX11_init_290 : decode cX11_init 290 = .ok (.putfield 119, 3) := by decide +kernel
theorem dX11_init_293 : decode cX11_init 293 = .ok (.aload_n 0, 1) := by decide +kernel
theorem dX11_init_294 : decode cX11_init 294 = .ok (.bipush 7, 2) := by decide +kernel
theorem dX11_init_296 : decode cX11_init 296 = .ok (.newarray .int, 2) := by decide +kernel
theorem dX11_init_298 : decode cX11_init 298 = .ok (.putfield 122, 3) := by decide +kernel
theorem dX11_init_301 : decode cX11_init 301 = .ok (.aload_n 0, 1) := by decide +kernel
theorem dX11_init_302 : decode cX11_init 302 = .ok (.iconst 3, 1) := by decide +kernel
theorem dX11_init_303 : decode cX11_init 303 = .ok (.newarray .boolean, 2) := by decide +kernel
theorem dX11_init_305 : decode cX11_init 305 = .ok (.putfield 125, 3) := by decide +kernel
theorem dX11_init_308 : decode cX11_init 308 = .ok (.aload_n 0, 1) := by decide +kernel
theorem dX11_init_309 : decode cX11_init 309 = .ok (.bipush 78, 2) := by decide +kernel
theorem dX11_init_311 : decode cX11_init 311 = .ok (.newarray .int, 2) := by decide +kernel
theorem dX11_init_313 : decode cX11_init 313 = .ok (.putfield 128, 3) := by decide +kernel
theorem dX11_init_316 : decode cX11_init 316 = .ok (.aload_n 0, 1) := by decide +kernel
theorem dX11_init_317 : decode cX11_init 317 = .ok (.iconst 0, 1) := by decide +kernel
theorem dX11_init_318 : decode cX11_init 318 = .ok (.invokevirtual 131, 3) := by decide +kernel
theorem dX11_init_321 : decode cX11_init 321 = .ok (.aload_n 0, 1) := by decide +kernel
theorem dX11_init_322 : decode cX11_init 322 = .ok (.iconst 1, 1) := by decide +kernel
theorem dX11_init_323 : decode cX11_init 323 = .ok (.invokevirtual 131, 3) := by decide +kernel
theorem dX11_init_326 : decode cX11_init 326 = .ok (.aload_n 0, 1) := by decide +kernel
theorem dX11_init_327 : decode cX11_init 327 = .ok (.getfield 34, 3) := by decide +kernel
theorem dX11_init_330 : decode cX11_init 330 = .ok (.iconst 0, 1) := by decide +kernel
theorem dX11_init_331 : decode cX11_init 331 = .ok (.bipush 99, 2) := by decide +kernel
theorem dX11_init_333 : decode cX11_init 333 = .ok (.bipush 97, 2) := by decide +kernel
theorem dX11_init_335 : decode cX11_init 335 = .ok (.bipush 115, 2) := by decide +kernel
theorem dX11_init_337 : decode cX11_init 337 = .ok (.bipush 101, 2) := by decide +kernel
theorem dX11_init_339 : decode cX11_init 339 = .ok (.iconst 0, 1) := by decide +kernel
theorem dX11_init_340 : decode cX11_init 340 = .ok (.iconst 0, 1) := by decide +kernel
theorem dX11_init_341 : decode cX11_init 341 = .ok (.iconst 0, 1) := by decide +kernel
theorem dX11_init_342 : decode cX11_init 342 = .ok (.invokestatic 135, 3) := by decide +kernel
theorem dX11_init_345 : decode cX11_init 345 = .ok (.lastore, 1) := by decide +kernel
theorem dX11_init_346 : decode cX11_init 346 = .ok (.aload_n 0, 1) := by decide +kernel
theorem dX11_init_347 : decode cX11_init 347 = .ok (.getfield 34, 3) := by decide +kernel
theorem dX11_init_350 : decode cX11_init 350 = .ok (.iconst 1, 1) := by decide +kernel
theorem dX11_init_351 : decode cX11_init 351 = .ok (.bipush 98, 2) := by decide +kernel
theorem dX11_init_353 : decode cX11_init 353 = .ok (.bipush 101, 2) := by decide +kernel
theorem dX11_init_355 : decode cX11_init 355 = .ok (.bipush 102, 2) := by decide +kernel
theorem dX11_init_357 : decode cX11_init 357 = .ok (.bipush 111, 2) := by decide +kernel
theorem dX11_init_359 : decode cX11_init 359 = .ok (.bipush 114, 2) := by decide +kernel
theorem dX11_init_361 : decode cX11_init 361 = .ok (.bipush 101, 2) := by decide +kernel
theorem dX11_init_363 : decode cX11_init 363 = .ok (.iconst 0, 1) := by decide +kernel
theorem dX11_init_364 : decode cX11_init 364 = .ok (.invokestatic 135, 3) := by decide +kernel
theorem dX11_init_367 : decode cX11_init 367 = .ok (.lastore, 1) := by decide +kernel
theorem dX11_init_368 : decode cX11_init 368 = .ok (.aload_n 0, 1) := by decide +kernel
theorem dX11_init_369 : decode cX11_init 369 = .ok (.getfield 34, 3) := by decide +kernel
theorem dX11_init_372 : decode cX11_init 372 = .ok (.iconst 2, 1) := by decide +kernel
theorem dX11_init_373 : decode cX11_init 373 = .ok (.bipush 100, 2) := by decide +kernel
theorem dX11_init_375 : decode cX11_init 375 = .ok (.bipush 111, 2) := by decide +kernel
theorem dX11_init_377 : decode cX11_init 377 = .ok (.bipush 111, 2) := by decide +kernel
theorem dX11_init_379 : decode cX11_init 379 = .ok (.bipush 109, 2) := by decide +kernel
theorem dX11_init_381 : decode cX11_init 381 = .ok (.iconst 0, 1) := by decide +kernel
theorem dX11_init_382 : decode cX11_init 382 = .ok (.iconst 0, 1) := by decide +kernel
theorem dX11_init_383 : decode cX11_init 383 = .ok (.iconst 0, 1) := by decide +kernel
theorem dX11_init_384 : decode cX11_init 384 = .ok (.invokestatic 135, 3) := by decide +kernel
theorem dX11_init_387 : decode cX11_init 387 = .ok (.lastore, 1) := by decide +kernel
theorem dX11_init_388 : decode cX11_init 388 = .ok (.aload_n 0, 1) := by decide +kernel
theorem dX11_init_389 : decode cX11_init 389 = .ok (.getfield 34, 3) := by decide +kernel
theorem dX11_init_392 : decode cX11_init 392 = .ok (.iconst 3, 1) := by decide +kernel
theorem dX11_init_393 : decode cX11_init 393 = .ok (.bipush 112, 2) := by decide +kernel
theorem dX11_init_395 : decode cX11_init 395 = .ok (.bipush 108, 2) := by decide +kernel
theorem dX11_init_397 : decode cX11_init 397 = .ok (.bipush 101, 2) := by decide +kernel
theorem dX11_init_399 : decode cX11_init 399 = .ok (.bipush 97, 2) := by decide +kernel
theorem dX11_init_401 : decode cX11_init 401 = .ok (.iconst 0, 1) := by decide +kernel
theorem dX11_init_402 : decode cX11_init 402 = .ok (.iconst 0, 1) := by decide +kernel
theorem dX11_init_403 : decode cX11_init 403 = .ok (.iconst 0, 1) := by decide +kernel
theorem dX11_init_404 : decode cX11_init 404 = .ok (.invokestatic 135, 3) := by decide +kernel
theorem dX11_init_407 : decode cX11_init 407 = .ok (.lastore, 1) := by decide +kernel
theorem dX11_init_408 : decode cX11_init 408 = .ok (.aload_n 0, 1) := by decide +kernel
theorem dX11_init_409 : decode cX11_init 409 = .ok (.getfield 34, 3) := by decide +kernel
theorem dX11_init_412 : decode cX11_init 412 = .ok (.iconst 4, 1) := by decide +kernel
theorem dX11_init_413 : decode cX11_init 413 = .ok (.bipush 102, 2) := by decide +kernel
theorem dX11_init_415 : decode cX11_init 415 = .ok (.bipush 101, 2) := by decide +kernel
theorem dX11_init_417 : decode cX11_init 417 = .ok (.bipush 101, 2) := by decide +kernel
theorem dX11_init_419 : decode cX11_init 419 = .ok (.iconst 0, 1) := by decide +kernel
theorem dX11_init_420 : decode cX11_init 420 = .ok (.iconst 0, 1) := by decide +kernel
theorem dX11_init_421 : decode cX11_init 421 = .ok (.iconst 0, 1) := by decide +kernel
theorem dX11_init_422 : decode cX11_init 422 = .ok (.iconst 0, 1) := by decide +kernel
theorem dX11_init_423 : decode cX11_init 423 = .ok (.invokestatic 135, 3) := by decide +kernel
theorem dX11_init_426 : decode cX11_init 426 = .ok (.lastore, 1) := by decide +kernel
theorem dX11_init_427 : decode cX11_init 427 = .ok (.aload_n 0, 1) := by decide +kernel
theorem dX11_init_428 : decode cX11_init 428 = .ok (.getfield 34, 3) := by decide +kernel
theorem dX11_init_431 : decode cX11_init 431 = .ok (.iconst 5, 1) := by decide +kernel
theorem dX11_init_432 : decode cX11_init 432 = .ok (.bipush 97, 2) := by decide +kernel
theorem dX11_init_434 : decode cX11_init 434 = .ok (.bipush 100, 2) := by decide +kernel
theorem dX11_init_436 : decode cX11_init 436 = .ok (.bipush 106, 2) := by decide +kernel
theorem dX11_init_438 : decode cX11_init 438 = .ok (.bipush 111, 2) := by decide +kernel
theorem dX11_init_440 : decode cX11_init 440 = .ok (.bipush 117, 2) := by decide +kernel
theorem dX11_init_442 : decode cX11_init 442 = .ok (.bipush 114, 2) := by decide +kernel
theorem dX11_init_444 : decode cX11_init 444 = .ok (.bipush 110, 2) := by decide +kernel
theorem dX11_init_446 : decode cX11_init 446 = .ok (.invokestatic 135, 3) := by decide +kernel
theorem dX11_init_449 : decode cX11_init 449 = .ok (.bipush 115, 2) := by decide +kernel
theorem dX11_init_451 : decode cX11_init 451 = .ok (.invokestatic 139, 3) := by decide +kernel
theorem dX11_init_454 : decode cX11_init 454 = .ok (.lastore, 1) := by decide +kernel
theorem dX11_init_455 : decode cX11_init 455 = .ok (.aload_n 0, 1) := by decide +kernel
theorem dX11_init_456 : decode cX11_init 456 = .ok (.getfield 34, 3) := by decide +kernel
theorem dX11_init_459 : decode cX11_init 459 = .ok (.bipush 6, 2) := by decide +kernel
theorem dX11_init_461 : decode cX11_init 461 = .ok (.bipush 115, 2) := by decide +kernel
theorem dX11_init_463 : decode cX11_init 463 = .ok (.bipush 101, 2) := by decide +kernel
theorem dX11_init_465 : decode cX11_init 465 = .ok (.bipush 101, 2) := by decide +kernel
theorem dX11_init_467 : decode cX11_init 467 = .ok (.bipush 100, 2) := by decide +kernel
theorem dX11_init_469 : decode cX11_init 469 = .ok (.iconst 0, 1) := by decide +kernel
theorem dX11_init_470 : decode cX11_init 470 = .ok (.iconst 0, 1) := by decide +kernel
theorem dX11_init_471 : decode cX11_init 471 = .ok (.iconst 0, 1) := by decide +kernel
theorem dX11_init_472 : decode cX11_init 472 = .ok (.invokestatic 135, 3) := by decide +kernel
theorem dX11_init_475 : decode cX11_init 475 = .ok (.lastore, 1) := by decide +kernel
theorem dX11_init_476 : decode cX11_init 476 = .ok (.aload_n 0, 1) := by decide +kernel
theorem dX11_init_477 : decode cX11_init 477 = .ok (.getfield 34, 3) := by decide +kernel
theorem dX11_init_480 : decode cX11_init 480 = .ok (.bipush 7, 2) := by decide +kernel
theorem dX11_init_482 : decode cX11_init 482 = .ok (.bipush 105, 2) := by decide +kernel
theorem dX11_init_484 : decode cX11_init 484 = .ok (.bipush 102, 2) := by decide +kernel
theorem dX11_init_486 : decode cX11_init 486 = .ok (.iconst 0, 1) := by decide +kernel
theorem dX11_init_487 : decode cX11_init 487 = .ok (.iconst 0, 1) := by decide +kernel
theorem dX11_init_488 : decode cX11_init 488 = .ok (.iconst 0, 1) := by decide +kernel
theorem dX11_init_489 : decode cX11_init 489 = .ok (.iconst 0, 1) := by decide +kernel
theorem dX11_init_490 : decode cX11_init 490 = .ok (.iconst 0, 1) := by decide +kernel
theorem dX11_init_491 : decode cX11_init 491 = .ok (.invokestatic 135, 3) := by decide +kernel
theorem dX11_init_494 : decode cX11_init 494 = .ok (.lastore, 1) := by decide +kernel
theorem dX11_init_495 : decode cX11_init 495 = .ok (.aload_n 0, 1) := by decide +kernel
theorem dX11_init_496 : decode cX11_init 496 = .ok (.getfield 34, 3) := by decide +kernel
theorem dX11_init_499 : decode cX11_init 499 = .ok (.bipush 8, 2) := by decide +kernel
theorem dX11_init_501 : decode cX11_init 501 = .ok (.bipush 116, 2) := by decide +kernel
theorem dX11_init_503 : decode cX11_init 503 = .ok (.bipush 104, 2) := by decide +kernel
theorem dX11_init_505 : decode cX11_init 505 = .ok (.bipush 101, 2) := by decide +kernel
theorem dX11_init_507 : decode cX11_init 507 = .ok (.bipush 110, 2) := by decide +kernel
theorem dX11_init_509 : decode cX11_init 509 = .ok (.iconst 0, 1) := by decide +kernel
theorem dX11_init_510 : decode cX11_init 510 = .ok (.iconst 0, 1) := by decide +kernel
theorem dX11_init_511 : decode cX11_init 511 = .ok (.iconst 0, 1) := by decide +kernel
theorem dX11_init_512 : decode cX11_init 512 = .ok (.invokestatic 135, 3) := by decide +kernel
theorem dX11_init_515 : decode cX11_init 515 = .ok (.lastore, 1) := by decide +kernel
theorem dX11_init_516 : decode cX11_init 516 = .ok (.aload_n 0, 1) := by decide +kernel
theorem dX11_init_517 : decode cX11_init 517 = .ok (.getfield 34, 3) := by decide +kernel
theorem dX11_init_520 : decode cX11_init 520 = .ok (.bipush 9, 2) := by decide +kernel
theorem dX11_init_522 : decode cX11_init 522 = .ok (.bipush 101, 2) := by decide +kernel
theorem dX11_init_524 : decode cX11_init 524 = .ok (.bipush 108, 2) := by decide +kernel
theorem dX11_init_526 : decode cX11_init 526 = .ok (.bipush 115, 2) := by decide +kernel
theorem dX11_init_528 : decode cX11_init 528 = .ok (.bipush 101, 2) := by decide +kernel
theorem dX11_init_530 : decode cX11_init 530 = .ok (.iconst 0, 1) := by decide +kernel
theorem dX11_init_531 : decode cX11_init 531 = .ok (.iconst 0, 1) := by decide +kernel
theorem dX11_init_532 : decode cX11_init 532 = .ok (.iconst 0, 1) := by decide +kernel
theorem dX11_init_533 : decode cX11_init 533 = .ok (.invokestatic 135, 3) := by decide +kernel
theorem dX11_init_536 : decode cX11_init 536 = .ok (.lastore, 1) := by decide +kernel
theorem dX11_init_537 : decode cX11_init 537 = .ok (.aload_n 0, 1) := by decide +kernel
theorem dX11_init_538 : decode cX11_init 538 = .ok (.getfield 34, 3) := by decide +kernel
theorem dX11_init_541 : decode cX11_init 541 = .ok (.bipush 10, 2) := by decide +kernel
theorem dX11_init_543 : decode cX11_init 543 = .ok (.bipush 100, 2) := by decide +kernel
theorem dX11_init_545 : decode cX11_init 545 = .ok (.bipush 101, 2) := by decide +kernel
theorem dX11_init_547 : decode cX11_init 547 = .ok (.bipush 101, 2) := by decide +kernel
theorem dX11_init_549 : decode cX11_init 549 = .ok (.bipush 100, 2) := by decide +kernel
theorem dX11_init_551 : decode cX11_init 551 = .ok (.iconst 0, 1) := by decide +kernel
theorem dX11_init_552 : decode cX11_init 552 = .ok (.iconst 0, 1) := by decide +kernel
theorem dX11_init_553 : decode cX11_init 553 = .ok (.iconst 0, 1) := by decide +kernel
theorem dX11_init_554 : decode cX11_init 554 = .ok (.invokestatic 135, 3) := by decide +kernel
theorem dX11_init_557 : decode cX11_init 557 = .ok (.lastore, 1) := by decide +kernel
theorem dX11_init_558 : decode cX11_init 558 = .ok (.aload_n 0, 1) := by decide +kernel
theorem dX11_init_559 : decode cX11_init 559 = .ok (.getfield 34, 3) := by decide +kernel
theorem dX11_init_562 : decode cX11_init 562 = .ok (.bipush 11, 2) := by decide +kernel
theorem dX11_init_564 : decode cX11_init 564 = .ok (.bipush 111, 2) := by decide +kernel
theorem dX11_init_566 : decode cX11_init 566 = .ok (.bipush 119, 2) := by decide +kernel
theorem dX11_init_568 : decode cX11_init 568 = .ok (.bipush 110, 2) := by decide +kernel
theorem dX11_init_570 : decode cX11_init 570 = .ok (.iconst 0, 1) := by decide +kernel
theorem dX11_init_571 : decode cX11_init 571 = .ok (.iconst 0, 1) := by decide +kernel
theorem dX11_init_572 : decode cX11_init 572 = .ok (.iconst 0, 1) := by decide +kernel
theorem dX11_init_573 : decode cX11_init 573 = .ok (.iconst 0, 1) := by decide +kernel
theorem dX11_init_574 : decode cX11_init 574 = .ok (.invokestatic 135, 3) := by decide +kernel
theorem dX11_init_577 : decode cX11_init 577 = .ok (.lastore, 1) := by decide +kernel
theorem dX11_init_578 : decode cX11_init 578 = .ok (.aload_n 0, 1) := by decide +kernel
theorem dX11_init_579 : decode cX11_init 579 = .ok (.getfield 34, 3) := by decide +kernel
theorem dX11_init_582 : decode cX11_init 582 = .ok (.bipush 12, 2) := by decide +kernel
theorem dX11_init_584 : decode cX11_init 584 = .ok (.bipush 112, 2) := by decide +kernel
theorem dX11_init_586 : decode cX11_init 586 = .ok (.bipush 117, 2) := by decide +kernel
theorem dX11_init_588 : decode cX11_init 588 = .ok (.bipush 114, 2) := by decide +kernel
theorem dX11_init_590 : decode cX11_init 590 = .ok (.bipush 115, 2) := by decide +kernel
theorem dX11_init_592 : decode cX11_init 592 = .ok (.bipush 101, 2) := by decide +kernel
theorem dX11_init_594 : decode cX11_init 594 = .ok (.iconst 0, 1) := by decide +kernel
theorem dX11_init_595 : decode cX11_init 595 = .ok (.iconst 0, 1) := by decide +kernel
theorem dX11_init_596 : decode cX11_init 596 = .ok (.invokestatic 135, 3) := by decide +kernel
theorem dX11_init_599 : decode cX11_init 599 = .ok (.lastore, 1) := by decide +kernel
theorem dX11_init_600 : decode cX11_init 600 = .ok (.aload_n 0, 1) := by decide +kernel
theorem dX11_init_601 : decode cX11_init 601 = .ok (.getfield 34, 3) := by decide +kernel
theorem dX11_init_604 : decode cX11_init 604 = .ok (.bipush 13, 2) := by decide +kernel
theorem dX11_init_606 : decode cX11_init 606 = .ok (.bipush 112, 2) := by decide +kernel
theorem dX11_init_608 : decode cX11_init 608 = .ok (.bipush 108, 2) := by decide +kernel
theorem dX11_init_610 : decode cX11_init 610 = .ok (.bipush 97, 2) := by decide +kernel
theorem dX11_init_612 : decode cX11_init 612 = .ok (.bipush 99, 2) := by decide +kernel
theorem dX11_init_614 : decode cX11_init 614 = .ok (.bipush 101, 2) := by decide +kernel
theorem dX11_init_616 : decode cX11_init 616 = .ok (.iconst 0, 1) := by decide +kernel
theorem dX11_init_617 : decode cX11_init 617 = .ok (.iconst 0, 1) := by decide +kernel
theorem dX11_init_618 : decode cX11_init 618 = .ok (.invokestatic 135, 3) := by decide +kernel
theorem dX11_init_621 : decode cX11_init 621 = .ok (.lastore, 1) := by decide +kernel
theorem dX11_init_622 : decode cX11_init 622 = .ok (.aload_n 0, 1) := by decide +kernel
theorem dX11_init_623 : decode cX11_init 623 = .ok (.getfield 34, 3) := by decide +kernel
theorem dX11_init_626 : decode cX11_init 626 = .ok (.bipush 14, 2) := by decide +kernel
theorem dX11_init_628 : decode cX11_init 628 = .ok (.bipush 115, 2) := by decide +kernel
theorem dX11_init_630 : decode cX11_init 630 = .ok (.bipush 101, 2) := by decide +kernel
theorem dX11_init_632 : decode cX11_init 632 = .ok (.bipush 115, 2) := by decide +kernel
theorem dX11_init_634 : decode cX11_init 634 = .ok (.bipush 115, 2) := by decide +kernel
theorem dX11_init_636 : decode cX11_init 636 = .ok (.bipush 105, 2) := by decide +kernel
theorem dX11_init_638 : decode cX11_init 638 = .ok (.bipush 111, 2) := by decide +kernel
theorem dX11_init_640 : decode cX11_init 640 = .ok (.bipush 110, 2) := by decide +kernel
theorem dX11_init_642 : decode cX11_init 642 = .ok (.invokestatic 135, 3) := by decide +kernel
theorem dX11_init_645 : decode cX11_init 645 = .ok (.lastore, 1) := by decide +kernel
theorem dX11_init_646 : decode cX11_init 646 = .ok (.aload_n 0, 1) := by decide +kernel
theorem dX11_init_647 : decode cX11_init 647 = .ok (.getfield 34, 3) := by decide +kernel
theorem dX11_init_650 : decode cX11_init 650 = .ok (.bipush 15, 2) := by decide +kernel
theorem dX11_init_652 : decode cX11_init 652 = .ok (.bipush 119, 2) := by decide +kernel
theorem dX11_init_654 : decode cX11_init 654 = .ok (.bipush 104, 2) := by decide +kernel
theorem dX11_init_656 : decode cX11_init 656 = .ok (.bipush 105, 2) := by decide +kernel
theorem dX11_init_658 : decode cX11_init 658 = .ok (.bipush 99, 2) := by decide +kernel
theorem dX11_init_660 : decode cX11_init 660 = .ok (.bipush 104, 2) := by decide +kernel
theorem dX11_init_662 : decode cX11_init 662 = .ok (.iconst 0, 1) := by decide +kernel
theorem dX11_init_663 : decode cX11_init 663 = .ok (.iconst 0, 1) := by decide +kernel
theorem dX11_init_664 : decode cX11_init 664 = .ok (.invokestatic 135, 3) := by decide +kernel
theorem dX11_init_667 : decode cX11_init 667 = .ok (.lastore, 1) := by decide +kernel
theorem dX11_init_668 : decode cX11_init 668 = .ok (.aload_n 0, 1) := by decide +kernel
theorem dX11_init_669 : decode cX11_init 669 = .ok (.getfield 34, 3) := by decide +kernel
theorem dX11_init_672 : decode cX11_init 672 = .ok (.bipush 16, 2) := by decide +kernel
theorem dX11_init_674 : decode cX11_init 674 = .ok (.bipush 99, 2) := by decide +kernel
theorem dX11_init_676 : decode cX11_init 676 = .ok (.bipush 97, 2) := by decide +kernel
theorem dX11_init_678 : decode cX11_init 678 = .ok (.bipush 115, 2) := by decide +kernel
theorem dX11_init_680 : decode cX11_init 680 = .ok (.bipush 101, 2) := by decide +kernel
theorem dX11_init_682 : decode cX11_init 682 = .ok (.bipush 115, 2) := by decide +kernel
theorem dX11_init_684 : decode cX11_init 684 = .ok (.iconst 0, 1) := by decide +kernel
theorem dX11_init_685 : decode cX11_init 685 = .ok (.iconst 0, 1) := by decide +kernel
theorem dX11_init_686 : decode cX11_init 686 = .ok (.invokestatic 135, 3) := by decide +kernel
theorem dX11_init_689 : decode cX11_init 689 = .ok (.lastore, 1) := by decide +kernel
theorem dX11_init_690 : decode cX11_init 690 = .ok (.aload_n 0, 1) := by decide +kernel
theorem dX11_init_691 : decode cX11_init 691 = .ok (.getfield 34, 3) := by decide +kernel
theorem dX11_init_694 : decode cX11_init 694 = .ok (.bipush 17, 2) := by decide +kernel
theorem dX11_init_696 : decode cX11_init 696 = .ok (.bipush 112, 2) := by decide +kernel
theorem dX11_init_698 : decode cX11_init 698 = .ok (.bipush 108, 2) := by decide +kernel
theorem dX11_init_700 : decode cX11_init 700 = .ok (.bipush 101, 2) := by decide +kernel
theorem dX11_init_702 : decode cX11_init 702 = .ok (.bipush 100, 2) := by decide +kernel
theorem dX11_init_704 : decode cX11_init 704 = .ok (.iconst 0, 1) := by decide +kernel
theorem dX11_init_705 : decode cX11_init 705 = .ok (.iconst 0, 1) := by decide +kernel
theorem dX11_init_706 : decode cX11_init 706 = .ok (.iconst 0, 1) := by decide +kernel
theorem dX11_init_707 : decode cX11_init 707 = .ok (.invokestatic 135, 3) := by decide +kernel
theorem dX11_init_710 : decode cX11_init 710 = .ok (.lastore, 1) := by decide +kernel
theorem dX11_init_711 : decode cX11_init 711 = .ok (.aload_n 0, 1) := by decide +kernel
theorem dX11_init_712 : decode cX11_init 712 = .ok (.getfield 34, 3) := by decide +kernel
theorem dX11_init_715 : decode cX11_init 715 = .ok (.bipush 18, 2) := by decide +kernel
theorem dX11_init_717 : decode cX11_init 717 = .ok (.bipush 103, 2) := by decide +kernel
theorem dX11_init_719 : decode cX11_init 719 = .ok (.bipush 111, 2) := by decide +kernel
theorem dX11_init_721 : decode cX11_init 721 = .ok (.bipush 110, 2) := by decide +kernel
theorem dX11_init_723 : decode cX11_init 723 = .ok (.bipush 101, 2) := by decide +kernel
theorem dX11_init_725 : decode cX11_init 725 = .ok (.iconst 0, 1) := by decide +kernel
theorem dX11_init_726 : decode cX11_init 726 = .ok (.iconst 0, 1) := by decide +kernel
theorem dX11_init_727 : decode cX11_init 727 = .ok (.iconst 0, 1) := by decide +kernel
theorem dX11_init_728 : decode cX11_init 728 = .ok (.invokestatic 135, 3) := by decide +kernel
theorem dX11_init_731 : decode cX11_init 731 = .ok (.lastore, 1) := by decide +kernel
theorem dX11_init_732 : decode cX11_init 732 = .ok (.aload_n 0, 1) := by decide +kernel
theorem dX11_init_733 : decode cX11_init 733 = .ok (.invokevirtual 143, 3) := by decide +kernel
theorem dX11_init_736 : decode cX11_init 736 = .ok (.aload_n 0, 1) := by decide +kernel
theorem dX11_init_737 : decode cX11_init 737 = .ok (.invokevirtual 146, 3) := by decide +kernel
theorem dX11_init_740 : decode cX11_init 740 = .ok (.return_, 1) := by decide +kernel
theorem dX11_feed_0 : decode cX11_feed 0 = .ok (.aload_n 0, 1) := by decide +kernel
theorem dX11_feed_1 : decode cX11_feed 1 = .ok (.getfield 149, 3) := by decide +kernel
theorem dX11_feed_4 : decode cX11_feed 4 = .ok (.bipush 20, 2) := by decide +kernel
theorem dX11_feed_6 : decode cX11_feed 6 = .ok (.iadd, 1) := by decide +kernel
theorem dX11_feed_7 : decode cX11_feed 7 = .ok (.sipush 2000, 3) := by decide +kernel
theorem dX11_feed_10 : decode cX11_feed 10 = .ok (.if_icmp .le 5, 3) := by decide +kernel
theorem dX11_feed_13 : decode cX11_feed 13 = .ok (.iconst (-1), 1) := by decide +kernel
theorem dX11_feed_14 : decode cX11_feed 14 = .ok (.ireturn, 1) := by decide +kernel
theorem dX11_feed_15 : decode cX11_feed 15 = .ok (.aload_n 0, 1) := by decide +kernel
theorem dX11_feed_16 : decode cX11_feed 16 = .ok (.iload_n 1, 1) := by decide +kernel
theorem dX11_feed_17 : decode cX11_feed 17 = .ok (.invokevirtual 152, 3) := by decide +kernel
theorem dX11_feed_20 : decode cX11_feed 20 = .ok (.aload_n 0, 1) := by decide +kernel
theorem dX11_feed_21 : decode cX11_feed 21 = .ok (.iload_n 2, 1) := by decide +kernel
theorem dX11_feed_22 : decode cX11_feed 22 = .ok (.invokevirtual 152, 3) := by decide +kernel
theorem dX11_feed_25 : decode cX11_feed 25 = .ok (.aload_n 0, 1) := by decide +kernel
theorem dX11_feed_26 : decode cX11_feed 26 = .ok (.iload_n 3, 1) := by decide +kernel
theorem dX11_feed_27 : decode cX11_feed 27 = .ok (.invokevirtual 152, 3) := by decide +kernel
theorem dX11_feed_30 : decode cX11_feed 30 = .ok (.aload_n 0, 1) := by decide +kernel
theorem dX11_feed_31 : decode cX11_feed 31 = .ok (.iload 4, 2) := by decide +kernel
theorem dX11_feed_33 : decode cX11_feed 33 = .ok (.invokevirtual 152, 3) := by decide +kernel
theorem dX11_feed_36 : decode cX11_feed 36 = .ok (.aload_n 0, 1) := by decide +kernel
theorem dX11_feed_37 : decode cX11_feed 37 = .ok (.iload 5, 2) := by decide +kernel
theorem dX11_feed_39 : decode cX11_feed 39 = .ok (.invokevirtual 152, 3) := by decide +kernel
theorem dX11_feed_42 : decode cX11_feed 42 = .ok (.aload_n 0, 1) := by decide +kernel
theorem dX11_feed_43 : decode cX11_feed 43 = .ok (.getfield 149, 3) := by decide +kernel
theorem dX11_feed_46 : decode cX11_feed 46 = .ok (.ireturn, 1) := by decide +kernel
theorem dX11_lays_0 : decode cX11_lays 0 = .ok (.bipush 24, 2) := by decide +kernel
theorem dX11_lays_2 : decode cX11_lays 2 = .ok (.istore_n 2, 1) := by decide +kernel
theorem dX11_lays_3 : decode cX11_lays 3 = .ok (.iload_n 2, 1) := by decide +kernel
theorem dX11_lays_4 : decode cX11_lays 4 = .ok (.ifCond .lt 32, 3) := by decide +kernel
theorem dX11_lays_7 : decode cX11_lays 7 = .ok (.aload_n 0, 1) := by decide +kernel
theorem dX11_lays_8 : decode cX11_lays 8 = .ok (.getfield 13, 3) := by decide +kernel
theorem dX11_lays_11 : decode cX11_lays 11 = .ok (.aload_n 0, 1) := by decide +kernel
theorem dX11_lays_12 : decode cX11_lays 12 = .ok (.getfield 149, 3) := by decide +kernel
theorem dX11_lays_15 : decode cX11_lays 15 = .ok (.iload_n 1, 1) := by decide +kernel
theorem dX11_lays_16 : decode cX11_lays 16 = .ok (.iload_n 2, 1) := by decide +kernel
theorem dX11_lays_17 : decode cX11_lays 17 = .ok (.ishr, 1) := by decide +kernel
theorem dX11_lays_18 : decode cX11_lays 18 = .ok (.i2b, 1) := by decide +kernel
theorem dX11_lays_19 : decode cX11_lays 19 = .ok (.bastore, 1) := by decide +kernel
theorem dX11_lays_20 : decode cX11_lays 20 = .ok (.aload_n 0, 1) := by decide +kernel
theorem dX11_lays_21 : decode cX11_lays 21 = .ok (.dup, 1) := by decide +kernel
theorem dX11_lays_22 : decode cX11_lays 22 = .ok (.getfield 149, 3) := by decide +kernel
theorem dX11_lays_25 : decode cX11_lays 25 = .ok (.iconst 1, 1) := by decide +kernel
theorem dX11_lays_26 : decode cX11_lays 26 = .ok (.iadd, 1) := by decide +kernel
theorem dX11_lays_27 : decode cX11_lays 27 = .ok (.putfield 149, 3) := by decide +kernel
theorem dX11_lays_30 : decode cX11_lays 30 = .ok (.iinc 2 (-8), 3) := by decide +kernel
theorem dX11_lays_33 : decode cX11_lays 33 = .ok (.goto (-30), 3) := by decide +kernel
theorem dX11_lays_36 : decode cX11_lays 36 = .ok (.return_, 1) := by decide +kernel
theorem dX11_back_0 : decode cX11_back 0 = .ok (.iload_n 1, 1) := by decide +kernel
theorem dX11_back_1 : decode cX11_back 1 = .ok (.ifCond .lt 11, 3) := by decide +kernel
theorem dX11_back_4 : decode cX11_back 4 = .ok (.iload_n 1, 1) := by decide +kernel
theorem dX11_back_5 : decode cX11_back 5 = .ok (.aload_n 0, 1) := by decide +kernel
theorem dX11_back_6 : decode cX11_back 6 = .ok (.getfield 149, 3) := by decide +kernel
theorem dX11_back_9 : decode cX11_back 9 = .ok (.if_icmp .le 5, 3) := by decide +kernel
theorem dX11_back_12 : decode cX11_back 12 = .ok (.iconst (-1), 1) := by decide +kernel
theorem dX11_back_13 : decode cX11_back 13 = .ok (.ireturn, 1) := by decide +kernel
theorem dX11_back_14 : decode cX11_back 14 = .ok (.aload_n 0, 1) := by decide +kernel
theorem dX11_back_15 : decode cX11_back 15 = .ok (.dup, 1) := by decide +kernel
theorem dX11_back_16 : decode cX11_back 16 = .ok (.getfield 149, 3) := by decide +kernel
theorem dX11_back_19 : decode cX11_back 19 = .ok (.iload_n 1, 1) := by decide +kernel
theorem dX11_back_20 : decode cX11_back 20 = .ok (.isub, 1) := by decide +kernel
theorem dX11_back_21 : decode cX11_back 21 = .ok (.putfield 149, 3) := by decide +kernel
theorem dX11_back_24 : decode cX11_back 24 = .ok (.aload_n 0, 1) := by decide +kernel
theorem dX11_back_25 : decode cX11_back 25 = .ok (.getfield 149, 3) := by decide +kernel
theorem dX11_back_28 : decode cX11_back 28 = .ok (.ireturn, 1) := by decide +kernel
theorem dX11_byteAt_0 : decode cX11_byteAt 0 = .ok (.iload_n 1, 1) := by decide +kernel
theorem dX11_byteAt_1 : decode cX11_byteAt 1 = .ok (.aload_n 0, 1) := by decide +kernel
theorem dX11_byteAt_2 : decode cX11_byteAt 2 = .ok (.getfield 155, 3) := by decide +kernel
theorem dX11_byteAt_5 : decode cX11_byteAt 5 = .ok (.if_icmp .ge 16, 3) := by decide +kernel
theorem dX11_byteAt_8 : decode cX11_byteAt 8 = .ok (.aload_n 0, 1) := by decide +kernel
theorem dX11_byteAt_9 : decode cX11_byteAt 9 = .ok (.getfield 17, 3) := by decide +kernel
theorem dX11_byteAt_12 : decode cX11_byteAt 12 = .ok (.iload_n 1, 1) := by decide +kernel
theorem dX11_byteAt_13 : decode cX11_byteAt 13 = .ok (.baload, 1) := by decide +kernel
theorem dX11_byteAt_14 : decode cX11_byteAt 14 = .ok (.sipush 255, 3) := by decide +kernel
theorem dX11_byteAt_17 : decode cX11_byteAt 17 = .ok (.iand, 1) := by decide +kernel
theorem dX11_byteAt_18 : decode cX11_byteAt 18 = .ok (.goto 4, 3) := by decide +kernel
theorem dX11_byteAt_21 : decode cX11_byteAt 21 = .ok (.iconst 0, 1) := by decide +kernel
theorem dX11_byteAt_22 : decode cX11_byteAt 22 = .ok (.ireturn, 1) := by decide +kernel
theorem dX11_isDigit_0 : decode cX11_isDigit 0 = .ok (.iload_n 0, 1) := by decide +kernel
theorem dX11_isDigit_1 : decode cX11_isDigit 1 = .ok (.bipush 48, 2) := by decide +kernel
theorem dX11_isDigit_3 : decode cX11_isDigit 3 = .ok (.if_icmp .lt 13, 3) := by decide +kernel
theorem dX11_isDigit_6 : decode cX11_isDigit 6 = .ok (.iload_n 0, 1) := by decide +kernel
theorem dX11_isDigit_7 : decode cX11_isDigit 7 = .ok (.bipush 57, 2) := by decide +kernel
theorem dX11_isDigit_9 : decode cX11_isDigit 9 = .ok (.if_icmp .gt 7, 3) := by decide +kernel
theorem dX11_isDigit_12 : decode cX11_isDigit 12 = .ok (.iconst 1, 1) := by decide +kernel
theorem dX11_isDigit_13 : decode cX11_isDigit 13 = .ok (.goto 4, 3) := by decide +kernel
theorem dX11_isDigit_16 : decode cX11_isDigit 16 = .ok (.iconst 0, 1) := by decide +kernel
theorem dX11_isDigit_17 : decode cX11_isDigit 17 = .ok (.ireturn, 1) := by decide +kernel
theorem dX11_isLetter_0 : decode cX11_isLetter 0 = .ok (.iload_n 0, 1) := by decide +kernel
theorem dX11_isLetter_1 : decode cX11_isLetter 1 = .ok (.bipush 97, 2) := by decide +kernel
theorem dX11_isLetter_3 : decode cX11_isLetter 3 = .ok (.if_icmp .lt 13, 3) := by decide +kernel
theorem dX11_isLetter_6 : decode cX11_isLetter 6 = .ok (.iload_n 0, 1) := by decide +kernel
theorem dX11_isLetter_7 : decode cX11_isLetter 7 = .ok (.bipush 122, 2) := by decide +kernel
theorem dX11_isLetter_9 : decode cX11_isLetter 9 = .ok (.if_icmp .gt 7, 3) := by decide +kernel
theorem dX11_isLetter_12 : decode cX11_isLetter 12 = .ok (.iconst 1, 1) := by decide +kernel
theorem dX11_isLetter_13 : decode cX11_isLetter 13 = .ok (.goto 4, 3) := by decide +kernel
theorem dX11_isLetter_16 : decode cX11_isLetter 16 = .ok (.iconst 0, 1) := by decide +kernel
theorem dX11_isLetter_17 : decode cX11_isLetter 17 = .ok (.ireturn, 1) := by decide +kernel
theorem dX11_appends_0 : decode cX11_appends 0 = .ok (.iload_n 2, 1) := by decide +kernel
theorem dX11_appends_1 : decode cX11_appends 1 = .ok (.ifCond .ne 7, 3) := by decide +kernel
theorem dX11_appends_4 : decode cX11_appends 4 = .ok (.lload_n 0, 1) := by decide +kernel
theorem dX11_appends_5 : decode cX11_appends 5 = .ok (.goto 16, 3) := by decide +kernel
theorem dX11_appends_8 : decode cX11_appends 8 = .ok (.ldc2_w 158, 3) := by decide +kernel
theorem dX11_appends_11 : decode cX11_appends 11 = .ok (.lload_n 0, 1) := by decide +kernel
theorem dX11_appends_12 : decode cX11_appends 12 = .ok (.lmul, 1) := by decide +kernel
theorem dX11_appends_13 : decode cX11_appends 13 = .ok (.iload_n 2, 1) := by decide +kernel
theorem dX11_appends_14 : decode cX11_appends 14 = .ok (.bipush 97, 2) := by decide +kernel
theorem dX11_appends_16 : decode cX11_appends 16 = .ok (.isub, 1) := by decide +kernel
theorem dX11_appends_17 : decode cX11_appends 17 = .ok (.iconst 1, 1) := by decide +kernel
theorem dX11_appends_18 : decode cX11_appends 18 = .ok (.iadd, 1) := by decide +kernel
theorem dX11_appends_19 : decode cX11_appends 19 = .ok (.i2l, 1) := by decide +kernel
theorem dX11_appends_20 : decode cX11_appends 20 = .ok (.ladd, 1) := by decide +kernel
theorem dX11_appends_21 : decode cX11_appends 21 = .ok (.lreturn, 1) := by decide +kernel
theorem dX11_letters_0 : decode cX11_letters 0 = .ok (.lconst 0, 1) := by decide +kernel
theorem dX11_letters_1 : decode cX11_letters 1 = .ok (.iload_n 0, 1) := by decide +kernel
theorem dX11_letters_2 : decode cX11_letters 2 = .ok (.invokestatic 139, 3) := by decide +kernel
theorem dX11_letters_5 : decode cX11_letters 5 = .ok (.iload_n 1, 1) := by decide +kernel
theorem dX11_letters_6 : decode cX11_letters 6 = .ok (.invokestatic 139, 3) := by decide +kernel
theorem dX11_letters_9 : decode cX11_letters 9 = .ok (.iload_n 2, 1) := by decide +kernel
theorem dX11_letters_10 : decode cX11_letters 10 = .ok (.invokestatic 139, 3) := by decide +kernel
theorem dX11_letters_13 : decode cX11_letters 13 = .ok (.iload_n 3, 1) := by decide +kernel
theorem dX11_letters_14 : decode cX11_letters 14 = .ok (.invokestatic 139, 3) := by decide +kernel
theorem dX11_letters_17 : decode cX11_letters 17 = .ok (.iload 4, 2) := by decide +kernel
theorem dX11_letters_19 : decode cX11_letters 19 = .ok (.invokestatic 139, 3) := by decide +kernel
theorem dX11_letters_22 : decode cX11_letters 22 = .ok (.iload 5, 2) := by decide +kernel
theorem dX11_letters_24 : decode cX11_letters 24 = .ok (.invokestatic 139, 3) := by decide +kernel
theorem dX11_letters_27 : decode cX11_letters 27 = .ok (.iload 6, 2) := by decide +kernel
theorem dX11_letters_29 : decode cX11_letters 29 = .ok (.invokestatic 139, 3) := by decide +kernel
theorem dX11_letters_32 : decode cX11_letters 32 = .ok (.lreturn, 1) := by decide +kernel
theorem dX11_token_0 : decode cX11_token 0 = .ok (.aload_n 0, 1) := by decide +kernel
theorem dX11_token_1 : decode cX11_token 1 = .ok (.getfield 20, 3) := by decide +kernel
theorem dX11_token_4 : decode cX11_token 4 = .ok (.aload_n 0, 1) := by decide +kernel
theorem dX11_token_5 : decode cX11_token 5 = .ok (.getfield 160, 3) := by decide +kernel
theorem dX11_token_8 : decode cX11_token 8 = .ok (.iload_n 1, 1) := by decide +kernel
theorem dX11_token_9 : decode cX11_token 9 = .ok (.iastore, 1) := by decide +kernel
theorem dX11_token_10 : decode cX11_token 10 = .ok (.aload_n 0, 1) := by decide +kernel
theorem dX11_token_11 : decode cX11_token 11 = .ok (.getfield 24, 3) := by decide +kernel
theorem dX11_token_14 : decode cX11_token 14 = .ok (.aload_n 0, 1) := by decide +kernel
theorem dX11_token_15 : decode cX11_token 15 = .ok (.getfield 160, 3) := by decide +kernel
theorem dX11_token_18 : decode cX11_token 18 = .ok (.iload_n 2, 1) := by decide +kernel
theorem dX11_token_19 : decode cX11_token 19 = .ok (.iastore, 1) := by decide +kernel
theorem dX11_token_20 : decode cX11_token 20 = .ok (.aload_n 0, 1) := by decide +kernel
theorem dX11_token_21 : decode cX11_token 21 = .ok (.getfield 27, 3) := by decide +kernel
theorem dX11_token_24 : decode cX11_token 24 = .ok (.aload_n 0, 1) := by decide +kernel
theorem dX11_token_25 : decode cX11_token 25 = .ok (.getfield 160, 3) := by decide +kernel
theorem dX11_token_28 : decode cX11_token 28 = .ok (.iload_n 3, 1) := by decide +kernel
theorem dX11_token_29 : decode cX11_token 29 = .ok (.iastore, 1) := by decide +kernel
theorem dX11_token_30 : decode cX11_token 30 = .ok (.aload_n 0, 1) := by decide +kernel
theorem dX11_token_31 : decode cX11_token 31 = .ok (.getfield 30, 3) := by decide +kernel
theorem dX11_token_34 : decode cX11_token 34 = .ok (.aload_n 0, 1) := by decide +kernel
theorem dX11_token_35 : decode cX11_token 35 = .ok (.getfield 160, 3) := by decide +kernel
theorem dX11_token_38 : decode cX11_token 38 = .ok (.lload 4, 2) := by decide +kernel
theorem dX11_token_40 : decode cX11_token 40 = .ok (.lastore, 1) := by decide +kernel
theorem dX11_token_41 : decode cX11_token 41 = .ok (.aload_n 0, 1) := by decide +kernel
theorem dX11_token_42 : decode cX11_token 42 = .ok (.dup, 1) := by decide +kernel
theorem dX11_token_43 : decode cX11_token 43 = .ok (.getfield 160, 3) := by decide +kernel
theorem dX11_token_46 : decode cX11_token 46 = .ok (.iconst 1, 1) := by decide +kernel
theorem dX11_token_47 : decode cX11_token 47 = .ok (.iadd, 1) := by decide +kernel
theorem dX11_token_48 : decode cX11_token 48 = .ok (.putfield 160, 3) := by decide +kernel
theorem dX11_token_51 : decode cX11_token 51 = .ok (.return_, 1) := by decide +kernel
theorem dX11_cut_0 : decode cX11_cut 0 = .ok (.aload_n 0, 1) := by decide +kernel
theorem dX11_cut_1 : decode cX11_cut 1 = .ok (.iconst 0, 1) := by decide +kernel
theorem dX11_cut_2 : decode cX11_cut 2 = .ok (.putfield 160, 3) := by decide +kernel
theorem dX11_cut_5 : decode cX11_cut 5 = .ok (.iconst 0, 1) := by decide +kernel
theorem dX11_cut_6 : decode cX11_cut 6 = .ok (.istore_n 1, 1) := by decide +kernel
theorem dX11_cut_7 : decode cX11_cut 7 = .ok (.aload_n 0, 1) := by decide +kernel
theorem dX11_cut_8 : decode cX11_cut 8 = .ok (.getfield 160, 3) := by decide +kernel
theorem dX11_cut_11 : decode cX11_cut 11 = .ok (.sipush 400, 3) := by decide +kernel
theorem dX11_cut_14 : decode cX11_cut 14 = .ok (.if_icmp .gt 280, 3) := by decide +kernel
theorem dX11_cut_17 : decode cX11_cut 17 = .ok (.aload_n 0, 1) := by decide +kernel
theorem dX11_cut_18 : decode cX11_cut 18 = .ok (.iload_n 1, 1) := by decide +kernel
theorem dX11_cut_19 : decode cX11_cut 19 = .ok (.invokevirtual 163, 3) := by decide +kernel
theorem dX11_cut_22 : decode cX11_cut 22 = .ok (.istore_n 2, 1) := by decide +kernel
theorem dX11_cut_23 : decode cX11_cut 23 = .ok (.iload_n 1, 1) := by decide +kernel
theorem dX11_cut_24 : decode cX11_cut 24 = .ok (.aload_n 0, 1) := by decide +kernel
theorem dX11_cut_25 : decode cX11_cut 25 = .ok (.getfield 155, 3) := by decide +kernel
theorem dX11_cut_28 : decode cX11_cut 28 = .ok (.if_icmp .lt 15, 3) := by decide +kernel
theorem dX11_cut_31 : decode cX11_cut 31 = .ok (.aload_n 0, 1) := by decide +kernel
theorem dX11_cut_32 : decode cX11_cut 32 = .ok (.iconst 0, 1) := by decide +kernel
theorem dX11_cut_33 : decode cX11_cut 33 = .ok (.aload_n 0, 1) := by decide +kernel
theorem dX11_cut_34 : decode cX11_cut 34 = .ok (.getfield 155, 3) := by decide +kernel
theorem dX11_cut_37 : decode cX11_cut 37 = .ok (.iconst 0, 1) := by decide +kernel
theorem dX11_cut_38 : decode cX11_cut 38 = .ok (.lconst 0, 1) := by decide +kernel
theorem dX11_cut_39 : decode cX11_cut 39 = .ok (.invokevirtual 167, 3) := by decide +kernel
theorem dX11_cut_42 : decode cX11_cut 42 = .ok (.return_, 1) := by decide +kernel
theorem dX11_cut_43 : decode cX11_cut 43 = .ok (.iload_n 2, 1) := by decide +kernel
theorem dX11_cut_44 : decode cX11_cut 44 = .ok (.bipush 9, 2) := by decide +kernel
theorem dX11_cut_46 : decode cX11_cut 46 = .ok (.if_icmp .eq 21, 3) := by decide +kernel
theorem dX11_cut_49 : decode cX11_cut 49 = .ok (.iload_n 2, 1) := by decide +kernel
theorem dX11_cut_50 : decode cX11_cut 50 = .ok (.bipush 10, 2) := by decide +kernel
theorem dX11_cut_52 : decode cX11_cut 52 = .ok (.if_icmp .eq 15, 3) := by decide +kernel
theorem dX11_cut_55 : decode cX11_cut 55 = .ok (.iload_n 2, 1) := by decide +kernel
theorem dX11_cut_56 : decode cX11_cut 56 = .ok (.bipush 13, 2) := by decide +kernel
theorem dX11_cut_58 : decode cX11_cut 58 = .ok (.if_icmp .eq 9, 3) := by decide +kernel
theorem dX11_cut_61 : decode cX11_cut 61 = .ok (.iload_n 2, 1) := by decide +kernel
theorem dX11_cut_62 : decode cX11_cut 62 = .ok (.bipush 32, 2) := by decide +kernel
theorem dX11_cut_64 : decode cX11_cut 64 = .ok (.if_icmp .ne 9, 3) := by decide +kernel
theorem dX11_cut_67 : decode cX11_cut 67 = .ok (.iinc 1 1, 3) := by decide +kernel
theorem dX11_cut_70 : decode cX11_cut 70 = .ok (.goto 221, 3) := by decide +kernel
theorem dX11_cut_73 : decode cX11_cut 73 = .ok (.iload_n 2, 1) := by decide +kernel
theorem dX11_cut_74 : decode cX11_cut 74 = .ok (.invokestatic 171, 3) := by decide +kernel
theorem dX11_cut_77 : decode cX11_cut 77 = .ok (.ifCond .eq 119, 3) := by decide +kernel
theorem dX11_cut_80 : decode cX11_cut 80 = .ok (.iconst 0, 1) := by decide +kernel
theorem dX11_cut_81 : decode cX11_cut 81 = .ok (.istore_n 3, 1) := by decide +kernel
theorem dX11_cut_82 : decode cX11_cut 82 = .ok (.lconst 0, 1) := by decide +kernel
theorem dX11_cut_83 : decode cX11_cut 83 = .ok (.lstore 4, 2) := by decide +kernel
theorem dX11_cut_85 : decode cX11_cut 85 = .ok (.aload_n 0, 1) := by decide +kernel
theorem dX11_cut_86 : decode cX11_cut 86 = .ok (.iload_n 1, 1) := by decide +kernel
theorem dX11_cut_87 : decode cX11_cut 87 = .ok (.iload_n 3, 1) := by decide +kernel
theorem dX11_cut_88 : decode cX11_cut 88 = .ok (.iadd, 1) := by decide +kernel
theorem dX11_cut_89 : decode cX11_cut 89 = .ok (.invokevirtual 163, 3) := by decide +kernel
theorem dX11_cut_92 : decode cX11_cut 92 = .ok (.invokestatic 171, 3) := by decide +kernel
theorem dX11_cut_95 : decode cX11_cut 95 = .ok (.ifCond .eq 29, 3) := by decide +kernel
theorem dX11_cut_98 : decode cX11_cut 98 = .ok (.iload_n 3, 1) := by decide +kernel
theorem dX11_cut_99 : decode cX11_cut 99 = .ok (.bipush 8, 2) := by decide +kernel
theorem dX11_cut_101 : decode cX11_cut 101 = .ok (.if_icmp .ge 17, 3) := by decide +kernel
theorem dX11_cut_104 : decode cX11_cut 104 = .ok (.lload 4, 2) := by decide +kernel
theorem dX11_cut_106 : decode cX11_cut 106 = .ok (.aload_n 0, 1) := by decide +kernel
theorem dX11_cut_107 : decode cX11_cut 107 = .ok (.iload_n 1, 1) := by decide +kernel
theorem dX11_cut_108 : decode cX11_cut 108 = .ok (.iload_n 3, 1) := by decide +kernel
theorem dX11_cut_109 : decode cX11_cut 109 = .ok (.iadd, 1) := by decide +kernel
theorem dX11_cut_110 : decode cX11_cut 110 = .ok (.invokevirtual 163, 3) := by decide +kernel
theorem dX11_cut_113 : decode cX11_cut 113 = .ok (.invokestatic 139, 3) := by decide +kernel
theorem dX11_cut_116 : decode cX11_cut 116 = .ok (.lstore 4, 2) := by decide +kernel
theorem dX11_cut_118 : decode cX11_cut 118 = .ok (.iinc 3 1, 3) := by decide +kernel
theorem dX11_cut_121 : decode cX11_cut 121 = .ok (.goto (-36), 3) := by decide +kernel
theorem dX11_cut_124 : decode cX11_cut 124 = .ok (.iload_n 3, 1) := by decide +kernel
theorem dX11_cut_125 : decode cX11_cut 125 = .ok (.bipush 8, 2) := by decide +kernel
theorem dX11_cut_127 : decode cX11_cut 127 = .ok (.if_icmp .le 7, 3) := by decide +kernel
theorem dX11_cut_130 : decode cX11_cut 130 = .ok (.iconst 3, 1) := by decide +kernel
theorem dX11_cut_131 : decode cX11_cut 131 = .ok (.goto 4, 3) := by decide +kernel
theorem dX11_cut_134 : decode cX11_cut 134 = .ok (.iconst 1, 1) := by decide +kernel
theorem dX11_cut_135 : decode cX11_cut 135 = .ok (.istore 6, 2) := by decide +kernel
theorem dX11_cut_137 : decode cX11_cut 137 = .ok (.iload_n 3, 1) := by decide +kernel
theorem dX11_cut_138 : decode cX11_cut 138 = .ok (.bipush 8, 2) := by decide +kernel
theorem dX11_cut_140 : decode cX11_cut 140 = .ok (.if_icmp .gt 39, 3) := by decide +kernel
theorem dX11_cut_143 : decode cX11_cut 143 = .ok (.iconst 0, 1) := by decide +kernel
theorem dX11_cut_144 : decode cX11_cut 144 = .ok (.istore 7, 2) := by decide +kernel
theorem dX11_cut_146 : decode cX11_cut 146 = .ok (.iload 7, 2) := by decide +kernel
theorem dX11_cut_148 : decode cX11_cut 148 = .ok (.bipush 19, 2) := by decide +kernel
theorem dX11_cut_150 : decode cX11_cut 150 = .ok (.if_icmp .ge 29, 3) := by decide +kernel
theorem dX11_cut_153 : decode cX11_cut 153 = .ok (.aload_n 0, 1) := by decide +kernel
theorem dX11_cut_154 : decode cX11_cut 154 = .ok (.getfield 34, 3) := by decide +kernel
theorem dX11_cut_157 : decode cX11_cut 157 = .ok (.iload 7, 2) := by decide +kernel
theorem dX11_cut_159 : decode cX11_cut 159 = .ok (.laload, 1) := by decide +kernel
theorem dX11_cut_160 : decode cX11_cut 160 = .ok (.lload 4, 2) := by decide +kernel
theorem dX11_cut_162 : decode cX11_cut 162 = .ok (.lcmp, 1) := by decide +kernel
theorem dX11_cut_163 : decode cX11_cut 163 = .ok (.ifCond .ne 10, 3) := by decide +kernel
theorem dX11_cut_166 : decode cX11_cut 166 = .ok (.bipush 20, 2) := by decide +kernel
theorem dX11_cut_168 : decode cX11_cut 168 = .ok (.iload 7, 2) := by decide +kernel
theorem dX11_cut_170 : decode cX11_cut 170 = .ok (.iadd, 1) := by decide +kernel
theorem dX11_cut_171 : decode cX11_cut 171 = .ok (.istore 6, 2) := by decide +kernel
theorem dX11_cut_173 : decode cX11_cut 173 = .ok (.iinc 7 1, 3) := by decide +kernel
theorem dX11_cut_176 : decode cX11_cut 176 = .ok (.goto (-30), 3) := by decide +kernel
theorem dX11_cut_179 : decode cX11_cut 179 = .ok (.aload_n 0, 1) := by decide +kernel
theorem dX11_cut_180 : decode cX11_cut 180 = .ok (.iload 6, 2) := by decide +kernel
theorem dX11_cut_182 : decode cX11_cut 182 = .ok (.iload_n 1, 1) := by decide +kernel
theorem dX11_cut_183 : decode cX11_cut 183 = .ok (.iconst 0, 1) := by decide +kernel
theorem dX11_cut_184 : decode cX11_cut 184 = .ok (.lload 4, 2) := by decide +kernel
theorem dX11_cut_186 : decode cX11_cut 186 = .ok (.invokevirtual 167, 3) := by decide +kernel
theorem dX11_cut_189 : decode cX11_cut 189 = .ok (.iload_n 1, 1) := by decide +kernel
theorem dX11_cut_190 : decode cX11_cut 190 = .ok (.iload_n 3, 1) := by decide +kernel
theorem dX11_cut_191 : decode cX11_cut 191 = .ok (.iadd, 1) := by decide +kernel
theorem dX11_cut_192 : decode cX11_cut 192 = .ok (.istore_n 1, 1) := by decide +kernel
theorem dX11_cut_193 : decode cX11_cut 193 = .ok (.goto 98, 3) := by decide +kernel
theorem dX11_cut_196 : decode cX11_cut 196 = .ok (.iload_n 2, 1) := by decide +kernel
theorem dX11_cut_197 : decode cX11_cut 197 = .ok (.invokestatic 175, 3) := by decide +kernel
theorem dX11_cut_200 : decode cX11_cut 200 = .ok (.ifCond .eq 75, 3) := by decide +kernel
theorem dX11_cut_203 : decode cX11_cut 203 = .ok (.iconst 0, 1) := by decide +kernel
theorem dX11_cut_204 : decode cX11_cut 204 = .ok (.istore_n 3, 1) := by decide +kernel
theorem dX11_cut_205 : decode cX11_cut 205 = .ok (.iconst 0, 1) := by decide +kernel
theorem dX11_cut_206 : decode cX11_cut 206 = .ok (.istore 4, 2) := by decide +kernel
theorem dX11_cut_208 : decode cX11_cut 208 = .ok (.aload_n 0, 1) := by decide +kernel
theorem dX11_cut_209 : decode cX11_cut 209 = .ok (.iload_n 1, 1) := by decide +kernel
theorem dX11_cut_210 : decode cX11_cut 210 = .ok (.iload_n 3, 1) := by decide +kernel
theorem dX11_cut_211 : decode cX11_cut 211 = .ok (.iadd, 1) := by decide +kernel
theorem dX11_cut_212 : decode cX11_cut 212 = .ok (.invokevirtual 163, 3) := by decide +kernel
theorem dX11_cut_215 : decode cX11_cut 215 = .ok (.invokestatic 175, 3) := by decide +kernel
theorem dX11_cut_218 : decode cX11_cut 218 = .ok (.ifCond .eq 32, 3) := by decide +kernel
theorem dX11_cut_221 : decode cX11_cut 221 = .ok (.iload_n 3, 1) := by decide +kernel
theorem dX11_cut_222 : decode cX11_cut 222 = .ok (.iconst 4, 1) := by decide +kernel
theorem dX11_cut_223 : decode cX11_cut 223 = .ok (.if_icmp .ge 21, 3) := by decide +kernel
theorem dX11_cut_226 : decode cX11_cut 226 = .ok (.bipush 10, 2) := by decide +kernel
theorem dX11_cut_228 : decode cX11_cut 228 = .ok (.iload 4, 2) := by decide +kernel
theorem dX11_cut_230 : decode cX11_cut 230 = .ok (.imul, 1) := by decide +kernel
theorem dX11_cut_231 : decode cX11_cut 231 = .ok (.aload_n 0, 1) := by decide +kernel
theorem dX11_cut_232 : decode cX11_cut 232 = .ok (.iload_n 1, 1) := by decide +kernel
theorem dX11_cut_233 : decode cX11_cut 233 = .ok (.iload_n 3, 1) := by decide +kernel
theorem dX11_cut_234 : decode cX11_cut 234 = .ok (.iadd, 1) := by decide +kernel
theorem dX11_cut_235 : decode cX11_cut 235 = .ok (.invokevirtual 163, 3) := by decide +kernel
theorem dX11_cut_238 : decode cX11_cut 238 = .ok (.iadd, 1) := by decide +kernel
theorem dX11_cut_239 : decode cX11_cut 239 = .ok (.bipush 48, 2) := by decide +kernel
theorem dX11_cut_241 : decode cX11_cut 241 = .ok (.isub, 1) := by decide +kernel
theorem dX11_cut_242 : decode cX11_cut 242 = .ok (.istore 4, 2) := by decide +kernel
theorem dX11_cut_244 : decode cX11_cut 244 = .ok (.iinc 3 1, 3) := by decide +kernel
theorem dX11_cut_247 : decode cX11_cut 247 = .ok (.goto (-39), 3) := by decide +kernel
theorem dX11_cut_250 : decode cX11_cut 250 = .ok (.aload_n 0, 1) := by decide +kernel
theorem dX11_cut_251 : decode cX11_cut 251 = .ok (.iload_n 3, 1) := by decide +kernel
theorem dX11_cut_252 : decode cX11_cut 252 = .ok (.iconst 4, 1) := by decide +kernel
theorem dX11_cut_253 : decode cX11_cut 253 = .ok (.if_icmp .le 7, 3) := by decide +kernel
theorem dX11_cut_256 : decode cX11_cut 256 = .ok (.iconst 3, 1) := by decide +kernel
theorem dX11_cut_257 : decode cX11_cut 257 = .ok (.goto 4, 3) := by decide +kernel
theorem dX11_cut_260 : decode cX11_cut 260 = .ok (.iconst 2, 1) := by decide +kernel
theorem dX11_cut_261 : decode cX11_cut 261 = .ok (.iload_n 1, 1) := by decide +kernel
theorem dX11_cut_262 : decode cX11_cut 262 = .ok (.iload 4, 2) := by decide +kernel
theorem dX11_cut_264 : decode cX11_cut 264 = .ok (.lconst 0, 1) := by decide +kernel
theorem dX11_cut_265 : decode cX11_cut 265 = .ok (.invokevirtual 167, 3) := by decide +kernel
theorem dX11_cut_268 : decode cX11_cut 268 = .ok (.iload_n 1, 1) := by decide +kernel
theorem dX11_cut_269 : decode cX11_cut 269 = .ok (.iload_n 3, 1) := by decide +kernel
theorem dX11_cut_270 : decode cX11_cut 270 = .ok (.iadd, 1) := by decide +kernel
theorem dX11_cut_271 : decode cX11_cut 271 = .ok (.istore_n 1, 1) := by decide +kernel
theorem dX11_cut_272 : decode cX11_cut 272 = .ok (.goto 19, 3) := by decide +kernel
theorem dX11_cut_275 : decode cX11_cut 275 = .ok (.iload_n 1, 1) := by decide +kernel
theorem dX11_cut_276 : decode cX11_cut 276 = .ok (.aload_n 0, 1) := by decide +kernel
theorem dX11_cut_277 : decode cX11_cut 277 = .ok (.iload_n 1, 1) := by decide +kernel
theorem dX11_cut_278 : decode cX11_cut 278 = .ok (.iload_n 2, 1) := by decide +kernel
theorem dX11_cut_279 : decode cX11_cut 279 = .ok (.aload_n 0, 1) := by decide +kernel
theorem dX11_cut_280 : decode cX11_cut 280 = .ok (.iload_n 1, 1) := by decide +kernel
theorem dX11_cut_281 : decode cX11_cut 281 = .ok (.iconst 1, 1) := by decide +kernel
theorem dX11_cut_282 : decode cX11_cut 282 = .ok (.iadd, 1) := by decide +kernel
theorem dX11_cut_283 : decode cX11_cut 283 = .ok (.invokevirtual 163, 3) := by decide +kernel
theorem dX11_cut_286 : decode cX11_cut 286 = .ok (.invokevirtual 178, 3) := by decide +kernel
theorem dX11_cut_289 : decode cX11_cut 289 = .ok (.iadd, 1) := by decide +kernel
theorem dX11_cut_290 : decode cX11_cut 290 = .ok (.istore_n 1, 1) := by decide +kernel
theorem dX11_cut_291 : decode cX11_cut 291 = .ok (.goto (-284), 3) := by decide +kernel
theorem dX11_cut_294 : decode cX11_cut 294 = .ok (.return_, 1) := by decide +kernel
theorem dX11_sign_0 : decode cX11_sign 0 = .ok (.iload_n 2, 1) := by decide +kernel
theorem dX11_sign_1 : decode cX11_sign 1 = .ok (.bipush 59, 2) := by decide +kernel
theorem dX11_sign_3 : decode cX11_sign 3 = .ok (.if_icmp .ne 7, 3) := by decide +kernel
theorem dX11_sign_6 : decode cX11_sign 6 = .ok (.iconst 4, 1) := by decide +kernel
theorem dX11_sign_7 : decode cX11_sign 7 = .ok (.goto 36, 3) := by decide +kernel
theorem dX11_sign_10 : decode cX11_sign 10 = .ok (.iload_n 2, 1) := by decide +kernel
theorem dX11_sign_11 : decode cX11_sign 11 = .ok (.bipush 61, 2) := by decide +kernel
theorem dX11_sign_13 : decode cX11_sign 13 = .ok (.if_icmp .ne 7, 3) := by decide +kernel
theorem dX11_sign_16 : decode cX11_sign 16 = .ok (.iconst 5, 1) := by decide +kernel
theorem dX11_sign_17 : decode cX11_sign 17 = .ok (.goto 26, 3) := by decide +kernel
theorem dX11_sign_20 : decode cX11_sign 20 = .ok (.iload_n 2, 1) := by decide +kernel
theorem dX11_sign_21 : decode cX11_sign 21 = .ok (.bipush 40, 2) := by decide +kernel
theorem dX11_sign_23 : decode cX11_sign 23 = .ok (.if_icmp .ne 8, 3) := by decide +kernel
theorem dX11_sign_26 : decode cX11_sign 26 = .ok (.bipush 6, 2) := by decide +kernel
theorem dX11_sign_28 : decode cX11_sign 28 = .ok (.goto 15, 3) := by decide +kernel
theorem dX11_sign_31 : decode cX11_sign 31 = .ok (.iload_n 2, 1) := by decide +kernel
theorem dX11_sign_32 : decode cX11_sign 32 = .ok (.bipush 41, 2) := by decide +kernel
theorem dX11_sign_34 : decode cX11_sign 34 = .ok (.if_icmp .ne 8, 3) := by decide +kernel
theorem dX11_sign_37 : decode cX11_sign 37 = .ok (.bipush 7, 2) := by decide +kernel
theorem dX11_sign_39 : decode cX11_sign 39 = .ok (.goto 4, 3) := by decide +kernel
theorem dX11_sign_42 : decode cX11_sign 42 = .ok (.iconst 3, 1) := by decide +kernel
theorem dX11_sign_43 : decode cX11_sign 43 = .ok (.istore 4, 2) := by decide +kernel
theorem dX11_sign_45 : decode cX11_sign 45 = .ok (.iload_n 2, 1) := by decide +kernel
theorem dX11_sign_46 : decode cX11_sign 46 = .ok (.bipush 43, 2) := by decide +kernel
theorem dX11_sign_48 : decode cX11_sign 48 = .ok (.if_icmp .ne 7, 3) := by decide +kernel
theorem dX11_sign_51 : decode cX11_sign 51 = .ok (.bipush 8, 2) := by decide +kernel
theorem dX11_sign_53 : decode cX11_sign 53 = .ok (.istore 4, 2) := by decide +kernel
theorem dX11_sign_55 : decode cX11_sign 55 = .ok (.iload_n 2, 1) := by decide +kernel
theorem dX11_sign_56 : decode cX11_sign 56 = .ok (.bipush 45, 2) := by decide +kernel
theorem dX11_sign_58 : decode cX11_sign 58 = .ok (.if_icmp .ne 7, 3) := by decide +kernel
theorem dX11_sign_61 : decode cX11_sign 61 = .ok (.bipush 9, 2) := by decide +kernel
theorem dX11_sign_63 : decode cX11_sign 63 = .ok (.istore 4, 2) := by decide +kernel
theorem dX11_sign_65 : decode cX11_sign 65 = .ok (.iload_n 2, 1) := by decide +kernel
theorem dX11_sign_66 : decode cX11_sign 66 = .ok (.bipush 42, 2) := by decide +kernel
theorem dX11_sign_68 : decode cX11_sign 68 = .ok (.if_icmp .ne 7, 3) := by decide +kernel
theorem dX11_sign_71 : decode cX11_sign 71 = .ok (.bipush 10, 2) := by decide +kernel
theorem dX11_sign_73 : decode cX11_sign 73 = .ok (.istore 4, 2) := by decide +kernel
theorem dX11_sign_75 : decode cX11_sign 75 = .ok (.iload_n 2, 1) := by decide +kernel
theorem dX11_sign_76 : decode cX11_sign 76 = .ok (.bipush 47, 2) := by decide +kernel
theorem dX11_sign_78 : decode cX11_sign 78 = .ok (.if_icmp .ne 7, 3) := by decide +kernel
theorem dX11_sign_81 : decode cX11_sign 81 = .ok (.bipush 15, 2) := by decide +kernel
theorem dX11_sign_83 : decode cX11_sign 83 = .ok (.istore 4, 2) := by decide +kernel
theorem dX11_sign_85 : decode cX11_sign 85 = .ok (.iload_n 2, 1) := by decide +kernel
theorem dX11_sign_86 : decode cX11_sign 86 = .ok (.bipush 60, 2) := by decide +kernel
theorem dX11_sign_88 : decode cX11_sign 88 = .ok (.if_icmp .ne 7, 3) := by decide +kernel
theorem dX11_sign_91 : decode cX11_sign 91 = .ok (.bipush 13, 2) := by decide +kernel
theorem dX11_sign_93 : decode cX11_sign 93 = .ok (.istore 4, 2) := by decide +kernel
theorem dX11_sign_95 : decode cX11_sign 95 = .ok (.aload_n 0, 1) := by decide +kernel
theorem dX11_sign_96 : decode cX11_sign 96 = .ok (.iload 4, 2) := by decide +kernel
theorem dX11_sign_98 : decode cX11_sign 98 = .ok (.iload_n 1, 1) := by decide +kernel
theorem dX11_sign_99 : decode cX11_sign 99 = .ok (.iconst 0, 1) := by decide +kernel
theorem dX11_sign_100 : decode cX11_sign 100 = .ok (.lconst 0, 1) := by decide +kernel
theorem dX11_sign_101 : decode cX11_sign 101 = .ok (.invokevirtual 167, 3) := by decide +kernel
theorem dX11_sign_104 : decode cX11_sign 104 = .ok (.iconst 1, 1) := by decide +kernel
theorem dX11_sign_105 : decode cX11_sign 105 = .ok (.ireturn, 1) := by decide +kernel
theorem dX11_is_0 : decode cX11_is 0 = .ok (.aload_n 0, 1) := by decide +kernel
theorem dX11_is_1 : decode cX11_is 1 = .ok (.getfield 182, 3) := by decide +kernel
theorem dX11_is_4 : decode cX11_is 4 = .ok (.ifCond .ne 20, 3) := by decide +kernel
theorem dX11_is_7 : decode cX11_is 7 = .ok (.aload_n 0, 1) := by decide +kernel
theorem dX11_is_8 : decode cX11_is 8 = .ok (.getfield 20, 3) := by decide +kernel
theorem dX11_is_11 : decode cX11_is 11 = .ok (.aload_n 0, 1) := by decide +kernel
theorem dX11_is_12 : decode cX11_is 12 = .ok (.getfield 185, 3) := by decide +kernel
theorem dX11_is_15 : decode cX11_is 15 = .ok (.iaload, 1) := by decide +kernel
theorem dX11_is_16 : decode cX11_is 16 = .ok (.iload_n 1, 1) := by decide +kernel
theorem dX11_is_17 : decode cX11_is 17 = .ok (.if_icmp .ne 7, 3) := by decide +kernel
theorem dX11_is_20 : decode cX11_is 20 = .ok (.iconst 1, 1) := by decide +kernel
theorem dX11_is_21 : decode cX11_is 21 = .ok (.goto 4, 3) := by decide +kernel
theorem dX11_is_24 : decode cX11_is 24 = .ok (.iconst 0, 1) := by decide +kernel
theorem dX11_is_25 : decode cX11_is 25 = .ok (.ireturn, 1) := by decide +kernel
theorem dX11_fail_0 : decode cX11_fail 0 = .ok (.aload_n 0, 1) := by decide +kernel
theorem dX11_fail_1 : decode cX11_fail 1 = .ok (.getfield 182, 3) := by decide +kernel
theorem dX11_fail_4 : decode cX11_fail 4 = .ok (.ifCond .le 4, 3) := by decide +kernel
theorem dX11_fail_7 : decode cX11_fail 7 = .ok (.return_, 1) := by decide +kernel
theorem dX11_fail_8 : decode cX11_fail 8 = .ok (.aload_n 0, 1) := by decide +kernel
theorem dX11_fail_9 : decode cX11_fail 9 = .ok (.iload_n 1, 1) := by decide +kernel
theorem dX11_fail_10 : decode cX11_fail 10 = .ok (.putfield 182, 3) := by decide +kernel
theorem dX11_fail_13 : decode cX11_fail 13 = .ok (.aload_n 0, 1) := by decide +kernel
theorem dX11_fail_14 : decode cX11_fail 14 = .ok (.aload_n 0, 1) := by decide +kernel
theorem dX11_fail_15 : decode cX11_fail 15 = .ok (.getfield 24, 3) := by decide +kernel
theorem dX11_fail_18 : decode cX11_fail 18 = .ok (.aload_n 0, 1) := by decide +kernel
theorem dX11_fail_19 : decode cX11_fail 19 = .ok (.getfield 185, 3) := by decide +kernel
theorem dX11_fail_22 : decode cX11_fail 22 = .ok (.iaload, 1) := by decide +kernel
theorem dX11_fail_23 : decode cX11_fail 23 = .ok (.putfield 188, 3) := by decide +kernel
theorem dX11_fail_26 : decode cX11_fail 26 = .ok (.return_, 1) := by decide +kernel
theorem dX11_wrong_0 : decode cX11_wrong 0 = .ok (.aload_n 0, 1) := by decide +kernel
theorem dX11_wrong_1 : decode cX11_wrong 1 = .ok (.getfield 24, 3) := by decide +kernel
theorem dX11_wrong_4 : decode cX11_wrong 4 = .ok (.iload_n 2, 1) := by decide +kernel
theorem dX11_wrong_5 : decode cX11_wrong 5 = .ok (.iaload, 1) := by decide +kernel
theorem dX11_wrong_6 : decode cX11_wrong 6 = .ok (.istore_n 3, 1) := by decide +kernel
theorem dX11_wrong_7 : decode cX11_wrong 7 = .ok (.aload_n 0, 1) := by decide +kernel
theorem dX11_wrong_8 : decode cX11_wrong 8 = .ok (.getfield 182, 3) := by decide +kernel
theorem dX11_wrong_11 : decode cX11_wrong 11 = .ok (.ifCond .gt 34, 3) := by decide +kernel
theorem dX11_wrong_14 : decode cX11_wrong 14 = .ok (.aload_n 0, 1) := by decide +kernel
theorem dX11_wrong_15 : decode cX11_wrong 15 = .ok (.getfield 191, 3) := by decide +kernel
theorem dX11_wrong_18 : decode cX11_wrong 18 = .ok (.ifCond .eq 28, 3) := by decide +kernel
theorem dX11_wrong_21 : decode cX11_wrong 21 = .ok (.iload_n 3, 1) := by decide +kernel
theorem dX11_wrong_22 : decode cX11_wrong 22 = .ok (.aload_n 0, 1) := by decide +kernel
theorem dX11_wrong_23 : decode cX11_wrong 23 = .ok (.getfield 194, 3) := by decide +kernel
theorem dX11_wrong_26 : decode cX11_wrong 26 = .ok (.if_icmp .gt 19, 3) := by decide +kernel
theorem dX11_wrong_29 : decode cX11_wrong 29 = .ok (.iload_n 3, 1) := by decide +kernel
theorem dX11_wrong_30 : decode cX11_wrong 30 = .ok (.aload_n 0, 1) := by decide +kernel
theorem dX11_wrong_31 : decode cX11_wrong 31 = .ok (.getfield 194, 3) := by decide +kernel
theorem dX11_wrong_34 : decode cX11_wrong 34 = .ok (.if_icmp .ne 12, 3) := by decide +kernel
theorem dX11_wrong_37 : decode cX11_wrong 37 = .ok (.iload_n 1, 1) := by decide +kernel
theorem dX11_wrong_38 : decode cX11_wrong 38 = .ok (.aload_n 0, 1) := by decide +kernel
theorem dX11_wrong_39 : decode cX11_wrong 39 = .ok (.getfield 191, 3) := by decide +kernel
theorem dX11_wrong_42 : decode cX11_wrong 42 = .ok (.if_icmp .lt 4, 3) := by decide +kernel
theorem dX11_wrong_45 : decode cX11_wrong 45 = .ok (.return_, 1) := by decide +kernel
theorem dX11_wrong_46 : decode cX11_wrong 46 = .ok (.aload_n 0, 1) := by decide +kernel
theorem dX11_wrong_47 : decode cX11_wrong 47 = .ok (.iload_n 1, 1) := by decide +kernel
theorem dX11_wrong_48 : decode cX11_wrong 48 = .ok (.putfield 191, 3) := by decide +kernel
theorem dX11_wrong_51 : decode cX11_wrong 51 = .ok (.aload_n 0, 1) := by decide +kernel
theorem dX11_wrong_52 : decode cX11_wrong 52 = .ok (.iload_n 3, 1) := by decide +kernel
theorem dX11_wrong_53 : decode cX11_wrong 53 = .ok (.putfield 194, 3) := by decide +kernel
theorem dX11_wrong_56 : decode cX11_wrong 56 = .ok (.return_, 1) := by decide +kernel
theorem dX11_goesOn_0 : decode cX11_goesOn 0 = .ok (.aload_n 0, 1) := by decide +kernel
theorem dX11_goesOn_1 : decode cX11_goesOn 1 = .ok (.getfield 185, 3) := by decide +kernel
theorem dX11_goesOn_4 : decode cX11_goesOn 4 = .ok (.sipush 400, 3) := by decide +kernel
theorem dX11_goesOn_7 : decode cX11_goesOn 7 = .ok (.if_icmp .ne 11, 3) := by decide +kernel
theorem dX11_goesOn_10 : decode cX11_goesOn 10 = .ok (.aload_n 0, 1) := by decide +kernel
theorem dX11_goesOn_11 : decode cX11_goesOn 11 = .ok (.iconst 2, 1) := by decide +kernel
theorem dX11_goesOn_12 : decode cX11_goesOn 12 = .ok (.invokevirtual 197, 3) := by decide +kernel
theorem dX11_goesOn_15 : decode cX11_goesOn 15 = .ok (.goto 13, 3) := by decide +kernel
theorem dX11_goesOn_18 : decode cX11_goesOn 18 = .ok (.aload_n 0, 1) := by decide +kernel
theorem dX11_goesOn_19 : decode cX11_goesOn 19 = .ok (.dup, 1) := by decide +kernel
theorem dX11_goesOn_20 : decode cX11_goesOn 20 = .ok (.getfield 185, 3) := by decide +kernel
theorem dX11_goesOn_23 : decode cX11_goesOn 23 = .ok (.iconst 1, 1) := by decide +kernel
theorem dX11_goesOn_24 : decode cX11_goesOn 24 = .ok (.iadd, 1) := by decide +kernel
theorem dX11_goesOn_25 : decode cX11_goesOn 25 = .ok (.putfield 185, 3) := by decide +kernel
theorem dX11_goesOn_28 : decode cX11_goesOn 28 = .ok (.return_, 1) := by decide +kernel
theorem dX11_must_0 : decode cX11_must 0 = .ok (.aload_n 0, 1) := by decide +kernel
theorem dX11_must_1 : decode cX11_must 1 = .ok (.iload_n 1, 1) := by decide +kernel
theorem dX11_must_2 : decode cX11_must 2 = .ok (.invokevirtual 200, 3) := by decide +kernel
theorem dX11_must_5 : decode cX11_must 5 = .ok (.ifCond .eq 10, 3) := by decide +kernel
theorem dX11_must_8 : decode cX11_must 8 = .ok (.aload_n 0, 1) := by decide +kernel
theorem dX11_must_9 : decode cX11_must 9 = .ok (.invokevirtual 203, 3) := by decide +kernel
theorem dX11_must_12 : decode cX11_must 12 = .ok (.goto 8, 3) := by decide +kernel
theorem dX11_must_15 : decode cX11_must 15 = .ok (.aload_n 0, 1) := by decide +kernel
theorem dX11_must_16 : decode cX11_must 16 = .ok (.iconst 1, 1) := by decide +kernel
theorem dX11_must_17 : decode cX11_must 17 = .ok (.invokevirtual 197, 3) := by decide +kernel
theorem dX11_must_20 : decode cX11_must 20 = .ok (.return_, 1) := by decide +kernel
theorem dX11_plain_0 : decode cX11_plain 0 = .ok (.aload_n 0, 1) := by decide +kernel
theorem dX11_plain_1 : decode cX11_plain 1 = .ok (.getfield 43, 3) := by decide +kernel
theorem dX11_plain_4 : decode cX11_plain 4 = .ok (.iload_n 1, 1) := by decide +kernel
theorem dX11_plain_5 : decode cX11_plain 5 = .ok (.iconst 0, 1) := by decide +kernel
theorem dX11_plain_6 : decode cX11_plain 6 = .ok (.iastore, 1) := by decide +kernel
theorem dX11_plain_7 : decode cX11_plain 7 = .ok (.aload_n 0, 1) := by decide +kernel
theorem dX11_plain_8 : decode cX11_plain 8 = .ok (.getfield 52, 3) := by decide +kernel
theorem dX11_plain_11 : decode cX11_plain 11 = .ok (.iload_n 1, 1) := by decide +kernel
theorem dX11_plain_12 : decode cX11_plain 12 = .ok (.iconst 0, 1) := by decide +kernel
theorem dX11_plain_13 : decode cX11_plain 13 = .ok (.iastore, 1) := by decide +kernel
theorem dX11_plain_14 : decode cX11_plain 14 = .ok (.aload_n 0, 1) := by decide +kernel
theorem dX11_plain_15 : decode cX11_plain 15 = .ok (.getfield 55, 3) := by decide +kernel
theorem dX11_plain_18 : decode cX11_plain 18 = .ok (.iload_n 1, 1) := by decide +kernel
theorem dX11_plain_19 : decode cX11_plain 19 = .ok (.iconst 0, 1) := by decide +kernel
theorem dX11_plain_20 : decode cX11_plain 20 = .ok (.iastore, 1) := by decide +kernel
theorem dX11_plain_21 : decode cX11_plain 21 = .ok (.iconst 0, 1) := by decide +kernel
theorem dX11_plain_22 : decode cX11_plain 22 = .ok (.istore_n 2, 1) := by decide +kernel
theorem dX11_plain_23 : decode cX11_plain 23 = .ok (.iload_n 2, 1) := by decide +kernel
theorem dX11_plain_24 : decode cX11_plain 24 = .ok (.iconst 4, 1) := by decide +kernel
theorem dX11_plain_25 : decode cX11_plain 25 = .ok (.if_icmp .ge 31, 3) := by decide +kernel
theorem dX11_plain_28 : decode cX11_plain 28 = .ok (.aload_n 0, 1) := by decide +kernel
theorem dX11_plain_29 : decode cX11_plain 29 = .ok (.getfield 58, 3) := by decide +kernel
theorem dX11_plain_32 : decode cX11_plain 32 = .ok (.iconst 4, 1) := by decide +kernel
theorem dX11_plain_33 : decode cX11_plain 33 = .ok (.iload_n 1, 1) := by decide +kernel
theorem dX11_plain_34 : decode cX11_plain 34 = .ok (.imul, 1) := by decide +kernel
theorem dX11_plain_35 : decode cX11_plain 35 = .ok (.iload_n 2, 1) := by decide +kernel
theorem dX11_plain_36 : decode cX11_plain 36 = .ok (.iadd, 1) := by decide +kernel
theorem dX11_plain_37 : decode cX11_plain 37 = .ok (.iconst 0, 1) := by decide +kernel
theorem dX11_plain_38 : decode cX11_plain 38 = .ok (.iastore, 1) := by decide +kernel
theorem dX11_plain_39 : decode cX11_plain 39 = .ok (.aload_n 0, 1) := by decide +kernel
theorem dX11_plain_40 : decode cX11_plain 40 = .ok (.getfield 61, 3) := by decide +kernel
theorem dX11_plain_43 : decode cX11_plain 43 = .ok (.iconst 4, 1) := by decide +kernel
theorem dX11_plain_44 : decode cX11_plain 44 = .ok (.iload_n 1, 1) := by decide +kernel
theorem dX11_plain_45 : decode cX11_plain 45 = .ok (.imul, 1) := by decide +kernel
theorem dX11_plain_46 : decode cX11_plain 46 = .ok (.iload_n 2, 1) := by decide +kernel
theorem dX11_plain_47 : decode cX11_plain 47 = .ok (.iadd, 1) := by decide +kernel
theorem dX11_plain_48 : decode cX11_plain 48 = .ok (.iconst 0, 1) := by decide +kernel
theorem dX11_plain_49 : decode cX11_plain 49 = .ok (.iastore, 1) := by decide +kernel
theorem dX11_plain_50 : decode cX11_plain 50 = .ok (.iinc 2 1, 3) := by decide +kernel
theorem dX11_plain_53 : decode cX11_plain 53 = .ok (.goto (-30), 3) := by decide +kernel
theorem dX11_plain_56 : decode cX11_plain 56 = .ok (.return_, 1) := by decide +kernel
theorem dX11_read_0 : decode cX11_read 0 = .ok (.aload_n 0, 1) := by decide +kernel
theorem dX11_read_1 : decode cX11_read 1 = .ok (.aload_n 0, 1) := by decide +kernel
theorem dX11_read_2 : decode cX11_read 2 = .ok (.getfield 149, 3) := by decide +kernel
theorem dX11_read_5 : decode cX11_read 5 = .ok (.putfield 155, 3) := by decide +kernel
theorem dX11_read_8 : decode cX11_read 8 = .ok (.iconst 0, 1) := by decide +kernel
theorem dX11_read_9 : decode cX11_read 9 = .ok (.istore_n 1, 1) := by decide +kernel
theorem dX11_read_10 : decode cX11_read 10 = .ok (.iload_n 1, 1) := by decide +kernel
theorem dX11_read_11 : decode cX11_read 11 = .ok (.aload_n 0, 1) := by decide +kernel
theorem dX11_read_12 : decode cX11_read 12 = .ok (.getfield 155, 3) := by decide +kernel
theorem dX11_read_15 : decode cX11_read 15 = .ok (.if_icmp .ge 21, 3) := by decide +kernel
theorem dX11_read_18 : decode cX11_read 18 = .ok (.aload_n 0, 1) := by decide +kernel
theorem dX11_read_19 : decode cX11_read 19 = .ok (.getfield 17, 3) := by decide +kernel
theorem dX11_read_22 : decode cX11_read 22 = .ok (.iload_n 1, 1) := by decide +kernel
theorem dX11_read_23 : decode cX11_read 23 = .ok (.aload_n 0, 1) := by decide +kernel
theorem dX11_read_24 : decode cX11_read 24 = .ok (.getfield 13, 3) := by decide +kernel
theorem dX11_read_27 : decode cX11_read 27 = .ok (.iload_n 1, 1) := by decide +kernel
theorem dX11_read_28 : decode cX11_read 28 = .ok (.baload, 1) := by decide +kernel
theorem dX11_read_29 : decode cX11_read 29 = .ok (.bastore, 1) := by decide +kernel
theorem dX11_read_30 : decode cX11_read 30 = .ok (.iinc 1 1, 3) := by decide +kernel
theorem dX11_read_33 : decode cX11_read 33 = .ok (.goto (-23), 3) := by decide +kernel
theorem dX11_read_36 : decode cX11_read 36 = .ok (.aload_n 0, 1) := by decide +kernel
theorem dX11_read_37 : decode cX11_read 37 = .ok (.iconst 0, 1) := by decide +kernel
theorem dX11_read_38 : decode cX11_read 38 = .ok (.putfield 149, 3) := by decide +kernel
theorem dX11_read_41 : decode cX11_read 41 = .ok (.aload_n 0, 1) := by decide +kernel
theorem dX11_read_42 : decode cX11_read 42 = .ok (.invokevirtual 206, 3) := by decide +kernel
theorem dX11_read_45 : decode cX11_read 45 = .ok (.aload_n 0, 1) := by decide +kernel
theorem dX11_read_46 : decode cX11_read 46 = .ok (.iconst 0, 1) := by decide +kernel
theorem dX11_read_47 : decode cX11_read 47 = .ok (.putfield 185, 3) := by decide +kernel
theorem dX11_read_50 : decode cX11_read 50 = .ok (.aload_n 0, 1) := by decide +kernel
theorem dX11_read_51 : decode cX11_read 51 = .ok (.iconst 0, 1) := by decide +kernel
theorem dX11_read_52 : decode cX11_read 52 = .ok (.putfield 209, 3) := by decide +kernel
theorem dX11_read_55 : decode cX11_read 55 = .ok (.aload_n 0, 1) := by decide +kernel
theorem dX11_read_56 : decode cX11_read 56 = .ok (.iconst 0, 1) := by decide +kernel
theorem dX11_read_57 : decode cX11_read 57 = .ok (.putfield 182, 3) := by decide +kernel
theorem dX11_read_60 : decode cX11_read 60 = .ok (.aload_n 0, 1) := by decide +kernel
theorem dX11_read_61 : decode cX11_read 61 = .ok (.iconst 0, 1) := by decide +kernel
theorem dX11_read_62 : decode cX11_read 62 = .ok (.putfield 191, 3) := by decide +kernel
theorem dX11_read_65 : decode cX11_read 65 = .ok (.aload_n 0, 1) := by decide +kernel
theorem dX11_read_66 : decode cX11_read 66 = .ok (.iconst 1, 1) := by decide +kernel
theorem dX11_read_67 : decode cX11_read 67 = .ok (.aload_n 0, 1) := by decide +kernel
theorem dX11_read_68 : decode cX11_read 68 = .ok (.getfield 212, 3) := by decide +kernel
theorem dX11_read_71 : decode cX11_read 71 = .ok (.isub, 1) := by decide +kernel
theorem dX11_read_72 : decode cX11_read 72 = .ok (.putfield 215, 3) := by decide +kernel
theorem dX11_read_75 : decode cX11_read 75 = .ok (.aload_n 0, 1) := by decide +kernel
theorem dX11_read_76 : decode cX11_read 76 = .ok (.iconst 0, 1) := by decide +kernel
theorem dX11_read_77 : decode cX11_read 77 = .ok (.putfield 218, 3) := by decide +kernel
theorem dX11_read_80 : decode cX11_read 80 = .ok (.aload_n 0, 1) := by decide +kernel
theorem dX11_read_81 : decode cX11_read 81 = .ok (.aload_n 0, 1) := by decide +kernel
theorem dX11_read_82 : decode cX11_read 82 = .ok (.getfield 215, 3) := by decide +kernel
theorem dX11_read_85 : decode cX11_read 85 = .ok (.invokevirtual 131, 3) := by decide +kernel
theorem dX11_read_88 : decode cX11_read 88 = .ok (.aload_n 0, 1) := by decide +kernel
theorem dX11_read_89 : decode cX11_read 89 = .ok (.sipush 130, 3) := by decide +kernel
theorem dX11_read_92 : decode cX11_read 92 = .ok (.aload_n 0, 1) := by decide +kernel
theorem dX11_read_93 : decode cX11_read 93 = .ok (.getfield 215, 3) := by decide +kernel
theorem dX11_read_96 : decode cX11_read 96 = .ok (.imul, 1) := by decide +kernel
theorem dX11_read_97 : decode cX11_read 97 = .ok (.putfield 221, 3) := by decide +kernel
theorem dX11_read_100 : decode cX11_read 100 = .ok (.aload_n 0, 1) := by decide +kernel
theorem dX11_read_101 : decode cX11_read 101 = .ok (.sipush 420, 3) := by decide +kernel
theorem dX11_read_104 : decode cX11_read 104 = .ok (.aload_n 0, 1) := by decide +kernel
theorem dX11_read_105 : decode cX11_read 105 = .ok (.getfield 215, 3) := by decide +kernel
theorem dX11_read_108 : decode cX11_read 108 = .ok (.imul, 1) := by decide +kernel
theorem dX11_read_109 : decode cX11_read 109 = .ok (.putfield 224, 3) := by decide +kernel
theorem dX11_read_112 : decode cX11_read 112 = .ok (.aload_n 0, 1) := by decide +kernel
theorem dX11_read_113 : decode cX11_read 113 = .ok (.getfield 182, 3) := by decide +kernel
theorem dX11_read_116 : decode cX11_read 116 = .ok (.ifCond .ne 18, 3) := by decide +kernel
theorem dX11_read_119 : decode cX11_read 119 = .ok (.aload_n 0, 1) := by decide +kernel
theorem dX11_read_120 : decode cX11_read 120 = .ok (.iconst 0, 1) := by decide +kernel
theorem dX11_read_121 : decode cX11_read 121 = .ok (.invokevirtual 200, 3) := by decide +kernel
theorem dX11_read_124 : decode cX11_read 124 = .ok (.ifCond .ne 10, 3) := by decide +kernel
theorem dX11_read_127 : decode cX11_read 127 = .ok (.aload_n 0, 1) := by decide +kernel
theorem dX11_read_128 : decode cX11_read 128 = .ok (.invokevirtual 227, 3) := by decide +kernel
theorem dX11_read_131 : decode cX11_read 131 = .ok (.goto (-19), 3) := by decide +kernel
theorem dX11_read_134 : decode cX11_read 134 = .ok (.aload_n 0, 1) := by decide +kernel
theorem dX11_read_135 : decode cX11_read 135 = .ok (.aload_n 0, 1) := by decide +kernel
theorem dX11_read_136 : decode cX11_read 136 = .ok (.getfield 182, 3) := by decide +kernel
theorem dX11_read_139 : decode cX11_read 139 = .ok (.ifCond .le 10, 3) := by decide +kernel
theorem dX11_read_142 : decode cX11_read 142 = .ok (.aload_n 0, 1) := by decide +kernel
theorem dX11_read_143 : decode cX11_read 143 = .ok (.getfield 188, 3) := by decide +kernel
theorem dX11_read_146 : decode cX11_read 146 = .ok (.goto 18, 3) := by decide +kernel
theorem dX11_read_149 : decode cX11_read 149 = .ok (.aload_n 0, 1) := by decide +kernel
theorem dX11_read_150 : decode cX11_read 150 = .ok (.getfield 191, 3) := by decide +kernel
theorem dX11_read_153 : decode cX11_read 153 = .ok (.ifCond .le 10, 3) := by decide +kernel
theorem dX11_read_156 : decode cX11_read 156 = .ok (.aload_n 0, 1) := by decide +kernel
theorem dX11_read_157 : decode cX11_read 157 = .ok (.getfield 194, 3) := by decide +kernel
theorem dX11_read_160 : decode cX11_read 160 = .ok (.goto 4, 3) := by decide +kernel
theorem dX11_read_163 : decode cX11_read 163 = .ok (.iconst (-1), 1) := by decide +kernel
theorem dX11_read_164 : decode cX11_read 164 = .ok (.putfield 37, 3) := by decide +kernel
theorem dX11_read_167 : decode cX11_read 167 = .ok (.aload_n 0, 1) := by decide +kernel
theorem dX11_read_168 : decode cX11_read 168 = .ok (.getfield 182, 3) := by decide +kernel
theorem dX11_read_171 : decode cX11_read 171 = .ok (.ifCond .le 8, 3) := by decide +kernel
theorem dX11_read_174 : decode cX11_read 174 = .ok (.aload_n 0, 1) := by decide +kernel
theorem dX11_read_175 : decode cX11_read 175 = .ok (.getfield 182, 3) := by decide +kernel
theorem dX11_read_178 : decode cX11_read 178 = .ok (.ireturn, 1) := by decide +kernel
theorem dX11_read_179 : decode cX11_read 179 = .ok (.aload_n 0, 1) := by decide +kernel
theorem dX11_read_180 : decode cX11_read 180 = .ok (.getfield 191, 3) := by decide +kernel
theorem dX11_read_183 : decode cX11_read 183 = .ok (.ifCond .le 8, 3) := by decide +kernel
theorem dX11_read_186 : decode cX11_read 186 = .ok (.aload_n 0, 1) := by decide +kernel
theorem dX11_read_187 : decode cX11_read 187 = .ok (.getfield 191, 3) := by decide +kernel
theorem dX11_read_190 : decode cX11_read 190 = .ok (.ireturn, 1) := by decide +kernel
theorem dX11_read_191 : decode cX11_read 191 = .ok (.aload_n 0, 1) := by decide +kernel
theorem dX11_read_192 : decode cX11_read 192 = .ok (.aload_n 0, 1) := by decide +kernel
theorem dX11_read_193 : decode cX11_read 193 = .ok (.getfield 215, 3) := by decide +kernel
theorem dX11_read_196 : decode cX11_read 196 = .ok (.putfield 212, 3) := by decide +kernel
theorem dX11_read_199 : decode cX11_read 199 = .ok (.aload_n 0, 1) := by decide +kernel
theorem dX11_read_200 : decode cX11_read 200 = .ok (.invokevirtual 143, 3) := by decide +kernel
theorem dX11_read_203 : decode cX11_read 203 = .ok (.aload_n 0, 1) := by decide +kernel
theorem dX11_read_204 : decode cX11_read 204 = .ok (.invokevirtual 146, 3) := by decide +kernel
theorem dX11_read_207 : decode cX11_read 207 = .ok (.aload_n 0, 1) := by decide +kernel
theorem dX11_read_208 : decode cX11_read 208 = .ok (.iconst 0, 1) := by decide +kernel
theorem dX11_read_209 : decode cX11_read 209 = .ok (.putfield 230, 3) := by decide +kernel
theorem dX11_read_212 : decode cX11_read 212 = .ok (.aload_n 0, 1) := by decide +kernel
theorem dX11_read_213 : decode cX11_read 213 = .ok (.iconst 0, 1) := by decide +kernel
theorem dX11_read_214 : decode cX11_read 214 = .ok (.putfield 233, 3) := by decide +kernel
theorem dX11_read_217 : decode cX11_read 217 = .ok (.iconst 0, 1) := by decide +kernel
theorem dX11_read_218 : decode cX11_read 218 = .ok (.istore_n 1, 1) := by decide +kernel
theorem dX11_read_219 : decode cX11_read 219 = .ok (.iload_n 1, 1) := by decide +kernel
theorem dX11_read_220 : decode cX11_read 220 = .ok (.iconst 3, 1) := by decide +kernel
theorem dX11_read_221 : decode cX11_read 221 = .ok (.if_icmp .ge 16, 3) := by decide +kernel
theorem dX11_read_224 : decode cX11_read 224 = .ok (.aload_n 0, 1) := by decide +kernel
theorem dX11_read_225 : decode cX11_read 225 = .ok (.getfield 125, 3) := by decide +kernel
theorem dX11_read_228 : decode cX11_read 228 = .ok (.iload_n 1, 1) := by decide +kernel
theorem dX11_read_229 : decode cX11_read 229 = .ok (.iconst 0, 1) := by decide +kernel
theorem dX11_read_230 : decode cX11_read 230 = .ok (.bastore, 1) := by decide +kernel
theorem dX11_read_231 : decode cX11_read 231 = .ok (.iinc 1 1, 3) := by decide +kernel
theorem dX11_read_234 : decode cX11_read 234 = .ok (.goto (-15), 3) := by decide +kernel
theorem dX11_read_237 : decode cX11_read 237 = .ok (.iconst 0, 1) := by decide +kernel
theorem dX11_read_238 : decode cX11_read 238 = .ok (.ireturn, 1) := by decide +kernel
theorem dX11_place_0 : decode cX11_place 0 = .ok (.aload_n 0, 1) := by decide +kernel
theorem dX11_place_1 : decode cX11_place 1 = .ok (.getfield 37, 3) := by decide +kernel
theorem dX11_place_4 : decode cX11_place 4 = .ok (.ireturn, 1) := by decide +kernel
theorem dX11_roomFor_0 : decode cX11_roomFor 0 = .ok (.iload_n 1, 1) := by decide +kernel
theorem dX11_roomFor_1 : decode cX11_roomFor 1 = .ok (.iload_n 2, 1) := by decide +kernel
theorem dX11_roomFor_2 : decode cX11_roomFor 2 = .ok (.if_icmp .ne 8, 3) := by decide +kernel
theorem dX11_roomFor_5 : decode cX11_roomFor 5 = .ok (.aload_n 0, 1) := by decide +kernel
theorem dX11_roomFor_6 : decode cX11_roomFor 6 = .ok (.iconst 2, 1) := by decide +kernel
theorem dX11_roomFor_7 : decode cX11_roomFor 7 = .ok (.invokevirtual 197, 3) := by decide +kernel
theorem dX11_roomFor_10 : decode cX11_roomFor 10 = .ok (.aload_n 0, 1) := by decide +kernel
theorem dX11_roomFor_11 : decode cX11_roomFor 11 = .ok (.getfield 182, 3) := by decide +kernel
theorem dX11_roomFor_14 : decode cX11_roomFor 14 = .ok (.ifCond .ne 7, 3) := by decide +kernel
theorem dX11_roomFor_17 : decode cX11_roomFor 17 = .ok (.aload_n 0, 1) := by decide +kernel
theorem dX11_roomFor_18 : decode cX11_roomFor 18 = .ok (.invokevirtual 203, 3) := by decide +kernel
theorem dX11_roomFor_21 : decode cX11_roomFor 21 = .ok (.return_, 1) := by decide +kernel
theorem dX11_toldInt_0 : decode cX11_toldInt 0 = .ok (.aload_n 0, 1) := by decide +kernel
theorem dX11_toldInt_1 : decode cX11_toldInt 1 = .ok (.invokevirtual 203, 3) := by decide +kernel
theorem dX11_toldInt_4 : decode cX11_toldInt 4 = .ok (.aload_n 0, 1) := by decide +kernel
theorem dX11_toldInt_5 : decode cX11_toldInt 5 = .ok (.iconst 0, 1) := by decide +kernel
theorem dX11_toldInt_6 : decode cX11_toldInt 6 = .ok (.iload_n 1, 1) := by decide +kernel
theorem dX11_toldInt_7 : decode cX11_toldInt 7 = .ok (.invokevirtual 236, 3) := by decide +kernel
theorem dX11_toldInt_10 : decode cX11_toldInt 10 = .ok (.istore_n 2, 1) := by decide +kernel
theorem dX11_toldInt_11 : decode cX11_toldInt 11 = .ok (.aload_n 0, 1) := by decide +kernel
theorem dX11_toldInt_12 : decode cX11_toldInt 12 = .ok (.iconst 4, 1) := by decide +kernel
theorem dX11_toldInt_13 : decode cX11_toldInt 13 = .ok (.invokevirtual 240, 3) := by decide +kernel
theorem dX11_toldInt_16 : decode cX11_toldInt 16 = .ok (.iload_n 2, 1) := by decide +kernel
theorem dX11_toldInt_17 : decode cX11_toldInt 17 = .ok (.ireturn, 1) := by decide +kernel
theorem dX11_tellOne_0 : decode cX11_tellOne 0 = .ok (.aload_n 0, 1) := by decide +kernel
theorem dX11_tellOne_1 : decode cX11_tellOne 1 = .ok (.getfield 20, 3) := by decide +kernel
theorem dX11_tellOne_4 : decode cX11_tellOne 4 = .ok (.aload_n 0, 1) := by decide +kernel
theorem dX11_tellOne_5 : decode cX11_tellOne 5 = .ok (.getfield 185, 3) := by decide +kernel
theorem dX11_tellOne_8 : decode cX11_tellOne 8 = .ok (.iaload, 1) := by decide +kernel
theorem dX11_tellOne_9 : decode cX11_tellOne 9 = .ok (.lookupswitch 101 #[(20, 35), (21, 64), (26, 82)], 35) := by decide +kernel
theorem dX11_tellOne_44 : decode cX11_tellOne 44 = .ok (.aload_n 0, 1) := by decide +kernel
theorem dX11_tellOne_45 : decode cX11_tellOne 45 = .ok (.aload_n 0, 1) := by decide +kernel
theorem dX11_tellOne_46 : decode cX11_tellOne 46 = .ok (.getfield 43, 3) := by decide +kernel
theorem dX11_tellOne_49 : decode cX11_tellOne 49 = .ok (.aload_n 0, 1) := by decide +kernel
theorem dX11_tellOne_50 : decode cX11_tellOne 50 = .ok (.getfield 215, 3) := by decide +kernel
theorem dX11_tellOne_53 : decode cX11_tellOne 53 = .ok (.iaload, 1) := by decide +kernel
theorem dX11_tellOne_54 : decode cX11_tellOne 54 = .ok (.bipush 7, 2) := by decide +kernel
theorem dX11_tellOne_56 : decode cX11_tellOne 56 = .ok (.invokevirtual 243, 3) := by decide +kernel
theorem dX11_tellOne_59 : decode cX11_tellOne 59 = .ok (.aload_n 0, 1) := by decide +kernel
theorem dX11_tellOne_60 : decode cX11_tellOne 60 = .ok (.getfield 182, 3) := by decide +kernel
theorem dX11_tellOne_63 : decode cX11_tellOne 63 = .ok (.ifCond .ne 100, 3) := by decide +kernel
theorem dX11_tellOne_66 : decode cX11_tellOne 66 = .ok (.aload_n 0, 1) := by decide +kernel
theorem dX11_tellOne_67 : decode cX11_tellOne 67 = .ok (.invokevirtual 247, 3) := by decide +kernel
theorem dX11_tellOne_70 : decode cX11_tellOne 70 = .ok (.goto 93, 3) := by decide +kernel
theorem dX11_tellOne_73 : decode cX11_tellOne 73 = .ok (.aload_n 0, 1) := by decide +kernel
theorem dX11_tellOne_74 : decode cX11_tellOne 74 = .ok (.getfield 52, 3) := by decide +kernel
theorem dX11_tellOne_77 : decode cX11_tellOne 77 = .ok (.aload_n 0, 1) := by decide +kernel
theorem dX11_tellOne_78 : decode cX11_tellOne 78 = .ok (.getfield 215, 3) := by decide +kernel
theorem dX11_tellOne_81 : decode cX11_tellOne 81 = .ok (.aload_n 0, 1) := by decide +kernel
theorem dX11_tellOne_82 : decode cX11_tellOne 82 = .ok (.bipush 99, 2) := by decide +kernel
theorem dX11_tellOne_84 : decode cX11_tellOne 84 = .ok (.invokevirtual 250, 3) := by decide +kernel
theorem dX11_tellOne_87 : decode cX11_tellOne 87 = .ok (.iastore, 1) := by decide +kernel
theorem dX11_tellOne_88 : decode cX11_tellOne 88 = .ok (.goto 75, 3) := by decide +kernel
theorem dX11_tellOne_91 : decode cX11_tellOne 91 = .ok (.aload_n 0, 1) := by decide +kernel
theorem dX11_tellOne_92 : decode cX11_tellOne 92 = .ok (.getfield 55, 3) := by decide +kernel
theorem dX11_tellOne_95 : decode cX11_tellOne 95 = .ok (.aload_n 0, 1) := by decide +kernel
theorem dX11_tellOne_96 : decode cX11_tellOne 96 = .ok (.getfield 215, 3) := by decide +kernel
theorem dX11_tellOne_99 : decode cX11_tellOne 99 = .ok (.aload_n 0, 1) := by decide +kernel
theorem dX11_tellOne_100 : decode cX11_tellOne 100 = .ok (.sipush 9999, 3) := by decide +kernel
theorem dX11_tellOne_103 : decode cX11_tellOne 103 = .ok (.invokevirtual 250, 3) := by decide +kernel
theorem dX11_tellOne_106 : decode cX11_tellOne 106 = .ok (.iastore, 1) := by decide +kernel
theorem dX11_tellOne_107 : decode cX11_tellOne 107 = .ok (.goto 56, 3) := by decide +kernel
theorem dX11_tellOne_110 : decode cX11_tellOne 110 = .ok (.aload_n 0, 1) := by decide +kernel
theorem dX11_tellOne_111 : decode cX11_tellOne 111 = .ok (.getfield 20, 3) := by decide +kernel
theorem dX11_tellOne_114 : decode cX11_tellOne 114 = .ok (.aload_n 0, 1) := by decide +kernel
theorem dX11_tellOne_115 : decode cX11_tellOne 115 = .ok (.getfield 185, 3) := by decide +kernel
theorem dX11_tellOne_118 : decode cX11_tellOne 118 = .ok (.iaload, 1) := by decide +kernel
theorem dX11_tellOne_119 : decode cX11_tellOne 119 = .ok (.bipush 22, 2) := by decide +kernel
theorem dX11_tellOne_121 : decode cX11_tellOne 121 = .ok (.isub, 1) := by decide +kernel
theorem dX11_tellOne_122 : decode cX11_tellOne 122 = .ok (.istore_n 1, 1) := by decide +kernel
theorem dX11_tellOne_123 : decode cX11_tellOne 123 = .ok (.iload_n 1, 1) := by decide +kernel
theorem dX11_tellOne_124 : decode cX11_tellOne 124 = .ok (.ifCond .lt 17, 3) := by decide +kernel
theorem dX11_tellOne_127 : decode cX11_tellOne 127 = .ok (.aload_n 0, 1) := by decide +kernel
theorem dX11_tellOne_128 : decode cX11_tellOne 128 = .ok (.getfield 20, 3) := by decide +kernel
theorem dX11_tellOne_131 : decode cX11_tellOne 131 = .ok (.aload_n 0, 1) := by decide +kernel
theorem dX11_tellOne_132 : decode cX11_tellOne 132 = .ok (.getfield 185, 3) := by decide +kernel
theorem dX11_tellOne_135 : decode cX11_tellOne 135 = .ok (.iaload, 1) := by decide +kernel
theorem dX11_tellOne_136 : decode cX11_tellOne 136 = .ok (.bipush 25, 2) := by decide +kernel
theorem dX11_tellOne_138 : decode cX11_tellOne 138 = .ok (.if_icmp .le 8, 3) := by decide +kernel
theorem dX11_tellOne_141 : decode cX11_tellOne 141 = .ok (.aload_n 0, 1) := by decide +kernel
theorem dX11_tellOne_142 : decode cX11_tellOne 142 = .ok (.iconst 1, 1) := by decide +kernel
theorem dX11_tellOne_143 : decode cX11_tellOne 143 = .ok (.invokevirtual 197, 3) := by decide +kernel
theorem dX11_tellOne_146 : decode cX11_tellOne 146 = .ok (.aload_n 0, 1) := by decide +kernel
theorem dX11_tellOne_147 : decode cX11_tellOne 147 = .ok (.getfield 182, 3) := by decide +kernel
theorem dX11_tellOne_150 : decode cX11_tellOne 150 = .ok (.ifCond .le 4, 3) := by decide +kernel
theorem dX11_tellOne_153 : decode cX11_tellOne 153 = .ok (.return_, 1) := by decide +kernel
theorem dX11_tellOne_154 : decode cX11_tellOne 154 = .ok (.aload_n 0, 1) := by decide +kernel
theorem dX11_tellOne_155 : decode cX11_tellOne 155 = .ok (.invokevirtual 203, 3) := by decide +kernel
theorem dX11_tellOne_158 : decode cX11_tellOne 158 = .ok (.aload_n 0, 1) := by decide +kernel
theorem dX11_tellOne_159 : decode cX11_tellOne 159 = .ok (.iload_n 1, 1) := by decide +kernel
theorem dX11_tellOne_160 : decode cX11_tellOne 160 = .ok (.invokevirtual 253, 3) := by decide +kernel
theorem dX11_tellOne_163 : decode cX11_tellOne 163 = .ok (.return_, 1) := by decide +kernel
theorem dX11_bounded_0 : decode cX11_bounded 0 = .ok (.aload_n 0, 1) := by decide +kernel
theorem dX11_bounded_1 : decode cX11_bounded 1 = .ok (.getfield 182, 3) := by decide +kernel
theorem dX11_bounded_4 : decode cX11_bounded 4 = .ok (.ifCond .gt 11, 3) := by decide +kernel
theorem dX11_bounded_7 : decode cX11_bounded 7 = .ok (.aload_n 0, 1) := by decide +kernel
theorem dX11_bounded_8 : decode cX11_bounded 8 = .ok (.iconst 2, 1) := by decide +kernel
theorem dX11_bounded_9 : decode cX11_bounded 9 = .ok (.invokevirtual 200, 3) := by decide +kernel
theorem dX11_bounded_12 : decode cX11_bounded 12 = .ok (.ifCond .ne 10, 3) := by decide +kernel
theorem dX11_bounded_15 : decode cX11_bounded 15 = .ok (.aload_n 0, 1) := by decide +kernel
theorem dX11_bounded_16 : decode cX11_bounded 16 = .ok (.iconst 1, 1) := by decide +kernel
theorem dX11_bounded_17 : decode cX11_bounded 17 = .ok (.invokevirtual 197, 3) := by decide +kernel
theorem dX11_bounded_20 : decode cX11_bounded 20 = .ok (.iload_n 1, 1) := by decide +kernel
theorem dX11_bounded_21 : decode cX11_bounded 21 = .ok (.ireturn, 1) := by decide +kernel
theorem dX11_bounded_22 : decode cX11_bounded 22 = .ok (.aload_n 0, 1) := by decide +kernel
theorem dX11_bounded_23 : decode cX11_bounded 23 = .ok (.getfield 27, 3) := by decide +kernel
theorem dX11_bounded_26 : decode cX11_bounded 26 = .ok (.aload_n 0, 1) := by decide +kernel
theorem dX11_bounded_27 : decode cX11_bounded 27 = .ok (.getfield 185, 3) := by decide +kernel
theorem dX11_bounded_30 : decode cX11_bounded 30 = .ok (.iaload, 1) := by decide +kernel
theorem dX11_bounded_31 : decode cX11_bounded 31 = .ok (.istore_n 3, 1) := by decide +kernel
theorem dX11_bounded_32 : decode cX11_bounded 32 = .ok (.iload_n 3, 1) := by decide +kernel
theorem dX11_bounded_33 : decode cX11_bounded 33 = .ok (.iload_n 1, 1) := by decide +kernel
theorem dX11_bounded_34 : decode cX11_bounded 34 = .ok (.if_icmp .lt 8, 3) := by decide +kernel
theorem dX11_bounded_37 : decode cX11_bounded 37 = .ok (.iload_n 3, 1) := by decide +kernel
theorem dX11_bounded_38 : decode cX11_bounded 38 = .ok (.iload_n 2, 1) := by decide +kernel
theorem dX11_bounded_39 : decode cX11_bounded 39 = .ok (.if_icmp .le 12, 3) := by decide +kernel
theorem dX11_bounded_42 : decode cX11_bounded 42 = .ok (.aload_n 0, 1) := by decide +kernel
theorem dX11_bounded_43 : decode cX11_bounded 43 = .ok (.iconst 5, 1) := by decide +kernel
theorem dX11_bounded_44 : decode cX11_bounded 44 = .ok (.aload_n 0, 1) := by decide +kernel
theorem dX11_bounded_45 : decode cX11_bounded 45 = .ok (.getfield 185, 3) := by decide +kernel
theorem dX11_bounded_48 : decode cX11_bounded 48 = .ok (.invokevirtual 256, 3) := by decide +kernel
theorem dX11_bounded_51 : decode cX11_bounded 51 = .ok (.aload_n 0, 1) := by decide +kernel
theorem dX11_bounded_52 : decode cX11_bounded 52 = .ok (.invokevirtual 203, 3) := by decide +kernel
theorem dX11_bounded_55 : decode cX11_bounded 55 = .ok (.iload_n 3, 1) := by decide +kernel
theorem dX11_bounded_56 : decode cX11_bounded 56 = .ok (.ireturn, 1) := by decide +kernel
theorem dX11_tellCase_0 : decode cX11_tellCase 0 = .ok (.bipush 7, 2) := by decide +kernel
theorem dX11_tellCase_2 : decode cX11_tellCase 2 = .ok (.aload_n 0, 1) := by decide +kernel
theorem dX11_tellCase_3 : decode cX11_tellCase 3 = .ok (.getfield 215, 3) := by decide +kernel
theorem dX11_tellCase_6 : decode cX11_tellCase 6 = .ok (.imul, 1) := by decide +kernel
theorem dX11_tellCase_7 : decode cX11_tellCase 7 = .ok (.aload_n 0, 1) := by decide +kernel
theorem dX11_tellCase_8 : decode cX11_tellCase 8 = .ok (.getfield 43, 3) := by decide +kernel
theorem dX11_tellCase_11 : decode cX11_tellCase 11 = .ok (.aload_n 0, 1) := by decide +kernel
theorem dX11_tellCase_12 : decode cX11_tellCase 12 = .ok (.getfield 215, 3) := by decide +kernel
theorem dX11_tellCase_15 : decode cX11_tellCase 15 = .ok (.iaload, 1) := by decide +kernel
theorem dX11_tellCase_16 : decode cX11_tellCase 16 = .ok (.iadd, 1) := by decide +kernel
theorem dX11_tellCase_17 : decode cX11_tellCase 17 = .ok (.istore_n 1, 1) := by decide +kernel
theorem dX11_tellCase_18 : decode cX11_tellCase 18 = .ok (.aload_n 0, 1) := by decide +kernel
theorem dX11_tellCase_19 : decode cX11_tellCase 19 = .ok (.getfield 185, 3) := by decide +kernel
theorem dX11_tellCase_22 : decode cX11_tellCase 22 = .ok (.istore_n 2, 1) := by decide +kernel
theorem dX11_tellCase_23 : decode cX11_tellCase 23 = .ok (.aload_n 0, 1) := by decide +kernel
theorem dX11_tellCase_24 : decode cX11_tellCase 24 = .ok (.iconst 1, 1) := by decide +kernel
theorem dX11_tellCase_25 : decode cX11_tellCase 25 = .ok (.invokevirtual 240, 3) := by decide +kernel
theorem dX11_tellCase_28 : decode cX11_tellCase 28 = .ok (.iconst 0, 1) := by decide +kernel
theorem dX11_tellCase_29 : decode cX11_tellCase 29 = .ok (.istore_n 3, 1) := by decide +kernel
theorem dX11_tellCase_30 : decode cX11_tellCase 30 = .ok (.iload_n 3, 1) := by decide +kernel
theorem dX11_tellCase_31 : decode cX11_tellCase 31 = .ok (.aload_n 0, 1) := by decide +kernel
theorem dX11_tellCase_32 : decode cX11_tellCase 32 = .ok (.getfield 218, 3) := by decide +kernel
theorem dX11_tellCase_35 : decode cX11_tellCase 35 = .ok (.if_icmp .ge 38, 3) := by decide +kernel
theorem dX11_tellCase_38 : decode cX11_tellCase 38 = .ok (.aload_n 0, 1) := by decide +kernel
theorem dX11_tellCase_39 : decode cX11_tellCase 39 = .ok (.getfield 182, 3) := by decide +kernel
theorem dX11_tellCase_42 : decode cX11_tellCase 42 = .ok (.ifCond .ne 31, 3) := by decide +kernel
theorem dX11_tellCase_45 : decode cX11_tellCase 45 = .ok (.aload_n 0, 1) := by decide +kernel
theorem dX11_tellCase_46 : decode cX11_tellCase 46 = .ok (.getfield 40, 3) := by decide +kernel
theorem dX11_tellCase_49 : decode cX11_tellCase 49 = .ok (.iload_n 3, 1) := by decide +kernel
theorem dX11_tellCase_50 : decode cX11_tellCase 50 = .ok (.laload, 1) := by decide +kernel
theorem dX11_tellCase_51 : decode cX11_tellCase 51 = .ok (.aload_n 0, 1) := by decide +kernel
theorem dX11_tellCase_52 : decode cX11_tellCase 52 = .ok (.getfield 30, 3) := by decide +kernel
theorem dX11_tellCase_55 : decode cX11_tellCase 55 = .ok (.iload_n 2, 1) := by decide +kernel
theorem dX11_tellCase_56 : decode cX11_tellCase 56 = .ok (.laload, 1) := by decide +kernel
theorem dX11_tellCase_57 : decode cX11_tellCase 57 = .ok (.lcmp, 1) := by decide +kernel
theorem dX11_tellCase_58 : decode cX11_tellCase 58 = .ok (.ifCond .ne 9, 3) := by decide +kernel
theorem dX11_tellCase_61 : decode cX11_tellCase 61 = .ok (.aload_n 0, 1) := by decide +kernel
theorem dX11_tellCase_62 : decode cX11_tellCase 62 = .ok (.iconst 3, 1) := by decide +kernel
theorem dX11_tellCase_63 : decode cX11_tellCase 63 = .ok (.iload_n 2, 1) := by decide +kernel
theorem dX11_tellCase_64 : decode cX11_tellCase 64 = .ok (.invokevirtual 256, 3) := by decide +kernel
theorem dX11_tellCase_67 : decode cX11_tellCase 67 = .ok (.iinc 3 1, 3) := by decide +kernel
theorem dX11_tellCase_70 : decode cX11_tellCase 70 = .ok (.goto (-40), 3) := by decide +kernel
theorem dX11_tellCase_73 : decode cX11_tellCase 73 = .ok (.aload_n 0, 1) := by decide +kernel
theorem dX11_tellCase_74 : decode cX11_tellCase 74 = .ok (.getfield 46, 3) := by decide +kernel
theorem dX11_tellCase_77 : decode cX11_tellCase 77 = .ok (.iload_n 1, 1) := by decide +kernel
theorem dX11_tellCase_78 : decode cX11_tellCase 78 = .ok (.aload_n 0, 1) := by decide +kernel
theorem dX11_tellCase_79 : decode cX11_tellCase 79 = .ok (.iconst 0, 1) := by decide +kernel
theorem dX11_tellCase_80 : decode cX11_tellCase 80 = .ok (.bipush 99, 2) := by decide +kernel
theorem dX11_tellCase_82 : decode cX11_tellCase 82 = .ok (.invokevirtual 236, 3) := by decide +kernel
theorem dX11_tellCase_85 : decode cX11_tellCase 85 = .ok (.iastore, 1) := by decide +kernel
theorem dX11_tellCase_86 : decode cX11_tellCase 86 = .ok (.aload_n 0, 1) := by decide +kernel
theorem dX11_tellCase_87 : decode cX11_tellCase 87 = .ok (.getfield 49, 3) := by decide +kernel
theorem dX11_tellCase_90 : decode cX11_tellCase 90 = .ok (.iload_n 1, 1) := by decide +kernel
theorem dX11_tellCase_91 : decode cX11_tellCase 91 = .ok (.aload_n 0, 1) := by decide +kernel
theorem dX11_tellCase_92 : decode cX11_tellCase 92 = .ok (.iconst 0, 1) := by decide +kernel
theorem dX11_tellCase_93 : decode cX11_tellCase 93 = .ok (.bipush 99, 2) := by decide +kernel
theorem dX11_tellCase_95 : decode cX11_tellCase 95 = .ok (.invokevirtual 236, 3) := by decide +kernel
theorem dX11_tellCase_98 : decode cX11_tellCase 98 = .ok (.iastore, 1) := by decide +kernel
theorem dX11_tellCase_99 : decode cX11_tellCase 99 = .ok (.aload_n 0, 1) := by decide +kernel
theorem dX11_tellCase_100 : decode cX11_tellCase 100 = .ok (.iconst 4, 1) := by decide +kernel
theorem dX11_tellCase_101 : decode cX11_tellCase 101 = .ok (.invokevirtual 240, 3) := by decide +kernel
theorem dX11_tellCase_104 : decode cX11_tellCase 104 = .ok (.aload_n 0, 1) := by decide +kernel
theorem dX11_tellCase_105 : decode cX11_tellCase 105 = .ok (.getfield 182, 3) := by decide +kernel
theorem dX11_tellCase_108 : decode cX11_tellCase 108 = .ok (.ifCond .le 4, 3) := by decide +kernel
theorem dX11_tellCase_111 : decode cX11_tellCase 111 = .ok (.return_, 1) := by decide +kernel
theorem dX11_tellCase_112 : decode cX11_tellCase 112 = .ok (.aload_n 0, 1) := by decide +kernel
theorem dX11_tellCase_113 : decode cX11_tellCase 113 = .ok (.getfield 40, 3) := by decide +kernel
theorem dX11_tellCase_116 : decode cX11_tellCase 116 = .ok (.aload_n 0, 1) := by decide +kernel
theorem dX11_tellCase_117 : decode cX11_tellCase 117 = .ok (.getfield 218, 3) := by decide +kernel
theorem dX11_tellCase_120 : decode cX11_tellCase 120 = .ok (.aload_n 0, 1) := by decide +kernel
theorem dX11_tellCase_121 : decode cX11_tellCase 121 = .ok (.getfield 30, 3) := by decide +kernel
theorem dX11_tellCase_124 : decode cX11_tellCase 124 = .ok (.iload_n 2, 1) := by decide +kernel
theorem dX11_tellCase_125 : decode cX11_tellCase 125 = .ok (.laload, 1) := by decide +kernel
theorem dX11_tellCase_126 : decode cX11_tellCase 126 = .ok (.lastore, 1) := by decide +kernel
theorem dX11_tellCase_127 : decode cX11_tellCase 127 = .ok (.aload_n 0, 1) := by decide +kernel
theorem dX11_tellCase_128 : decode cX11_tellCase 128 = .ok (.dup, 1) := by decide +kernel
theorem dX11_tellCase_129 : decode cX11_tellCase 129 = .ok (.getfield 218, 3) := by decide +kernel
theorem dX11_tellCase_132 : decode cX11_tellCase 132 = .ok (.iconst 1, 1) := by decide +kernel
theorem dX11_tellCase_133 : decode cX11_tellCase 133 = .ok (.iadd, 1) := by decide +kernel
theorem dX11_tellCase_134 : decode cX11_tellCase 134 = .ok (.putfield 218, 3) := by decide +kernel
theorem dX11_tellCase_137 : decode cX11_tellCase 137 = .ok (.aload_n 0, 1) := by decide +kernel
theorem dX11_tellCase_138 : decode cX11_tellCase 138 = .ok (.getfield 43, 3) := by decide +kernel
theorem dX11_tellCase_141 : decode cX11_tellCase 141 = .ok (.aload_n 0, 1) := by decide +kernel
theorem dX11_tellCase_142 : decode cX11_tellCase 142 = .ok (.getfield 215, 3) := by decide +kernel
theorem dX11_tellCase_145 : decode cX11_tellCase 145 = .ok (.dup2, 1) := by decide +kernel
theorem dX11_tellCase_146 : decode cX11_tellCase 146 = .ok (.iaload, 1) := by decide +kernel
theorem dX11_tellCase_147 : decode cX11_tellCase 147 = .ok (.iconst 1, 1) := by decide +kernel
theorem dX11_tellCase_148 : decode cX11_tellCase 148 = .ok (.iadd, 1) := by decide +kernel
theorem dX11_tellCase_149 : decode cX11_tellCase 149 = .ok (.iastore, 1) := by decide +kernel
theorem dX11_tellCase_150 : decode cX11_tellCase 150 = .ok (.return_, 1) := by decide +kernel
theorem dX11_tellLaw_0 : decode cX11_tellLaw 0 = .ok (.aload_n 0, 1) := by decide +kernel
theorem dX11_tellLaw_1 : decode cX11_tellLaw 1 = .ok (.iconst 5, 1) := by decide +kernel
theorem dX11_tellLaw_2 : decode cX11_tellLaw 2 = .ok (.invokevirtual 240, 3) := by decide +kernel
theorem dX11_tellLaw_5 : decode cX11_tellLaw 5 = .ok (.aload_n 0, 1) := by decide +kernel
theorem dX11_tellLaw_6 : decode cX11_tellLaw 6 = .ok (.getfield 221, 3) := by decide +kernel
theorem dX11_tellLaw_9 : decode cX11_tellLaw 9 = .ok (.istore_n 2, 1) := by decide +kernel
theorem dX11_tellLaw_10 : decode cX11_tellLaw 10 = .ok (.iconst 0, 1) := by decide +kernel
theorem dX11_tellLaw_11 : decode cX11_tellLaw 11 = .ok (.istore_n 3, 1) := by decide +kernel
theorem dX11_tellLaw_12 : decode cX11_tellLaw 12 = .ok (.aload_n 0, 1) := by decide +kernel
theorem dX11_tellLaw_13 : decode cX11_tellLaw 13 = .ok (.getfield 182, 3) := by decide +kernel
theorem dX11_tellLaw_16 : decode cX11_tellLaw 16 = .ok (.ifCond .ne 113, 3) := by decide +kernel
theorem dX11_tellLaw_19 : decode cX11_tellLaw 19 = .ok (.aload_n 0, 1) := by decide +kernel
theorem dX11_tellLaw_20 : decode cX11_tellLaw 20 = .ok (.bipush 27, 2) := by decide +kernel
theorem dX11_tellLaw_22 : decode cX11_tellLaw 22 = .ok (.invokevirtual 200, 3) := by decide +kernel
theorem dX11_tellLaw_25 : decode cX11_tellLaw 25 = .ok (.ifCond .eq 104, 3) := by decide +kernel
theorem dX11_tellLaw_28 : decode cX11_tellLaw 28 = .ok (.iload_n 3, 1) := by decide +kernel
theorem dX11_tellLaw_29 : decode cX11_tellLaw 29 = .ok (.iconst 4, 1) := by decide +kernel
theorem dX11_tellLaw_30 : decode cX11_tellLaw 30 = .ok (.if_icmp .ne 8, 3) := by decide +kernel
theorem dX11_tellLaw_33 : decode cX11_tellLaw 33 = .ok (.aload_n 0, 1) := by decide +kernel
theorem dX11_tellLaw_34 : decode cX11_tellLaw 34 = .ok (.iconst 2, 1) := by decide +kernel
theorem dX11_tellLaw_35 : decode cX11_tellLaw 35 = .ok (.invokevirtual 197, 3) := by decide +kernel
theorem dX11_tellLaw_38 : decode cX11_tellLaw 38 = .ok (.aload_n 0, 1) := by decide +kernel
theorem dX11_tellLaw_39 : decode cX11_tellLaw 39 = .ok (.getfield 182, 3) := by decide +kernel
theorem dX11_tellLaw_42 : decode cX11_tellLaw 42 = .ok (.ifCond .le 4, 3) := by decide +kernel
theorem dX11_tellLaw_45 : decode cX11_tellLaw 45 = .ok (.return_, 1) := by decide +kernel
theorem dX11_tellLaw_46 : decode cX11_tellLaw 46 = .ok (.iinc 3 1, 3) := by decide +kernel
theorem dX11_tellLaw_49 : decode cX11_tellLaw 49 = .ok (.aload_n 0, 1) := by decide +kernel
theorem dX11_tellLaw_50 : decode cX11_tellLaw 50 = .ok (.invokevirtual 203, 3) := by decide +kernel
theorem dX11_tellLaw_53 : decode cX11_tellLaw 53 = .ok (.aload_n 0, 1) := by decide +kernel
theorem dX11_tellLaw_54 : decode cX11_tellLaw 54 = .ok (.getfield 64, 3) := by decide +kernel
theorem dX11_tellLaw_57 : decode cX11_tellLaw 57 = .ok (.aload_n 0, 1) := by decide +kernel
theorem dX11_tellLaw_58 : decode cX11_tellLaw 58 = .ok (.getfield 221, 3) := by decide +kernel
theorem dX11_tellLaw_61 : decode cX11_tellLaw 61 = .ok (.iconst 1, 1) := by decide +kernel
theorem dX11_tellLaw_62 : decode cX11_tellLaw 62 = .ok (.bastore, 1) := by decide +kernel
theorem dX11_tellLaw_63 : decode cX11_tellLaw 63 = .ok (.aload_n 0, 1) := by decide +kernel
theorem dX11_tellLaw_64 : decode cX11_tellLaw 64 = .ok (.getfield 68, 3) := by decide +kernel
theorem dX11_tellLaw_67 : decode cX11_tellLaw 67 = .ok (.aload_n 0, 1) := by decide +kernel
theorem dX11_tellLaw_68 : decode cX11_tellLaw 68 = .ok (.getfield 221, 3) := by decide +kernel
theorem dX11_tellLaw_71 : decode cX11_tellLaw 71 = .ok (.aload_n 0, 1) := by decide +kernel
theorem dX11_tellLaw_72 : decode cX11_tellLaw 72 = .ok (.getfield 224, 3) := by decide +kernel
theorem dX11_tellLaw_75 : decode cX11_tellLaw 75 = .ok (.iastore, 1) := by decide +kernel
theorem dX11_tellLaw_76 : decode cX11_tellLaw 76 = .ok (.aload_n 0, 1) := by decide +kernel
theorem dX11_tellLaw_77 : decode cX11_tellLaw 77 = .ok (.invokevirtual 259, 3) := by decide +kernel
theorem dX11_tellLaw_80 : decode cX11_tellLaw 80 = .ok (.aload_n 0, 1) := by decide +kernel
theorem dX11_tellLaw_81 : decode cX11_tellLaw 81 = .ok (.bipush 13, 2) := by decide +kernel
theorem dX11_tellLaw_83 : decode cX11_tellLaw 83 = .ok (.invokevirtual 240, 3) := by decide +kernel
theorem dX11_tellLaw_86 : decode cX11_tellLaw 86 = .ok (.aload_n 0, 1) := by decide +kernel
theorem dX11_tellLaw_87 : decode cX11_tellLaw 87 = .ok (.getfield 71, 3) := by decide +kernel
theorem dX11_tellLaw_90 : decode cX11_tellLaw 90 = .ok (.aload_n 0, 1) := by decide +kernel
theorem dX11_tellLaw_91 : decode cX11_tellLaw 91 = .ok (.getfield 221, 3) := by decide +kernel
theorem dX11_tellLaw_94 : decode cX11_tellLaw 94 = .ok (.aload_n 0, 1) := by decide +kernel
theorem dX11_tellLaw_95 : decode cX11_tellLaw 95 = .ok (.getfield 224, 3) := by decide +kernel
theorem dX11_tellLaw_98 : decode cX11_tellLaw 98 = .ok (.iastore, 1) := by decide +kernel
theorem dX11_tellLaw_99 : decode cX11_tellLaw 99 = .ok (.aload_n 0, 1) := by decide +kernel
theorem dX11_tellLaw_100 : decode cX11_tellLaw 100 = .ok (.getfield 182, 3) := by decide +kernel
theorem dX11_tellLaw_103 : decode cX11_tellLaw 103 = .ok (.ifCond .ne 7, 3) := by decide +kernel
theorem dX11_tellLaw_106 : decode cX11_tellLaw 106 = .ok (.aload_n 0, 1) := by decide +kernel
theorem dX11_tellLaw_107 : decode cX11_tellLaw 107 = .ok (.invokevirtual 259, 3) := by decide +kernel
theorem dX11_tellLaw_110 : decode cX11_tellLaw 110 = .ok (.aload_n 0, 1) := by decide +kernel
theorem dX11_tellLaw_111 : decode cX11_tellLaw 111 = .ok (.bipush 28, 2) := by decide +kernel
theorem dX11_tellLaw_113 : decode cX11_tellLaw 113 = .ok (.invokevirtual 240, 3) := by decide +kernel
theorem dX11_tellLaw_116 : decode cX11_tellLaw 116 = .ok (.aload_n 0, 1) := by decide +kernel
theorem dX11_tellLaw_117 : decode cX11_tellLaw 117 = .ok (.invokevirtual 262, 3) := by decide +kernel
theorem dX11_tellLaw_120 : decode cX11_tellLaw 120 = .ok (.aload_n 0, 1) := by decide +kernel
theorem dX11_tellLaw_121 : decode cX11_tellLaw 121 = .ok (.bipush 29, 2) := by decide +kernel
theorem dX11_tellLaw_123 : decode cX11_tellLaw 123 = .ok (.invokevirtual 240, 3) := by decide +kernel
theorem dX11_tellLaw_126 : decode cX11_tellLaw 126 = .ok (.goto (-114), 3) := by decide +kernel
theorem dX11_tellLaw_129 : decode cX11_tellLaw 129 = .ok (.aload_n 0, 1) := by decide +kernel
theorem dX11_tellLaw_130 : decode cX11_tellLaw 130 = .ok (.getfield 64, 3) := by decide +kernel
theorem dX11_tellLaw_133 : decode cX11_tellLaw 133 = .ok (.aload_n 0, 1) := by decide +kernel
theorem dX11_tellLaw_134 : decode cX11_tellLaw 134 = .ok (.getfield 221, 3) := by decide +kernel
theorem dX11_tellLaw_137 : decode cX11_tellLaw 137 = .ok (.iconst 0, 1) := by decide +kernel
theorem dX11_tellLaw_138 : decode cX11_tellLaw 138 = .ok (.bastore, 1) := by decide +kernel
theorem dX11_tellLaw_139 : decode cX11_tellLaw 139 = .ok (.aload_n 0, 1) := by decide +kernel
theorem dX11_tellLaw_140 : decode cX11_tellLaw 140 = .ok (.invokevirtual 262, 3) := by decide +kernel
theorem dX11_tellLaw_143 : decode cX11_tellLaw 143 = .ok (.aload_n 0, 1) := by decide +kernel
theorem dX11_tellLaw_144 : decode cX11_tellLaw 144 = .ok (.iconst 4, 1) := by decide +kernel
theorem dX11_tellLaw_145 : decode cX11_tellLaw 145 = .ok (.invokevirtual 240, 3) := by decide +kernel
theorem dX11_tellLaw_148 : decode cX11_tellLaw 148 = .ok (.aload_n 0, 1) := by decide +kernel
theorem dX11_tellLaw_149 : decode cX11_tellLaw 149 = .ok (.getfield 182, 3) := by decide +kernel
theorem dX11_tellLaw_152 : decode cX11_tellLaw 152 = .ok (.ifCond .le 4, 3) := by decide +kernel
theorem dX11_tellLaw_155 : decode cX11_tellLaw 155 = .ok (.return_, 1) := by decide +kernel
theorem dX11_tellLaw_156 : decode cX11_tellLaw 156 = .ok (.aload_n 0, 1) := by decide +kernel
theorem dX11_tellLaw_157 : decode cX11_tellLaw 157 = .ok (.getfield 58, 3) := by decide +kernel
theorem dX11_tellLaw_160 : decode cX11_tellLaw 160 = .ok (.iconst 4, 1) := by decide +kernel
theorem dX11_tellLaw_161 : decode cX11_tellLaw 161 = .ok (.aload_n 0, 1) := by decide +kernel
theorem dX11_tellLaw_162 : decode cX11_tellLaw 162 = .ok (.getfield 215, 3) := by decide +kernel
theorem dX11_tellLaw_165 : decode cX11_tellLaw 165 = .ok (.imul, 1) := by decide +kernel
theorem dX11_tellLaw_166 : decode cX11_tellLaw 166 = .ok (.iload_n 1, 1) := by decide +kernel
theorem dX11_tellLaw_167 : decode cX11_tellLaw 167 = .ok (.iadd, 1) := by decide +kernel
theorem dX11_tellLaw_168 : decode cX11_tellLaw 168 = .ok (.iload_n 2, 1) := by decide +kernel
theorem dX11_tellLaw_169 : decode cX11_tellLaw 169 = .ok (.iastore, 1) := by decide +kernel
theorem dX11_tellLaw_170 : decode cX11_tellLaw 170 = .ok (.aload_n 0, 1) := by decide +kernel
theorem dX11_tellLaw_171 : decode cX11_tellLaw 171 = .ok (.getfield 61, 3) := by decide +kernel
theorem dX11_tellLaw_174 : decode cX11_tellLaw 174 = .ok (.iconst 4, 1) := by decide +kernel
theorem dX11_tellLaw_175 : decode cX11_tellLaw 175 = .ok (.aload_n 0, 1) := by decide +kernel
theorem dX11_tellLaw_176 : decode cX11_tellLaw 176 = .ok (.getfield 215, 3) := by decide +kernel
theorem dX11_tellLaw_179 : decode cX11_tellLaw 179 = .ok (.imul, 1) := by decide +kernel
theorem dX11_tellLaw_180 : decode cX11_tellLaw 180 = .ok (.iload_n 1, 1) := by decide +kernel
theorem dX11_tellLaw_181 : decode cX11_tellLaw 181 = .ok (.iadd, 1) := by decide +kernel
theorem dX11_tellLaw_182 : decode cX11_tellLaw 182 = .ok (.aload_n 0, 1) := by decide +kernel
theorem dX11_tellLaw_183 : decode cX11_tellLaw 183 = .ok (.getfield 221, 3) := by decide +kernel
theorem dX11_tellLaw_186 : decode cX11_tellLaw 186 = .ok (.iastore, 1) := by decide +kernel
theorem dX11_tellLaw_187 : decode cX11_tellLaw 187 = .ok (.return_, 1) := by decide +kernel
theorem dX11_term_0 : decode cX11_term 0 = .ok (.aload_n 0, 1) := by decide +kernel
theorem dX11_term_1 : decode cX11_term 1 = .ok (.getfield 74, 3) := by decide +kernel
theorem dX11_term_4 : decode cX11_term 4 = .ok (.aload_n 0, 1) := by decide +kernel
theorem dX11_term_5 : decode cX11_term 5 = .ok (.getfield 221, 3) := by decide +kernel
theorem dX11_term_8 : decode cX11_term 8 = .ok (.aload_n 0, 1) := by decide +kernel
theorem dX11_term_9 : decode cX11_term 9 = .ok (.getfield 224, 3) := by decide +kernel
theorem dX11_term_12 : decode cX11_term 12 = .ok (.iastore, 1) := by decide +kernel
theorem dX11_term_13 : decode cX11_term 13 = .ok (.aload_n 0, 1) := by decide +kernel
theorem dX11_term_14 : decode cX11_term 14 = .ok (.getfield 182, 3) := by decide +kernel
theorem dX11_term_17 : decode cX11_term 17 = .ok (.ifCond .ne 7, 3) := by decide +kernel
theorem dX11_term_20 : decode cX11_term 20 = .ok (.aload_n 0, 1) := by decide +kernel
theorem dX11_term_21 : decode cX11_term 21 = .ok (.invokevirtual 259, 3) := by decide +kernel
theorem dX11_term_24 : decode cX11_term 24 = .ok (.aload_n 0, 1) := by decide +kernel
theorem dX11_term_25 : decode cX11_term 25 = .ok (.getfield 77, 3) := by decide +kernel
theorem dX11_term_28 : decode cX11_term 28 = .ok (.aload_n 0, 1) := by decide +kernel
theorem dX11_term_29 : decode cX11_term 29 = .ok (.getfield 221, 3) := by decide +kernel
theorem dX11_term_32 : decode cX11_term 32 = .ok (.aload_n 0, 1) := by decide +kernel
theorem dX11_term_33 : decode cX11_term 33 = .ok (.getfield 224, 3) := by decide +kernel
theorem dX11_term_36 : decode cX11_term 36 = .ok (.iastore, 1) := by decide +kernel
theorem dX11_term_37 : decode cX11_term 37 = .ok (.aload_n 0, 1) := by decide +kernel
theorem dX11_term_38 : decode cX11_term 38 = .ok (.dup, 1) := by decide +kernel
theorem dX11_term_39 : decode cX11_term 39 = .ok (.getfield 221, 3) := by decide +kernel
theorem dX11_term_42 : decode cX11_term 42 = .ok (.iconst 1, 1) := by decide +kernel
theorem dX11_term_43 : decode cX11_term 43 = .ok (.iadd, 1) := by decide +kernel
theorem dX11_term_44 : decode cX11_term 44 = .ok (.putfield 221, 3) := by decide +kernel
theorem dX11_term_47 : decode cX11_term 47 = .ok (.return_, 1) := by decide +kernel
theorem dX11_emit_0 : decode cX11_emit 0 = .ok (.aload_n 0, 1) := by decide +kernel
theorem dX11_emit_1 : decode cX11_emit 1 = .ok (.getfield 80, 3) := by decide +kernel
theorem dX11_emit_4 : decode cX11_emit 4 = .ok (.aload_n 0, 1) := by decide +kernel
theorem dX11_emit_5 : decode cX11_emit 5 = .ok (.getfield 224, 3) := by decide +kernel
theorem dX11_emit_8 : decode cX11_emit 8 = .ok (.iload_n 1, 1) := by decide +kernel
theorem dX11_emit_9 : decode cX11_emit 9 = .ok (.iastore, 1) := by decide +kernel
theorem dX11_emit_10 : decode cX11_emit 10 = .ok (.aload_n 0, 1) := by decide +kernel
theorem dX11_emit_11 : decode cX11_emit 11 = .ok (.getfield 83, 3) := by decide +kernel
theorem dX11_emit_14 : decode cX11_emit 14 = .ok (.aload_n 0, 1) := by decide +kernel
theorem dX11_emit_15 : decode cX11_emit 15 = .ok (.getfield 224, 3) := by decide +kernel
theorem dX11_emit_18 : decode cX11_emit 18 = .ok (.iload_n 2, 1) := by decide +kernel
theorem dX11_emit_19 : decode cX11_emit 19 = .ok (.iastore, 1) := by decide +kernel
theorem dX11_emit_20 : decode cX11_emit 20 = .ok (.aload_n 0, 1) := by decide +kernel
theorem dX11_emit_21 : decode cX11_emit 21 = .ok (.dup, 1) := by decide +kernel
theorem dX11_emit_22 : decode cX11_emit 22 = .ok (.getfield 224, 3) := by decide +kernel
theorem dX11_emit_25 : decode cX11_emit 25 = .ok (.iconst 1, 1) := by decide +kernel
theorem dX11_emit_26 : decode cX11_emit 26 = .ok (.iadd, 1) := by decide +kernel
theorem dX11_emit_27 : decode cX11_emit 27 = .ok (.putfield 224, 3) := by decide +kernel
theorem dX11_emit_30 : decode cX11_emit 30 = .ok (.return_, 1) := by decide +kernel
theorem dX11_comesOut_0 : decode cX11_comesOut 0 = .ok (.aload_n 0, 1) := by decide +kernel
theorem dX11_comesOut_1 : decode cX11_comesOut 1 = .ok (.getfield 265, 3) := by decide +kernel
theorem dX11_comesOut_4 : decode cX11_comesOut 4 = .ok (.ifCond .le 87, 3) := by decide +kernel
theorem dX11_comesOut_7 : decode cX11_comesOut 7 = .ok (.aload_n 0, 1) := by decide +kernel
theorem dX11_comesOut_8 : decode cX11_comesOut 8 = .ok (.getfield 86, 3) := by decide +kernel
theorem dX11_comesOut_11 : decode cX11_comesOut 11 = .ok (.aload_n 0, 1) := by decide +kernel
theorem dX11_comesOut_12 : decode cX11_comesOut 12 = .ok (.getfield 265, 3) := by decide +kernel
theorem dX11_comesOut_15 : decode cX11_comesOut 15 = .ok (.iconst 1, 1) := by decide +kernel
theorem dX11_comesOut_16 : decode cX11_comesOut 16 = .ok (.isub, 1) := by decide +kernel
theorem dX11_comesOut_17 : decode cX11_comesOut 17 = .ok (.iaload, 1) := by decide +kernel
theorem dX11_comesOut_18 : decode cX11_comesOut 18 = .ok (.istore_n 2, 1) := by decide +kernel
theorem dX11_comesOut_19 : decode cX11_comesOut 19 = .ok (.iload_n 2, 1) := by decide +kernel
theorem dX11_comesOut_20 : decode cX11_comesOut 20 = .ok (.bipush 6, 2) := by decide +kernel
theorem dX11_comesOut_22 : decode cX11_comesOut 22 = .ok (.if_icmp .eq 19, 3) := by decide +kernel
theorem dX11_comesOut_25 : decode cX11_comesOut 25 = .ok (.iload_n 1, 1) := by decide +kernel
theorem dX11_comesOut_26 : decode cX11_comesOut 26 = .ok (.ifCond .eq 16, 3) := by decide +kernel
theorem dX11_comesOut_29 : decode cX11_comesOut 29 = .ok (.iload_n 2, 1) := by decide +kernel
theorem dX11_comesOut_30 : decode cX11_comesOut 30 = .ok (.bipush 8, 2) := by decide +kernel
theorem dX11_comesOut_32 : decode cX11_comesOut 32 = .ok (.if_icmp .eq 9, 3) := by decide +kernel
theorem dX11_comesOut_35 : decode cX11_comesOut 35 = .ok (.iload_n 2, 1) := by decide +kernel
theorem dX11_comesOut_36 : decode cX11_comesOut 36 = .ok (.bipush 9, 2) := by decide +kernel
theorem dX11_comesOut_38 : decode cX11_comesOut 38 = .ok (.if_icmp .ne 4, 3) := by decide +kernel
theorem dX11_comesOut_41 : decode cX11_comesOut 41 = .ok (.return_, 1) := by decide +kernel
theorem dX11_comesOut_42 : decode cX11_comesOut 42 = .ok (.aload_n 0, 1) := by decide +kernel
theorem dX11_comesOut_43 : decode cX11_comesOut 43 = .ok (.dup, 1) := by decide +kernel
theorem dX11_comesOut_44 : decode cX11_comesOut 44 = .ok (.getfield 265, 3) := by decide +kernel
theorem dX11_comesOut_47 : decode cX11_comesOut 47 = .ok (.iconst 1, 1) := by decide +kernel
theorem dX11_comesOut_48 : decode cX11_comesOut 48 = .ok (.isub, 1) := by decide +kernel
theorem dX11_comesOut_49 : decode cX11_comesOut 49 = .ok (.putfield 265, 3) := by decide +kernel
theorem dX11_comesOut_52 : decode cX11_comesOut 52 = .ok (.aload_n 0, 1) := by decide +kernel
theorem dX11_comesOut_53 : decode cX11_comesOut 53 = .ok (.iload_n 2, 1) := by decide +kernel
theorem dX11_comesOut_54 : decode cX11_comesOut 54 = .ok (.bipush 8, 2) := by decide +kernel
theorem dX11_comesOut_56 : decode cX11_comesOut 56 = .ok (.if_icmp .ne 7, 3) := by decide +kernel
theorem dX11_comesOut_59 : decode cX11_comesOut 59 = .ok (.iconst 2, 1) := by decide +kernel
theorem dX11_comesOut_60 : decode cX11_comesOut 60 = .ok (.goto 24, 3) := by decide +kernel
theorem dX11_comesOut_63 : decode cX11_comesOut 63 = .ok (.iload_n 2, 1) := by decide +kernel
theorem dX11_comesOut_64 : decode cX11_comesOut 64 = .ok (.bipush 9, 2) := by decide +kernel
theorem dX11_comesOut_66 : decode cX11_comesOut 66 = .ok (.if_icmp .ne 7, 3) := by decide +kernel
theorem dX11_comesOut_69 : decode cX11_comesOut 69 = .ok (.iconst 3, 1) := by decide +kernel
theorem dX11_comesOut_70 : decode cX11_comesOut 70 = .ok (.goto 14, 3) := by decide +kernel
theorem dX11_comesOut_73 : decode cX11_comesOut 73 = .ok (.iload_n 2, 1) := by decide +kernel
theorem dX11_comesOut_74 : decode cX11_comesOut 74 = .ok (.bipush 10, 2) := by decide +kernel
theorem dX11_comesOut_76 : decode cX11_comesOut 76 = .ok (.if_icmp .ne 7, 3) := by decide +kernel
theorem dX11_comesOut_79 : decode cX11_comesOut 79 = .ok (.iconst 4, 1) := by decide +kernel
theorem dX11_comesOut_80 : decode cX11_comesOut 80 = .ok (.goto 4, 3) := by decide +kernel
theorem dX11_comesOut_83 : decode cX11_comesOut 83 = .ok (.iconst 5, 1) := by decide +kernel
theorem dX11_comesOut_84 : decode cX11_comesOut 84 = .ok (.iconst 0, 1) := by decide +kernel
theorem dX11_comesOut_85 : decode cX11_comesOut 85 = .ok (.invokevirtual 268, 3) := by decide +kernel
theorem dX11_comesOut_88 : decode cX11_comesOut 88 = .ok (.goto (-88), 3) := by decide +kernel
theorem dX11_comesOut_91 : decode cX11_comesOut 91 = .ok (.return_, 1) := by decide +kernel
theorem dX11_expression_0 : decode cX11_expression 0 = .ok (.aload_n 0, 1) := by decide +kernel
theorem dX11_expression_1 : decode cX11_expression 1 = .ok (.iconst 0, 1) := by decide +kernel
theorem dX11_expression_2 : decode cX11_expression 2 = .ok (.putfield 265, 3) := by decide +kernel
theorem dX11_expression_5 : decode cX11_expression 5 = .ok (.aload_n 0, 1) := by decide +kernel
theorem dX11_expression_6 : decode cX11_expression 6 = .ok (.getfield 209, 3) := by decide +kernel
theorem dX11_expression_9 : decode cX11_expression 9 = .ok (.istore_n 1, 1) := by decide +kernel
theorem dX11_expression_10 : decode cX11_expression 10 = .ok (.iconst 1, 1) := by decide +kernel
theorem dX11_expression_11 : decode cX11_expression 11 = .ok (.istore_n 2, 1) := by decide +kernel
theorem dX11_expression_12 : decode cX11_expression 12 = .ok (.iload_n 2, 1) := by decide +kernel
theorem dX11_expression_13 : decode cX11_expression 13 = .ok (.ifCond .eq 259, 3) := by decide +kernel
theorem dX11_expression_16 : decode cX11_expression 16 = .ok (.aload_n 0, 1) := by decide +kernel
theorem dX11_expression_17 : decode cX11_expression 17 = .ok (.getfield 182, 3) := by decide +kernel
theorem dX11_expression_20 : decode cX11_expression 20 = .ok (.ifCond .ne 252, 3) := by decide +kernel
theorem dX11_expression_23 : decode cX11_expression 23 = .ok (.aload_n 0, 1) := by decide +kernel
theorem dX11_expression_24 : decode cX11_expression 24 = .ok (.bipush 6, 2) := by decide +kernel
theorem dX11_expression_26 : decode cX11_expression 26 = .ok (.invokevirtual 200, 3) := by decide +kernel
theorem dX11_expression_29 : decode cX11_expression 29 = .ok (.ifCond .eq 55, 3) := by decide +kernel
theorem dX11_expression_32 : decode cX11_expression 32 = .ok (.aload_n 0, 1) := by decide +kernel
theorem dX11_expression_33 : decode cX11_expression 33 = .ok (.getfield 209, 3) := by decide +kernel
theorem dX11_expression_36 : decode cX11_expression 36 = .ok (.bipush 6, 2) := by decide +kernel
theorem dX11_expression_38 : decode cX11_expression 38 = .ok (.if_icmp .ne 8, 3) := by decide +kernel
theorem dX11_expression_41 : decode cX11_expression 41 = .ok (.aload_n 0, 1) := by decide +kernel
theorem dX11_expression_42 : decode cX11_expression 42 = .ok (.iconst 2, 1) := by decide +kernel
theorem dX11_expression_43 : decode cX11_expression 43 = .ok (.invokevirtual 197, 3) := by decide +kernel
theorem dX11_expression_46 : decode cX11_expression 46 = .ok (.aload_n 0, 1) := by decide +kernel
theorem dX11_expression_47 : decode cX11_expression 47 = .ok (.dup, 1) := by decide +kernel
theorem dX11_expression_48 : decode cX11_expression 48 = .ok (.getfield 209, 3) := by decide +kernel
theorem dX11_expression_51 : decode cX11_expression 51 = .ok (.iconst 1, 1) := by decide +kernel
theorem dX11_expression_52 : decode cX11_expression 52 = .ok (.iadd, 1) := by decide +kernel
theorem dX11_expression_53 : decode cX11_expression 53 = .ok (.putfield 209, 3) := by decide +kernel
theorem dX11_expression_56 : decode cX11_expression 56 = .ok (.aload_n 0, 1) := by decide +kernel
theorem dX11_expression_57 : decode cX11_expression 57 = .ok (.invokevirtual 203, 3) := by decide +kernel
theorem dX11_expression_60 : decode cX11_expression 60 = .ok (.aload_n 0, 1) := by decide +kernel
theorem dX11_expression_61 : decode cX11_expression 61 = .ok (.getfield 86, 3) := by decide +kernel
theorem dX11_expression_64 : decode cX11_expression 64 = .ok (.aload_n 0, 1) := by decide +kernel
theorem dX11_expression_65 : decode cX11_expression 65 = .ok (.getfield 265, 3) := by decide +kernel
theorem dX11_expression_68 : decode cX11_expression 68 = .ok (.bipush 6, 2) := by decide +kernel
theorem dX11_expression_70 : decode cX11_expression 70 = .ok (.iastore, 1) := by decide +kernel
theorem dX11_expression_71 : decode cX11_expression 71 = .ok (.aload_n 0, 1) := by decide +kernel
theorem dX11_expression_72 : decode cX11_expression 72 = .ok (.dup, 1) := by decide +kernel
theorem dX11_expression_73 : decode cX11_expression 73 = .ok (.getfield 265, 3) := by decide +kernel
theorem dX11_expression_76 : decode cX11_expression 76 = .ok (.iconst 1, 1) := by decide +kernel
theorem dX11_expression_77 : decode cX11_expression 77 = .ok (.iadd, 1) := by decide +kernel
theorem dX11_expression_78 : decode cX11_expression 78 = .ok (.putfield 265, 3) := by decide +kernel
theorem dX11_expression_81 : decode cX11_expression 81 = .ok (.goto (-58), 3) := by decide +kernel
theorem dX11_expression_84 : decode cX11_expression 84 = .ok (.aload_n 0, 1) := by decide +kernel
theorem dX11_expression_85 : decode cX11_expression 85 = .ok (.invokevirtual 271, 3) := by decide +kernel
theorem dX11_expression_88 : decode cX11_expression 88 = .ok (.aload_n 0, 1) := by decide +kernel
theorem dX11_expression_89 : decode cX11_expression 89 = .ok (.getfield 182, 3) := by decide +kernel
theorem dX11_expression_92 : decode cX11_expression 92 = .ok (.ifCond .le 4, 3) := by decide +kernel
theorem dX11_expression_95 : decode cX11_expression 95 = .ok (.return_, 1) := by decide +kernel
theorem dX11_expression_96 : decode cX11_expression 96 = .ok (.aload_n 0, 1) := by decide +kernel
theorem dX11_expression_97 : decode cX11_expression 97 = .ok (.bipush 7, 2) := by decide +kernel
theorem dX11_expression_99 : decode cX11_expression 99 = .ok (.invokevirtual 200, 3) := by decide +kernel
theorem dX11_expression_102 : decode cX11_expression 102 = .ok (.ifCond .eq 43, 3) := by decide +kernel
theorem dX11_expression_105 : decode cX11_expression 105 = .ok (.aload_n 0, 1) := by decide +kernel
theorem dX11_expression_106 : decode cX11_expression 106 = .ok (.getfield 209, 3) := by decide +kernel
theorem dX11_expression_109 : decode cX11_expression 109 = .ok (.iload_n 1, 1) := by decide +kernel
theorem dX11_expression_110 : decode cX11_expression 110 = .ok (.if_icmp .le 35, 3) := by decide +kernel
theorem dX11_expression_113 : decode cX11_expression 113 = .ok (.aload_n 0, 1) := by decide +kernel
theorem dX11_expression_114 : decode cX11_expression 114 = .ok (.iconst 0, 1) := by decide +kernel
theorem dX11_expression_115 : decode cX11_expression 115 = .ok (.invokevirtual 274, 3) := by decide +kernel
theorem dX11_expression_118 : decode cX11_expression 118 = .ok (.aload_n 0, 1) := by decide +kernel
theorem dX11_expression_119 : decode cX11_expression 119 = .ok (.dup, 1) := by decide +kernel
theorem dX11_expression_120 : decode cX11_expression 120 = .ok (.getfield 265, 3) := by decide +kernel
theorem dX11_expression_123 : decode cX11_expression 123 = .ok (.iconst 1, 1) := by decide +kernel
theorem dX11_expression_124 : decode cX11_expression 124 = .ok (.isub, 1) := by decide +kernel
theorem dX11_expression_125 : decode cX11_expression 125 = .ok (.putfield 265, 3) := by decide +kernel
theorem dX11_expression_128 : decode cX11_expression 128 = .ok (.aload_n 0, 1) := by decide +kernel
theorem dX11_expression_129 : decode cX11_expression 129 = .ok (.dup, 1) := by decide +kernel
theorem dX11_expression_130 : decode cX11_expression 130 = .ok (.getfield 209, 3) := by decide +kernel
theorem dX11_expression_133 : decode cX11_expression 133 = .ok (.iconst 1, 1) := by decide +kernel
theorem dX11_expression_134 : decode cX11_expression 134 = .ok (.isub, 1) := by decide +kernel
theorem dX11_expression_135 : decode cX11_expression 135 = .ok (.putfield 209, 3) := by decide +kernel
theorem dX11_expression_138 : decode cX11_expression 138 = .ok (.aload_n 0, 1) := by decide +kernel
theorem dX11_expression_139 : decode cX11_expression 139 = .ok (.invokevirtual 203, 3) := by decide +kernel
theorem dX11_expression_142 : decode cX11_expression 142 = .ok (.goto (-46), 3) := by decide +kernel
theorem dX11_expression_145 : decode cX11_expression 145 = .ok (.aload_n 0, 1) := by decide +kernel
theorem dX11_expression_146 : decode cX11_expression 146 = .ok (.bipush 8, 2) := by decide +kernel
theorem dX11_expression_148 : decode cX11_expression 148 = .ok (.invokevirtual 200, 3) := by decide +kernel
theorem dX11_expression_151 : decode cX11_expression 151 = .ok (.ifCond .ne 30, 3) := by decide +kernel
theorem dX11_expression_154 : decode cX11_expression 154 = .ok (.aload_n 0, 1) := by decide +kernel
theorem dX11_expression_155 : decode cX11_expression 155 = .ok (.bipush 9, 2) := by decide +kernel
theorem dX11_expression_157 : decode cX11_expression 157 = .ok (.invokevirtual 200, 3) := by decide +kernel
theorem dX11_expression_160 : decode cX11_expression 160 = .ok (.ifCond .ne 21, 3) := by decide +kernel
theorem dX11_expression_163 : decode cX11_expression 163 = .ok (.aload_n 0, 1) := by decide +kernel
theorem dX11_expression_164 : decode cX11_expression 164 = .ok (.bipush 10, 2) := by decide +kernel
theorem dX11_expression_166 : decode cX11_expression 166 = .ok (.invokevirtual 200, 3) := by decide +kernel
theorem dX11_expression_169 : decode cX11_expression 169 = .ok (.ifCond .ne 12, 3) := by decide +kernel
theorem dX11_expression_172 : decode cX11_expression 172 = .ok (.aload_n 0, 1) := by decide +kernel
theorem dX11_expression_173 : decode cX11_expression 173 = .ok (.bipush 15, 2) := by decide +kernel
theorem dX11_expression_175 : decode cX11_expression 175 = .ok (.invokevirtual 200, 3) := by decide +kernel
theorem dX11_expression_178 : decode cX11_expression 178 = .ok (.ifCond .eq 7, 3) := by decide +kernel
theorem dX11_expression_181 : decode cX11_expression 181 = .ok (.iconst 1, 1) := by decide +kernel
theorem dX11_expression_182 : decode cX11_expression 182 = .ok (.goto 4, 3) := by decide +kernel
theorem dX11_expression_185 : decode cX11_expression 185 = .ok (.iconst 0, 1) := by decide +kernel
theorem dX11_expression_186 : decode cX11_expression 186 = .ok (.istore_n 2, 1) := by decide +kernel
theorem dX11_expression_187 : decode cX11_expression 187 = .ok (.iload_n 2, 1) := by decide +kernel
theorem dX11_expression_188 : decode cX11_expression 188 = .ok (.ifCond .ne 22, 3) := by decide +kernel
theorem dX11_expression_191 : decode cX11_expression 191 = .ok (.aload_n 0, 1) := by decide +kernel
theorem dX11_expression_192 : decode cX11_expression 192 = .ok (.getfield 209, 3) := by decide +kernel
theorem dX11_expression_195 : decode cX11_expression 195 = .ok (.iload_n 1, 1) := by decide +kernel
theorem dX11_expression_196 : decode cX11_expression 196 = .ok (.if_icmp .le 8, 3) := by decide +kernel
theorem dX11_expression_199 : decode cX11_expression 199 = .ok (.aload_n 0, 1) := by decide +kernel
theorem dX11_expression_200 : decode cX11_expression 200 = .ok (.iconst 1, 1) := by decide +kernel
theorem dX11_expression_201 : decode cX11_expression 201 = .ok (.invokevirtual 197, 3) := by decide +kernel
theorem dX11_expression_204 : decode cX11_expression 204 = .ok (.aload_n 0, 1) := by decide +kernel
theorem dX11_expression_205 : decode cX11_expression 205 = .ok (.iconst 0, 1) := by decide +kernel
theorem dX11_expression_206 : decode cX11_expression 206 = .ok (.invokevirtual 274, 3) := by decide +kernel
theorem dX11_expression_209 : decode cX11_expression 209 = .ok (.return_, 1) := by decide +kernel
theorem dX11_expression_210 : decode cX11_expression 210 = .ok (.aload_n 0, 1) := by decide +kernel
theorem dX11_expression_211 : decode cX11_expression 211 = .ok (.aload_n 0, 1) := by decide +kernel
theorem dX11_expression_212 : decode cX11_expression 212 = .ok (.bipush 10, 2) := by decide +kernel
theorem dX11_expression_214 : decode cX11_expression 214 = .ok (.invokevirtual 200, 3) := by decide +kernel
theorem dX11_expression_217 : decode cX11_expression 217 = .ok (.ifCond .ne 12, 3) := by decide +kernel
theorem dX11_expression_220 : decode cX11_expression 220 = .ok (.aload_n 0, 1) := by decide +kernel
theorem dX11_expression_221 : decode cX11_expression 221 = .ok (.bipush 15, 2) := by decide +kernel
theorem dX11_expression_223 : decode cX11_expression 223 = .ok (.invokevirtual 200, 3) := by decide +kernel
theorem dX11_expression_226 : decode cX11_expression 226 = .ok (.ifCond .eq 7, 3) := by decide +kernel
theorem dX11_expression_229 : decode cX11_expression 229 = .ok (.iconst 1, 1) := by decide +kernel
theorem dX11_expression_230 : decode cX11_expression 230 = .ok (.goto 4, 3) := by decide +kernel
theorem dX11_expression_233 : decode cX11_expression 233 = .ok (.iconst 0, 1) := by decide +kernel
theorem dX11_expression_234 : decode cX11_expression 234 = .ok (.invokevirtual 274, 3) := by decide +kernel
theorem dX11_expression_237 : decode cX11_expression 237 = .ok (.aload_n 0, 1) := by decide +kernel
theorem dX11_expression_238 : decode cX11_expression 238 = .ok (.getfield 86, 3) := by decide +kernel
theorem dX11_expression_241 : decode cX11_expression 241 = .ok (.aload_n 0, 1) := by decide +kernel
theorem dX11_expression_242 : decode cX11_expression 242 = .ok (.getfield 265, 3) := by decide +kernel
theorem dX11_expression_245 : decode cX11_expression 245 = .ok (.aload_n 0, 1) := by decide +kernel
theorem dX11_expression_246 : decode cX11_expression 246 = .ok (.getfield 20, 3) := by decide +kernel
theorem dX11_expression_249 : decode cX11_expression 249 = .ok (.aload_n 0, 1) := by decide +kernel
theorem dX11_expression_250 : decode cX11_expression 250 = .ok (.getfield 185, 3) := by decide +kernel
theorem dX11_expression_253 : decode cX11_expression 253 = .ok (.iaload, 1) := by decide +kernel
theorem dX11_expression_254 : decode cX11_expression 254 = .ok (.iastore, 1) := by decide +kernel
theorem dX11_expression_255 : decode cX11_expression 255 = .ok (.aload_n 0, 1) := by decide +kernel
theorem dX11_expression_256 : decode cX11_expression 256 = .ok (.dup, 1) := by decide +kernel
theorem dX11_expression_257 : decode cX11_expression 257 = .ok (.getfield 265, 3) := by decide +kernel
theorem dX11_expression_260 : decode cX11_expression 260 = .ok (.iconst 1, 1) := by decide +kernel
theorem dX11_expression_261 : decode cX11_expression 261 = .ok (.iadd, 1) := by decide +kernel
theorem dX11_expression_262 : decode cX11_expression 262 = .ok (.putfield 265, 3) := by decide +kernel
theorem dX11_expression_265 : decode cX11_expression 265 = .ok (.aload_n 0, 1) := by decide +kernel
theorem dX11_expression_266 : decode cX11_expression 266 = .ok (.invokevirtual 203, 3) := by decide +kernel
theorem dX11_expression_269 : decode cX11_expression 269 = .ok (.goto (-257), 3) := by decide +kernel
theorem dX11_expression_272 : decode cX11_expression 272 = .ok (.return_, 1) := by decide +kernel
theorem dX11_unit_0 : decode cX11_unit 0 = .ok (.aload_n 0, 1) := by decide +kernel
theorem dX11_unit_1 : decode cX11_unit 1 = .ok (.iconst 2, 1) := by decide +kernel
theorem dX11_unit_2 : decode cX11_unit 2 = .ok (.invokevirtual 200, 3) := by decide +kernel
theorem dX11_unit_5 : decode cX11_unit 5 = .ok (.ifCond .eq 24, 3) := by decide +kernel
theorem dX11_unit_8 : decode cX11_unit 8 = .ok (.aload_n 0, 1) := by decide +kernel
theorem dX11_unit_9 : decode cX11_unit 9 = .ok (.iconst 0, 1) := by decide +kernel
theorem dX11_unit_10 : decode cX11_unit 10 = .ok (.aload_n 0, 1) := by decide +kernel
theorem dX11_unit_11 : decode cX11_unit 11 = .ok (.getfield 27, 3) := by decide +kernel
theorem dX11_unit_14 : decode cX11_unit 14 = .ok (.aload_n 0, 1) := by decide +kernel
theorem dX11_unit_15 : decode cX11_unit 15 = .ok (.getfield 185, 3) := by decide +kernel
theorem dX11_unit_18 : decode cX11_unit 18 = .ok (.iaload, 1) := by decide +kernel
theorem dX11_unit_19 : decode cX11_unit 19 = .ok (.invokevirtual 268, 3) := by decide +kernel
theorem dX11_unit_22 : decode cX11_unit 22 = .ok (.aload_n 0, 1) := by decide +kernel
theorem dX11_unit_23 : decode cX11_unit 23 = .ok (.invokevirtual 203, 3) := by decide +kernel
theorem dX11_unit_26 : decode cX11_unit 26 = .ok (.goto 67, 3) := by decide +kernel
theorem dX11_unit_29 : decode cX11_unit 29 = .ok (.aload_n 0, 1) := by decide +kernel
theorem dX11_unit_30 : decode cX11_unit 30 = .ok (.getfield 182, 3) := by decide +kernel
theorem dX11_unit_33 : decode cX11_unit 33 = .ok (.ifCond .ne 55, 3) := by decide +kernel
theorem dX11_unit_36 : decode cX11_unit 36 = .ok (.aload_n 0, 1) := by decide +kernel
theorem dX11_unit_37 : decode cX11_unit 37 = .ok (.getfield 20, 3) := by decide +kernel
theorem dX11_unit_40 : decode cX11_unit 40 = .ok (.aload_n 0, 1) := by decide +kernel
theorem dX11_unit_41 : decode cX11_unit 41 = .ok (.getfield 185, 3) := by decide +kernel
theorem dX11_unit_44 : decode cX11_unit 44 = .ok (.iaload, 1) := by decide +kernel
theorem dX11_unit_45 : decode cX11_unit 45 = .ok (.bipush 30, 2) := by decide +kernel
theorem dX11_unit_47 : decode cX11_unit 47 = .ok (.if_icmp .lt 41, 3) := by decide +kernel
theorem dX11_unit_50 : decode cX11_unit 50 = .ok (.aload_n 0, 1) := by decide +kernel
theorem dX11_unit_51 : decode cX11_unit 51 = .ok (.getfield 20, 3) := by decide +kernel
theorem dX11_unit_54 : decode cX11_unit 54 = .ok (.aload_n 0, 1) := by decide +kernel
theorem dX11_unit_55 : decode cX11_unit 55 = .ok (.getfield 185, 3) := by decide +kernel
theorem dX11_unit_58 : decode cX11_unit 58 = .ok (.iaload, 1) := by decide +kernel
theorem dX11_unit_59 : decode cX11_unit 59 = .ok (.bipush 38, 2) := by decide +kernel
theorem dX11_unit_61 : decode cX11_unit 61 = .ok (.if_icmp .gt 27, 3) := by decide +kernel
theorem dX11_unit_64 : decode cX11_unit 64 = .ok (.aload_n 0, 1) := by decide +kernel
theorem dX11_unit_65 : decode cX11_unit 65 = .ok (.iconst 1, 1) := by decide +kernel
theorem dX11_unit_66 : decode cX11_unit 66 = .ok (.aload_n 0, 1) := by decide +kernel
theorem dX11_unit_67 : decode cX11_unit 67 = .ok (.getfield 20, 3) := by decide +kernel
theorem dX11_unit_70 : decode cX11_unit 70 = .ok (.aload_n 0, 1) := by decide +kernel
theorem dX11_unit_71 : decode cX11_unit 71 = .ok (.getfield 185, 3) := by decide +kernel
theorem dX11_unit_74 : decode cX11_unit 74 = .ok (.iaload, 1) := by decide +kernel
theorem dX11_unit_75 : decode cX11_unit 75 = .ok (.bipush 30, 2) := by decide +kernel
theorem dX11_unit_77 : decode cX11_unit 77 = .ok (.isub, 1) := by decide +kernel
theorem dX11_unit_78 : decode cX11_unit 78 = .ok (.invokevirtual 268, 3) := by decide +kernel
theorem dX11_unit_81 : decode cX11_unit 81 = .ok (.aload_n 0, 1) := by decide +kernel
theorem dX11_unit_82 : decode cX11_unit 82 = .ok (.invokevirtual 203, 3) := by decide +kernel
theorem dX11_unit_85 : decode cX11_unit 85 = .ok (.goto 8, 3) := by decide +kernel
theorem dX11_unit_88 : decode cX11_unit 88 = .ok (.aload_n 0, 1) := by decide +kernel
theorem dX11_unit_89 : decode cX11_unit 89 = .ok (.iconst 1, 1) := by decide +kernel
theorem dX11_unit_90 : decode cX11_unit 90 = .ok (.invokevirtual 197, 3) := by decide +kernel
theorem dX11_unit_93 : decode cX11_unit 93 = .ok (.return_, 1) := by decide +kernel
theorem dX11_termOf_0 : decode cX11_termOf 0 = .ok (.iconst 0, 1) := by decide +kernel
theorem dX11_termOf_1 : decode cX11_termOf 1 = .ok (.istore_n 3, 1) := by decide +kernel
theorem dX11_termOf_2 : decode cX11_termOf 2 = .ok (.iload_n 1, 1) := by decide +kernel
theorem dX11_termOf_3 : decode cX11_termOf 3 = .ok (.istore 4, 2) := by decide +kernel
theorem dX11_termOf_5 : decode cX11_termOf 5 = .ok (.iload 4, 2) := by decide +kernel
theorem dX11_termOf_7 : decode cX11_termOf 7 = .ok (.iload_n 2, 1) := by decide +kernel
theorem dX11_termOf_8 : decode cX11_termOf 8 = .ok (.if_icmp .ge 157, 3) := by decide +kernel
theorem dX11_termOf_11 : decode cX11_termOf 11 = .ok (.aload_n 0, 1) := by decide +kernel
theorem dX11_termOf_12 : decode cX11_termOf 12 = .ok (.getfield 80, 3) := by decide +kernel
theorem dX11_termOf_15 : decode cX11_termOf 15 = .ok (.iload 4, 2) := by decide +kernel
theorem dX11_termOf_17 : decode cX11_termOf 17 = .ok (.iaload, 1) := by decide +kernel
theorem dX11_termOf_18 : decode cX11_termOf 18 = .ok (.istore 5, 2) := by decide +kernel
theorem dX11_termOf_20 : decode cX11_termOf 20 = .ok (.iload 5, 2) := by decide +kernel
theorem dX11_termOf_22 : decode cX11_termOf 22 = .ok (.iconst 2, 1) := by decide +kernel
theorem dX11_termOf_23 : decode cX11_termOf 23 = .ok (.if_icmp .ge 42, 3) := by decide +kernel
theorem dX11_termOf_26 : decode cX11_termOf 26 = .ok (.aload_n 0, 1) := by decide +kernel
theorem dX11_termOf_27 : decode cX11_termOf 27 = .ok (.getfield 92, 3) := by decide +kernel
theorem dX11_termOf_30 : decode cX11_termOf 30 = .ok (.iload_n 3, 1) := by decide +kernel
theorem dX11_termOf_31 : decode cX11_termOf 31 = .ok (.iload 5, 2) := by decide +kernel
theorem dX11_termOf_33 : decode cX11_termOf 33 = .ok (.ifCond .ne 13, 3) := by decide +kernel
theorem dX11_termOf_36 : decode cX11_termOf 36 = .ok (.aload_n 0, 1) := by decide +kernel
theorem dX11_termOf_37 : decode cX11_termOf 37 = .ok (.getfield 83, 3) := by decide +kernel
theorem dX11_termOf_40 : decode cX11_termOf 40 = .ok (.iload 4, 2) := by decide +kernel
theorem dX11_termOf_42 : decode cX11_termOf 42 = .ok (.iaload, 1) := by decide +kernel
theorem dX11_termOf_43 : decode cX11_termOf 43 = .ok (.goto 15, 3) := by decide +kernel
theorem dX11_termOf_46 : decode cX11_termOf 46 = .ok (.aload_n 0, 1) := by decide +kernel
theorem dX11_termOf_47 : decode cX11_termOf 47 = .ok (.getfield 89, 3) := by decide +kernel
theorem dX11_termOf_50 : decode cX11_termOf 50 = .ok (.aload_n 0, 1) := by decide +kernel
theorem dX11_termOf_51 : decode cX11_termOf 51 = .ok (.getfield 83, 3) := by decide +kernel
theorem dX11_termOf_54 : decode cX11_termOf 54 = .ok (.iload 4, 2) := by decide +kernel
theorem dX11_termOf_56 : decode cX11_termOf 56 = .ok (.iaload, 1) := by decide +kernel
theorem dX11_termOf_57 : decode cX11_termOf 57 = .ok (.iaload, 1) := by decide +kernel
theorem dX11_termOf_58 : decode cX11_termOf 58 = .ok (.iastore, 1) := by decide +kernel
theorem dX11_termOf_59 : decode cX11_termOf 59 = .ok (.iinc 3 1, 3) := by decide +kernel
theorem dX11_termOf_62 : decode cX11_termOf 62 = .ok (.goto 97, 3) := by decide +kernel
theorem dX11_termOf_65 : decode cX11_termOf 65 = .ok (.iinc 3 (-1), 3) := by decide +kernel
theorem dX11_termOf_68 : decode cX11_termOf 68 = .ok (.aload_n 0, 1) := by decide +kernel
theorem dX11_termOf_69 : decode cX11_termOf 69 = .ok (.getfield 92, 3) := by decide +kernel
theorem dX11_termOf_72 : decode cX11_termOf 72 = .ok (.iload_n 3, 1) := by decide +kernel
theorem dX11_termOf_73 : decode cX11_termOf 73 = .ok (.iconst 1, 1) := by decide +kernel
theorem dX11_termOf_74 : decode cX11_termOf 74 = .ok (.isub, 1) := by decide +kernel
theorem dX11_termOf_75 : decode cX11_termOf 75 = .ok (.iaload, 1) := by decide +kernel
theorem dX11_termOf_76 : decode cX11_termOf 76 = .ok (.istore 6, 2) := by decide +kernel
theorem dX11_termOf_78 : decode cX11_termOf 78 = .ok (.aload_n 0, 1) := by decide +kernel
theorem dX11_termOf_79 : decode cX11_termOf 79 = .ok (.getfield 92, 3) := by decide +kernel
theorem dX11_termOf_82 : decode cX11_termOf 82 = .ok (.iload_n 3, 1) := by decide +kernel
theorem dX11_termOf_83 : decode cX11_termOf 83 = .ok (.iaload, 1) := by decide +kernel
theorem dX11_termOf_84 : decode cX11_termOf 84 = .ok (.istore 7, 2) := by decide +kernel
theorem dX11_termOf_86 : decode cX11_termOf 86 = .ok (.iload 5, 2) := by decide +kernel
theorem dX11_termOf_88 : decode cX11_termOf 88 = .ok (.iconst 5, 1) := by decide +kernel
theorem dX11_termOf_89 : decode cX11_termOf 89 = .ok (.if_icmp .ne 15, 3) := by decide +kernel
theorem dX11_termOf_92 : decode cX11_termOf 92 = .ok (.iload 7, 2) := by decide +kernel
theorem dX11_termOf_94 : decode cX11_termOf 94 = .ok (.ifCond .ne 10, 3) := by decide +kernel
theorem dX11_termOf_97 : decode cX11_termOf 97 = .ok (.aload_n 0, 1) := by decide +kernel
theorem dX11_termOf_98 : decode cX11_termOf 98 = .ok (.iconst 1, 1) := by decide +kernel
theorem dX11_termOf_99 : decode cX11_termOf 99 = .ok (.putfield 278, 3) := by decide +kernel
theorem dX11_termOf_102 : decode cX11_termOf 102 = .ok (.iconst 0, 1) := by decide +kernel
theorem dX11_termOf_103 : decode cX11_termOf 103 = .ok (.ireturn, 1) := by decide +kernel
theorem dX11_termOf_104 : decode cX11_termOf 104 = .ok (.aload_n 0, 1) := by decide +kernel
theorem dX11_termOf_105 : decode cX11_termOf 105 = .ok (.getfield 92, 3) := by decide +kernel
theorem dX11_termOf_108 : decode cX11_termOf 108 = .ok (.iload_n 3, 1) := by decide +kernel
theorem dX11_termOf_109 : decode cX11_termOf 109 = .ok (.iconst 1, 1) := by decide +kernel
theorem dX11_termOf_110 : decode cX11_termOf 110 = .ok (.isub, 1) := by decide +kernel
theorem dX11_termOf_111 : decode cX11_termOf 111 = .ok (.iload 5, 2) := by decide +kernel
theorem dX11_termOf_113 : decode cX11_termOf 113 = .ok (.iconst 2, 1) := by decide +kernel
theorem dX11_termOf_114 : decode cX11_termOf 114 = .ok (.if_icmp .ne 11, 3) := by decide +kernel
theorem dX11_termOf_117 : decode cX11_termOf 117 = .ok (.iload 6, 2) := by decide +kernel
theorem dX11_termOf_119 : decode cX11_termOf 119 = .ok (.iload 7, 2) := by decide +kernel
theorem dX11_termOf_121 : decode cX11_termOf 121 = .ok (.iadd, 1) := by decide +kernel
theorem dX11_termOf_122 : decode cX11_termOf 122 = .ok (.goto 36, 3) := by decide +kernel
theorem dX11_termOf_125 : decode cX11_termOf 125 = .ok (.iload 5, 2) := by decide +kernel
theorem dX11_termOf_127 : decode cX11_termOf 127 = .ok (.iconst 3, 1) := by decide +kernel
theorem dX11_termOf_128 : decode cX11_termOf 128 = .ok (.if_icmp .ne 11, 3) := by decide +kernel
theorem dX11_termOf_131 : decode cX11_termOf 131 = .ok (.iload 6, 2) := by decide +kernel
theorem dX11_termOf_133 : decode cX11_termOf 133 = .ok (.iload 7, 2) := by decide +kernel
theorem dX11_termOf_135 : decode cX11_termOf 135 = .ok (.isub, 1) := by decide +kernel
theorem dX11_termOf_136 : decode cX11_termOf 136 = .ok (.goto 22, 3) := by decide +kernel
theorem dX11_termOf_139 : decode cX11_termOf 139 = .ok (.iload 5, 2) := by decide +kernel
theorem dX11_termOf_141 : decode cX11_termOf 141 = .ok (.iconst 4, 1) := by decide +kernel
theorem dX11_termOf_142 : decode cX11_termOf 142 = .ok (.if_icmp .ne 11, 3) := by decide +kernel
theorem dX11_termOf_145 : decode cX11_termOf 145 = .ok (.iload 6, 2) := by decide +kernel
theorem dX11_termOf_147 : decode cX11_termOf 147 = .ok (.iload 7, 2) := by decide +kernel
theorem dX11_termOf_149 : decode cX11_termOf 149 = .ok (.imul, 1) := by decide +kernel
theorem dX11_termOf_150 : decode cX11_termOf 150 = .ok (.goto 8, 3) := by decide +kernel
theorem dX11_termOf_153 : decode cX11_termOf 153 = .ok (.iload 6, 2) := by decide +kernel
theorem dX11_termOf_155 : decode cX11_termOf 155 = .ok (.iload 7, 2) := by decide +kernel
theorem dX11_termOf_157 : decode cX11_termOf 157 = .ok (.idiv, 1) := by decide +kernel
theorem dX11_termOf_158 : decode cX11_termOf 158 = .ok (.iastore, 1) := by decide +kernel
theorem dX11_termOf_159 : decode cX11_termOf 159 = .ok (.iinc 4 1, 3) := by decide +kernel
theorem dX11_termOf_162 : decode cX11_termOf 162 = .ok (.goto (-157), 3) := by decide +kernel
theorem dX11_termOf_165 : decode cX11_termOf 165 = .ok (.aload_n 0, 1) := by decide +kernel
theorem dX11_termOf_166 : decode cX11_termOf 166 = .ok (.getfield 92, 3) := by decide +kernel
theorem dX11_termOf_169 : decode cX11_termOf 169 = .ok (.iconst 0, 1) := by decide +kernel
theorem dX11_termOf_170 : decode cX11_termOf 170 = .ok (.iaload, 1) := by decide +kernel
theorem dX11_termOf_171 : decode cX11_termOf 171 = .ok (.ireturn, 1) := by decide +kernel
theorem dX11_in_0 : decode cX11_in 0 = .ok (.iload_n 0, 1) := by decide +kernel
theorem dX11_in_1 : decode cX11_in 1 = .ok (.iload_n 1, 1) := by decide +kernel
theorem dX11_in_2 : decode cX11_in 2 = .ok (.if_icmp .lt 12, 3) := by decide +kernel
theorem dX11_in_5 : decode cX11_in 5 = .ok (.iload_n 0, 1) := by decide +kernel
theorem dX11_in_6 : decode cX11_in 6 = .ok (.iload_n 2, 1) := by decide +kernel
theorem dX11_in_7 : decode cX11_in 7 = .ok (.if_icmp .gt 7, 3) := by decide +kernel
theorem dX11_in_10 : decode cX11_in 10 = .ok (.iconst 1, 1) := by decide +kernel
theorem dX11_in_11 : decode cX11_in 11 = .ok (.goto 4, 3) := by decide +kernel
theorem dX11_in_14 : decode cX11_in 14 = .ok (.iconst 0, 1) := by decide +kernel
theorem dX11_in_15 : decode cX11_in 15 = .ok (.ireturn, 1) := by decide +kernel
theorem dX11_within_0 : decode cX11_within 0 = .ok (.iload_n 0, 1) := by decide +kernel
theorem dX11_within_1 : decode cX11_within 1 = .ok (.iload_n 1, 1) := by decide +kernel
theorem dX11_within_2 : decode cX11_within 2 = .ok (.if_icmp .ge 7, 3) := by decide +kernel
theorem dX11_within_5 : decode cX11_within 5 = .ok (.iload_n 1, 1) := by decide +kernel
theorem dX11_within_6 : decode cX11_within 6 = .ok (.goto 13, 3) := by decide +kernel
theorem dX11_within_9 : decode cX11_within 9 = .ok (.iload_n 0, 1) := by decide +kernel
theorem dX11_within_10 : decode cX11_within 10 = .ok (.iload_n 2, 1) := by decide +kernel
theorem dX11_within_11 : decode cX11_within 11 = .ok (.if_icmp .le 7, 3) := by decide +kernel
theorem dX11_within_14 : decode cX11_within 14 = .ok (.iload_n 2, 1) := by decide +kernel
theorem dX11_within_15 : decode cX11_within 15 = .ok (.goto 4, 3) := by decide +kernel
theorem dX11_within_18 : decode cX11_within 18 = .ok (.iload_n 0, 1) := by decide +kernel
theorem dX11_within_19 : decode cX11_within 19 = .ok (.ireturn, 1) := by decide +kernel
theorem dX11_bits_0 : decode cX11_bits 0 = .ok (.iconst 0, 1) := by decide +kernel
theorem dX11_bits_1 : decode cX11_bits 1 = .ok (.istore_n 1, 1) := by decide +kernel
theorem dX11_bits_2 : decode cX11_bits 2 = .ok (.iconst 0, 1) := by decide +kernel
theorem dX11_bits_3 : decode cX11_bits 3 = .ok (.istore_n 2, 1) := by decide +kernel
theorem dX11_bits_4 : decode cX11_bits 4 = .ok (.iload_n 2, 1) := by decide +kernel
theorem dX11_bits_5 : decode cX11_bits 5 = .ok (.bipush 7, 2) := by decide +kernel
theorem dX11_bits_7 : decode cX11_bits 7 = .ok (.if_icmp .ge 17, 3) := by decide +kernel
theorem dX11_bits_10 : decode cX11_bits 10 = .ok (.iload_n 1, 1) := by decide +kernel
theorem dX11_bits_11 : decode cX11_bits 11 = .ok (.iload_n 0, 1) := by decide +kernel
theorem dX11_bits_12 : decode cX11_bits 12 = .ok (.iload_n 2, 1) := by decide +kernel
theorem dX11_bits_13 : decode cX11_bits 13 = .ok (.ishr, 1) := by decide +kernel
theorem dX11_bits_14 : decode cX11_bits 14 = .ok (.iconst 1, 1) := by decide +kernel
theorem dX11_bits_15 : decode cX11_bits 15 = .ok (.iand, 1) := by decide +kernel
theorem dX11_bits_16 : decode cX11_bits 16 = .ok (.iadd, 1) := by decide +kernel
theorem dX11_bits_17 : decode cX11_bits 17 = .ok (.istore_n 1, 1) := by decide +kernel
theorem dX11_bits_18 : decode cX11_bits 18 = .ok (.iinc 2 1, 3) := by decide +kernel
theorem dX11_bits_21 : decode cX11_bits 21 = .ok (.goto (-17), 3) := by decide +kernel
theorem dX11_bits_24 : decode cX11_bits 24 = .ok (.iload_n 1, 1) := by decide +kernel
theorem dX11_bits_25 : decode cX11_bits 25 = .ok (.ireturn, 1) := by decide +kernel
theorem dX11_isCase_0 : decode cX11_isCase 0 = .ok (.iload_n 1, 1) := by decide +kernel
theorem dX11_isCase_1 : decode cX11_isCase 1 = .ok (.iconst 0, 1) := by decide +kernel
theorem dX11_isCase_2 : decode cX11_isCase 2 = .ok (.aload_n 0, 1) := by decide +kernel
theorem dX11_isCase_3 : decode cX11_isCase 3 = .ok (.getfield 43, 3) := by decide +kernel
theorem dX11_isCase_6 : decode cX11_isCase 6 = .ok (.aload_n 0, 1) := by decide +kernel
theorem dX11_isCase_7 : decode cX11_isCase 7 = .ok (.getfield 212, 3) := by decide +kernel
theorem dX11_isCase_10 : decode cX11_isCase 10 = .ok (.iaload, 1) := by decide +kernel
theorem dX11_isCase_11 : decode cX11_isCase 11 = .ok (.iconst 1, 1) := by decide +kernel
theorem dX11_isCase_12 : decode cX11_isCase 12 = .ok (.isub, 1) := by decide +kernel
theorem dX11_isCase_13 : decode cX11_isCase 13 = .ok (.invokestatic 282, 3) := by decide +kernel
theorem dX11_isCase_16 : decode cX11_isCase 16 = .ok (.ireturn, 1) := by decide +kernel
theorem dX11_deedAt_0 : decode cX11_deedAt 0 = .ok (.aload_n 0, 1) := by decide +kernel
theorem dX11_deedAt_1 : decode cX11_deedAt 1 = .ok (.getfield 46, 3) := by decide +kernel
theorem dX11_deedAt_4 : decode cX11_deedAt 4 = .ok (.bipush 7, 2) := by decide +kernel
theorem dX11_deedAt_6 : decode cX11_deedAt 6 = .ok (.aload_n 0, 1) := by decide +kernel
theorem dX11_deedAt_7 : decode cX11_deedAt 7 = .ok (.getfield 212, 3) := by decide +kernel
theorem dX11_deedAt_10 : decode cX11_deedAt 10 = .ok (.imul, 1) := by decide +kernel
theorem dX11_deedAt_11 : decode cX11_deedAt 11 = .ok (.iload_n 1, 1) := by decide +kernel
theorem dX11_deedAt_12 : decode cX11_deedAt 12 = .ok (.iadd, 1) := by decide +kernel
theorem dX11_deedAt_13 : decode cX11_deedAt 13 = .ok (.iaload, 1) := by decide +kernel
theorem dX11_deedAt_14 : decode cX11_deedAt 14 = .ok (.ireturn, 1) := by decide +kernel
theorem dX11_begins_0 : decode cX11_begins 0 = .ok (.iconst 0, 1) := by decide +kernel
theorem dX11_begins_1 : decode cX11_begins 1 = .ok (.istore_n 1, 1) := by decide +kernel
theorem dX11_begins_2 : decode cX11_begins 2 = .ok (.iload_n 1, 1) := by decide +kernel
theorem dX11_begins_3 : decode cX11_begins 3 = .ok (.bipush 26, 2) := by decide +kernel
theorem dX11_begins_5 : decode cX11_begins 5 = .ok (.if_icmp .ge 16, 3) := by decide +kernel
theorem dX11_begins_8 : decode cX11_begins 8 = .ok (.aload_n 0, 1) := by decide +kernel
theorem dX11_begins_9 : decode cX11_begins 9 = .ok (.getfield 98, 3) := by decide +kernel
theorem dX11_begins_12 : decode cX11_begins 12 = .ok (.iload_n 1, 1) := by decide +kernel
theorem dX11_begins_13 : decode cX11_begins 13 = .ok (.iconst 0, 1) := by decide +kernel
theorem dX11_begins_14 : decode cX11_begins 14 = .ok (.iastore, 1) := by decide +kernel
theorem dX11_begins_15 : decode cX11_begins 15 = .ok (.iinc 1 1, 3) := by decide +kernel
theorem dX11_begins_18 : decode cX11_begins 18 = .ok (.goto (-16), 3) := by decide +kernel
theorem dX11_begins_21 : decode cX11_begins 21 = .ok (.aload_n 0, 1) := by decide +kernel
theorem dX11_begins_22 : decode cX11_begins 22 = .ok (.getfield 98, 3) := by decide +kernel
theorem dX11_begins_25 : decode cX11_begins 25 = .ok (.bipush 7, 2) := by decide +kernel
theorem dX11_begins_27 : decode cX11_begins 27 = .ok (.aload_n 0, 1) := by decide +kernel
theorem dX11_begins_28 : decode cX11_begins 28 = .ok (.getfield 43, 3) := by decide +kernel
theorem dX11_begins_31 : decode cX11_begins 31 = .ok (.aload_n 0, 1) := by decide +kernel
theorem dX11_begins_32 : decode cX11_begins 32 = .ok (.getfield 212, 3) := by decide +kernel
theorem dX11_begins_35 : decode cX11_begins 35 = .ok (.iaload, 1) := by decide +kernel
theorem dX11_begins_36 : decode cX11_begins 36 = .ok (.iastore, 1) := by decide +kernel
theorem dX11_begins_37 : decode cX11_begins 37 = .ok (.iconst 0, 1) := by decide +kernel
theorem dX11_begins_38 : decode cX11_begins 38 = .ok (.istore_n 1, 1) := by decide +kernel
theorem dX11_begins_39 : decode cX11_begins 39 = .ok (.iload_n 1, 1) := by decide +kernel
theorem dX11_begins_40 : decode cX11_begins 40 = .ok (.aload_n 0, 1) := by decide +kernel
theorem dX11_begins_41 : decode cX11_begins 41 = .ok (.getfield 43, 3) := by decide +kernel
theorem dX11_begins_44 : decode cX11_begins 44 = .ok (.aload_n 0, 1) := by decide +kernel
theorem dX11_begins_45 : decode cX11_begins 45 = .ok (.getfield 212, 3) := by decide +kernel
theorem dX11_begins_48 : decode cX11_begins 48 = .ok (.iaload, 1) := by decide +kernel
theorem dX11_begins_49 : decode cX11_begins 49 = .ok (.if_icmp .ge 39, 3) := by decide +kernel
theorem dX11_begins_52 : decode cX11_begins 52 = .ok (.aload_n 0, 1) := by decide +kernel
theorem dX11_begins_53 : decode cX11_begins 53 = .ok (.getfield 98, 3) := by decide +kernel
theorem dX11_begins_56 : decode cX11_begins 56 = .ok (.iload_n 1, 1) := by decide +kernel
theorem dX11_begins_57 : decode cX11_begins 57 = .ok (.iload_n 1, 1) := by decide +kernel
theorem dX11_begins_58 : decode cX11_begins 58 = .ok (.iastore, 1) := by decide +kernel
theorem dX11_begins_59 : decode cX11_begins 59 = .ok (.aload_n 0, 1) := by decide +kernel
theorem dX11_begins_60 : decode cX11_begins 60 = .ok (.getfield 98, 3) := by decide +kernel
theorem dX11_begins_63 : decode cX11_begins 63 = .ok (.bipush 10, 2) := by decide +kernel
theorem dX11_begins_65 : decode cX11_begins 65 = .ok (.iload_n 1, 1) := by decide +kernel
theorem dX11_begins_66 : decode cX11_begins 66 = .ok (.iadd, 1) := by decide +kernel
theorem dX11_begins_67 : decode cX11_begins 67 = .ok (.aload_n 0, 1) := by decide +kernel
theorem dX11_begins_68 : decode cX11_begins 68 = .ok (.getfield 49, 3) := by decide +kernel
theorem dX11_begins_71 : decode cX11_begins 71 = .ok (.bipush 7, 2) := by decide +kernel
theorem dX11_begins_73 : decode cX11_begins 73 = .ok (.aload_n 0, 1) := by decide +kernel
theorem dX11_begins_74 : decode cX11_begins 74 = .ok (.getfield 212, 3) := by decide +kernel
theorem dX11_begins_77 : decode cX11_begins 77 = .ok (.imul, 1) := by decide +kernel
theorem dX11_begins_78 : decode cX11_begins 78 = .ok (.iload_n 1, 1) := by decide +kernel
theorem dX11_begins_79 : decode cX11_begins 79 = .ok (.iadd, 1) := by decide +kernel
theorem dX11_begins_80 : decode cX11_begins 80 = .ok (.iaload, 1) := by decide +kernel
theorem dX11_begins_81 : decode cX11_begins 81 = .ok (.iastore, 1) := by decide +kernel
theorem dX11_begins_82 : decode cX11_begins 82 = .ok (.iinc 1 1, 3) := by decide +kernel
theorem dX11_begins_85 : decode cX11_begins 85 = .ok (.goto (-46), 3) := by decide +kernel
theorem dX11_begins_88 : decode cX11_begins 88 = .ok (.aload_n 0, 1) := by decide +kernel
theorem dX11_begins_89 : decode cX11_begins 89 = .ok (.getfield 98, 3) := by decide +kernel
theorem dX11_begins_92 : decode cX11_begins 92 = .ok (.bipush 9, 2) := by decide +kernel
theorem dX11_begins_94 : decode cX11_begins 94 = .ok (.aload_n 0, 1) := by decide +kernel
theorem dX11_begins_95 : decode cX11_begins 95 = .ok (.getfield 52, 3) := by decide +kernel
theorem dX11_begins_98 : decode cX11_begins 98 = .ok (.aload_n 0, 1) := by decide +kernel
theorem dX11_begins_99 : decode cX11_begins 99 = .ok (.getfield 212, 3) := by decide +kernel
theorem dX11_begins_102 : decode cX11_begins 102 = .ok (.iaload, 1) := by decide +kernel
theorem dX11_begins_103 : decode cX11_begins 103 = .ok (.iastore, 1) := by decide +kernel
theorem dX11_begins_104 : decode cX11_begins 104 = .ok (.aload_n 0, 1) := by decide +kernel
theorem dX11_begins_105 : decode cX11_begins 105 = .ok (.aload_n 0, 1) := by decide +kernel
theorem dX11_begins_106 : decode cX11_begins 106 = .ok (.getfield 55, 3) := by decide +kernel
theorem dX11_begins_109 : decode cX11_begins 109 = .ok (.aload_n 0, 1) := by decide +kernel
theorem dX11_begins_110 : decode cX11_begins 110 = .ok (.getfield 212, 3) := by decide +kernel
theorem dX11_begins_113 : decode cX11_begins 113 = .ok (.iaload, 1) := by decide +kernel
theorem dX11_begins_114 : decode cX11_begins 114 = .ok (.putfield 286, 3) := by decide +kernel
theorem dX11_begins_117 : decode cX11_begins 117 = .ok (.return_, 1) := by decide +kernel
theorem dX11_keepsRow_0 : decode cX11_keepsRow 0 = .ok (.iconst 0, 1) := by decide +kernel
theorem dX11_keepsRow_1 : decode cX11_keepsRow 1 = .ok (.istore_n 1, 1) := by decide +kernel
theorem dX11_keepsRow_2 : decode cX11_keepsRow 2 = .ok (.iload_n 1, 1) := by decide +kernel
theorem dX11_keepsRow_3 : decode cX11_keepsRow 3 = .ok (.bipush 26, 2) := by decide +kernel
theorem dX11_keepsRow_5 : decode cX11_keepsRow 5 = .ok (.if_icmp .ge 21, 3) := by decide +kernel
theorem dX11_keepsRow_8 : decode cX11_keepsRow 8 = .ok (.aload_n 0, 1) := by decide +kernel
theorem dX11_keepsRow_9 : decode cX11_keepsRow 9 = .ok (.getfield 95, 3) := by decide +kernel
theorem dX11_keepsRow_12 : decode cX11_keepsRow 12 = .ok (.iload_n 1, 1) := by decide +kernel
theorem dX11_keepsRow_13 : decode cX11_keepsRow 13 = .ok (.aload_n 0, 1) := by decide +kernel
theorem dX11_keepsRow_14 : decode cX11_keepsRow 14 = .ok (.getfield 98, 3) := by decide +kernel
theorem dX11_keepsRow_17 : decode cX11_keepsRow 17 = .ok (.iload_n 1, 1) := by decide +kernel
theorem dX11_keepsRow_18 : decode cX11_keepsRow 18 = .ok (.iaload, 1) := by decide +kernel
theorem dX11_keepsRow_19 : decode cX11_keepsRow 19 = .ok (.iastore, 1) := by decide +kernel
theorem dX11_keepsRow_20 : decode cX11_keepsRow 20 = .ok (.iinc 1 1, 3) := by decide +kernel
theorem dX11_keepsRow_23 : decode cX11_keepsRow 23 = .ok (.goto (-21), 3) := by decide +kernel
theorem dX11_keepsRow_26 : decode cX11_keepsRow 26 = .ok (.return_, 1) := by decide +kernel
theorem dX11_copies_0 : decode cX11_copies 0 = .ok (.iconst 0, 1) := by decide +kernel
theorem dX11_copies_1 : decode cX11_copies 1 = .ok (.istore_n 1, 1) := by decide +kernel
theorem dX11_copies_2 : decode cX11_copies 2 = .ok (.iload_n 1, 1) := by decide +kernel
theorem dX11_copies_3 : decode cX11_copies 3 = .ok (.bipush 26, 2) := by decide +kernel
theorem dX11_copies_5 : decode cX11_copies 5 = .ok (.if_icmp .ge 21, 3) := by decide +kernel
theorem dX11_copies_8 : decode cX11_copies 8 = .ok (.aload_n 0, 1) := by decide +kernel
theorem dX11_copies_9 : decode cX11_copies 9 = .ok (.getfield 98, 3) := by decide +kernel
theorem dX11_copies_12 : decode cX11_copies 12 = .ok (.iload_n 1, 1) := by decide +kernel
theorem dX11_copies_13 : decode cX11_copies 13 = .ok (.aload_n 0, 1) := by decide +kernel
theorem dX11_copies_14 : decode cX11_copies 14 = .ok (.getfield 95, 3) := by decide +kernel
theorem dX11_copies_17 : decode cX11_copies 17 = .ok (.iload_n 1, 1) := by decide +kernel
theorem dX11_copies_18 : decode cX11_copies 18 = .ok (.iaload, 1) := by decide +kernel
theorem dX11_copies_19 : decode cX11_copies 19 = .ok (.iastore, 1) := by decide +kernel
theorem dX11_copies_20 : decode cX11_copies 20 = .ok (.iinc 1 1, 3) := by decide +kernel
theorem dX11_copies_23 : decode cX11_copies 23 = .ok (.goto (-21), 3) := by decide +kernel
theorem dX11_copies_26 : decode cX11_copies 26 = .ok (.aload_n 0, 1) := by decide +kernel
theorem dX11_copies_27 : decode cX11_copies 27 = .ok (.aload_n 0, 1) := by decide +kernel
theorem dX11_copies_28 : decode cX11_copies 28 = .ok (.getfield 55, 3) := by decide +kernel
theorem dX11_copies_31 : decode cX11_copies 31 = .ok (.aload_n 0, 1) := by decide +kernel
theorem dX11_copies_32 : decode cX11_copies 32 = .ok (.getfield 212, 3) := by decide +kernel
theorem dX11_copies_35 : decode cX11_copies 35 = .ok (.iaload, 1) := by decide +kernel
theorem dX11_copies_36 : decode cX11_copies 36 = .ok (.putfield 286, 3) := by decide +kernel
theorem dX11_copies_39 : decode cX11_copies 39 = .ok (.return_, 1) := by decide +kernel
theorem dX11_mixed_0 : decode cX11_mixed 0 = .ok (.iload_n 0, 1) := by decide +kernel
theorem dX11_mixed_1 : decode cX11_mixed 1 = .ok (.iload_n 1, 1) := by decide +kernel
theorem dX11_mixed_2 : decode cX11_mixed 2 = .ok (.ixor, 1) := by decide +kernel
theorem dX11_mixed_3 : decode cX11_mixed 3 = .ok (.ldc_w 289, 3) := by decide +kernel
theorem dX11_mixed_6 : decode cX11_mixed 6 = .ok (.imul, 1) := by decide +kernel
theorem dX11_mixed_7 : decode cX11_mixed 7 = .ok (.sipush 12345, 3) := by decide +kernel
theorem dX11_mixed_10 : decode cX11_mixed 10 = .ok (.iadd, 1) := by decide +kernel
theorem dX11_mixed_11 : decode cX11_mixed 11 = .ok (.istore_n 2, 1) := by decide +kernel
theorem dX11_mixed_12 : decode cX11_mixed 12 = .ok (.iload_n 2, 1) := by decide +kernel
theorem dX11_mixed_13 : decode cX11_mixed 13 = .ok (.iload_n 2, 1) := by decide +kernel
theorem dX11_mixed_14 : decode cX11_mixed 14 = .ok (.bipush 15, 2) := by decide +kernel
theorem dX11_mixed_16 : decode cX11_mixed 16 = .ok (.iushr, 1) := by decide +kernel
theorem dX11_mixed_17 : decode cX11_mixed 17 = .ok (.ixor, 1) := by decide +kernel
theorem dX11_mixed_18 : decode cX11_mixed 18 = .ok (.ireturn, 1) := by decide +kernel
theorem dX11_lotOf_0 : decode cX11_lotOf 0 = .ok (.aload_n 0, 1) := by decide +kernel
theorem dX11_lotOf_1 : decode cX11_lotOf 1 = .ok (.getfield 286, 3) := by decide +kernel
theorem dX11_lotOf_4 : decode cX11_lotOf 4 = .ok (.sipush 221, 3) := by decide +kernel
theorem dX11_lotOf_7 : decode cX11_lotOf 7 = .ok (.invokestatic 290, 3) := by decide +kernel
theorem dX11_lotOf_10 : decode cX11_lotOf 10 = .ok (.iload_n 1, 1) := by decide +kernel
theorem dX11_lotOf_11 : decode cX11_lotOf 11 = .ok (.invokestatic 290, 3) := by decide +kernel
theorem dX11_lotOf_14 : decode cX11_lotOf 14 = .ok (.iconst 1, 1) := by decide +kernel
theorem dX11_lotOf_15 : decode cX11_lotOf 15 = .ok (.iushr, 1) := by decide +kernel
theorem dX11_lotOf_16 : decode cX11_lotOf 16 = .ok (.bipush 100, 2) := by decide +kernel
theorem dX11_lotOf_18 : decode cX11_lotOf 18 = .ok (.irem, 1) := by decide +kernel
theorem dX11_lotOf_19 : decode cX11_lotOf 19 = .ok (.ireturn, 1) := by decide +kernel
theorem dX11_placeOf_0 : decode cX11_placeOf 0 = .ok (.iconst 0, 1) := by decide +kernel
theorem dX11_placeOf_1 : decode cX11_placeOf 1 = .ok (.istore_n 2, 1) := by decide +kernel
theorem dX11_placeOf_2 : decode cX11_placeOf 2 = .ok (.iload_n 2, 1) := by decide +kernel
theorem dX11_placeOf_3 : decode cX11_placeOf 3 = .ok (.aload_n 0, 1) := by decide +kernel
theorem dX11_placeOf_4 : decode cX11_placeOf 4 = .ok (.getfield 98, 3) := by decide +kernel
theorem dX11_placeOf_7 : decode cX11_placeOf 7 = .ok (.bipush 7, 2) := by decide +kernel
theorem dX11_placeOf_9 : decode cX11_placeOf 9 = .ok (.iaload, 1) := by decide +kernel
theorem dX11_placeOf_10 : decode cX11_placeOf 10 = .ok (.if_icmp .ge 21, 3) := by decide +kernel
theorem dX11_placeOf_13 : decode cX11_placeOf 13 = .ok (.aload_n 0, 1) := by decide +kernel
theorem dX11_placeOf_14 : decode cX11_placeOf 14 = .ok (.getfield 98, 3) := by decide +kernel
theorem dX11_placeOf_17 : decode cX11_placeOf 17 = .ok (.iload_n 2, 1) := by decide +kernel
theorem dX11_placeOf_18 : decode cX11_placeOf 18 = .ok (.iaload, 1) := by decide +kernel
theorem dX11_placeOf_19 : decode cX11_placeOf 19 = .ok (.iload_n 1, 1) := by decide +kernel
theorem dX11_placeOf_20 : decode cX11_placeOf 20 = .ok (.if_icmp .ne 5, 3) := by decide +kernel
theorem dX11_placeOf_23 : decode cX11_placeOf 23 = .ok (.iload_n 2, 1) := by decide +kernel
theorem dX11_placeOf_24 : decode cX11_placeOf 24 = .ok (.ireturn, 1) := by decide +kernel
theorem dX11_placeOf_25 : decode cX11_placeOf 25 = .ok (.iinc 2 1, 3) := by decide +kernel
theorem dX11_placeOf_28 : decode cX11_placeOf 28 = .ok (.goto (-26), 3) := by decide +kernel
theorem dX11_placeOf_31 : decode cX11_placeOf 31 = .ok (.iconst (-1), 1) := by decide +kernel
theorem dX11_placeOf_32 : decode cX11_placeOf 32 = .ok (.ireturn, 1) := by decide +kernel
theorem dX11_isOn_0 : decode cX11_isOn 0 = .ok (.aload_n 0, 1) := by decide +kernel
theorem dX11_isOn_1 : decode cX11_isOn 1 = .ok (.iload_n 1, 1) := by decide +kernel
theorem dX11_isOn_2 : decode cX11_isOn 2 = .ok (.invokevirtual 293, 3) := by decide +kernel
theorem dX11_isOn_5 : decode cX11_isOn 5 = .ok (.ifCond .lt 7, 3) := by decide +kernel
theorem dX11_isOn_8 : decode cX11_isOn 8 = .ok (.iconst 1, 1) := by decide +kernel
theorem dX11_isOn_9 : decode cX11_isOn 9 = .ok (.goto 4, 3) := by decide +kernel
theorem dX11_isOn_12 : decode cX11_isOn 12 = .ok (.iconst 0, 1) := by decide +kernel
theorem dX11_isOn_13 : decode cX11_isOn 13 = .ok (.ireturn, 1) := by decide +kernel
theorem dX11_doesPlead_0 : decode cX11_doesPlead 0 = .ok (.aload_n 0, 1) := by decide +kernel
theorem dX11_doesPlead_1 : decode cX11_doesPlead 1 = .ok (.getfield 98, 3) := by decide +kernel
theorem dX11_doesPlead_4 : decode cX11_doesPlead 4 = .ok (.bipush 24, 2) := by decide +kernel
theorem dX11_doesPlead_6 : decode cX11_doesPlead 6 = .ok (.iaload, 1) := by decide +kernel
theorem dX11_doesPlead_7 : decode cX11_doesPlead 7 = .ok (.iload_n 1, 1) := by decide +kernel
theorem dX11_doesPlead_8 : decode cX11_doesPlead 8 = .ok (.ishr, 1) := by decide +kernel
theorem dX11_doesPlead_9 : decode cX11_doesPlead 9 = .ok (.iconst 1, 1) := by decide +kernel
theorem dX11_doesPlead_10 : decode cX11_doesPlead 10 = .ok (.iand, 1) := by decide +kernel
theorem dX11_doesPlead_11 : decode cX11_doesPlead 11 = .ok (.iconst 1, 1) := by decide +kernel
theorem dX11_doesPlead_12 : decode cX11_doesPlead 12 = .ok (.if_icmp .ne 7, 3) := by decide +kernel
theorem dX11_doesPlead_15 : decode cX11_doesPlead 15 = .ok (.iconst 1, 1) := by decide +kernel
theorem dX11_doesPlead_16 : decode cX11_doesPlead 16 = .ok (.goto 4, 3) := by decide +kernel
theorem dX11_doesPlead_19 : decode cX11_doesPlead 19 = .ok (.iconst 0, 1) := by decide +kernel
theorem dX11_doesPlead_20 : decode cX11_doesPlead 20 = .ok (.ireturn, 1) := by decide +kernel
theorem dX11_lawTells_0 : decode cX11_lawTells 0 = .ok (.iconst 4, 1) := by decide +kernel
theorem dX11_lawTells_1 : decode cX11_lawTells 1 = .ok (.aload_n 0, 1) := by decide +kernel
theorem dX11_lawTells_2 : decode cX11_lawTells 2 = .ok (.getfield 212, 3) := by decide +kernel
theorem dX11_lawTells_5 : decode cX11_lawTells 5 = .ok (.imul, 1) := by decide +kernel
theorem dX11_lawTells_6 : decode cX11_lawTells 6 = .ok (.iload_n 1, 1) := by decide +kernel
theorem dX11_lawTells_7 : decode cX11_lawTells 7 = .ok (.iadd, 1) := by decide +kernel
theorem dX11_lawTells_8 : decode cX11_lawTells 8 = .ok (.istore_n 3, 1) := by decide +kernel
theorem dX11_lawTells_9 : decode cX11_lawTells 9 = .ok (.aload_n 0, 1) := by decide +kernel
theorem dX11_lawTells_10 : decode cX11_lawTells 10 = .ok (.getfield 58, 3) := by decide +kernel
theorem dX11_lawTells_13 : decode cX11_lawTells 13 = .ok (.iload_n 3, 1) := by decide +kernel
theorem dX11_lawTells_14 : decode cX11_lawTells 14 = .ok (.iaload, 1) := by decide +kernel
theorem dX11_lawTells_15 : decode cX11_lawTells 15 = .ok (.aload_n 0, 1) := by decide +kernel
theorem dX11_lawTells_16 : decode cX11_lawTells 16 = .ok (.getfield 61, 3) := by decide +kernel
theorem dX11_lawTells_19 : decode cX11_lawTells 19 = .ok (.iload_n 3, 1) := by decide +kernel
theorem dX11_lawTells_20 : decode cX11_lawTells 20 = .ok (.iaload, 1) := by decide +kernel
theorem dX11_lawTells_21 : decode cX11_lawTells 21 = .ok (.if_icmp .ne 5, 3) := by decide +kernel
theorem dX11_lawTells_24 : decode cX11_lawTells 24 = .ok (.iload_n 2, 1) := by decide +kernel
theorem dX11_lawTells_25 : decode cX11_lawTells 25 = .ok (.ireturn, 1) := by decide +kernel
theorem dX11_lawTells_26 : decode cX11_lawTells 26 = .ok (.aload_n 0, 1) := by decide +kernel
theorem dX11_lawTells_27 : decode cX11_lawTells 27 = .ok (.iconst 0, 1) := by decide +kernel
theorem dX11_lawTells_28 : decode cX11_lawTells 28 = .ok (.putfield 278, 3) := by decide +kernel
theorem dX11_lawTells_31 : decode cX11_lawTells 31 = .ok (.aload_n 0, 1) := by decide +kernel
theorem dX11_lawTells_32 : decode cX11_lawTells 32 = .ok (.getfield 58, 3) := by decide +kernel
theorem dX11_lawTells_35 : decode cX11_lawTells 35 = .ok (.iload_n 3, 1) := by decide +kernel
theorem dX11_lawTells_36 : decode cX11_lawTells 36 = .ok (.iaload, 1) := by decide +kernel
theorem dX11_lawTells_37 : decode cX11_lawTells 37 = .ok (.istore 4, 2) := by decide +kernel
theorem dX11_lawTells_39 : decode cX11_lawTells 39 = .ok (.iload 4, 2) := by decide +kernel
theorem dX11_lawTells_41 : decode cX11_lawTells 41 = .ok (.aload_n 0, 1) := by decide +kernel
theorem dX11_lawTells_42 : decode cX11_lawTells 42 = .ok (.getfield 61, 3) := by decide +kernel
theorem dX11_lawTells_45 : decode cX11_lawTells 45 = .ok (.iload_n 3, 1) := by decide +kernel
theorem dX11_lawTells_46 : decode cX11_lawTells 46 = .ok (.iaload, 1) := by decide +kernel
theorem dX11_lawTells_47 : decode cX11_lawTells 47 = .ok (.if_icmp .ge 112, 3) := by decide +kernel
theorem dX11_lawTells_50 : decode cX11_lawTells 50 = .ok (.aload_n 0, 1) := by decide +kernel
theorem dX11_lawTells_51 : decode cX11_lawTells 51 = .ok (.getfield 64, 3) := by decide +kernel
theorem dX11_lawTells_54 : decode cX11_lawTells 54 = .ok (.iload 4, 2) := by decide +kernel
theorem dX11_lawTells_56 : decode cX11_lawTells 56 = .ok (.baload, 1) := by decide +kernel
theorem dX11_lawTells_57 : decode cX11_lawTells 57 = .ok (.ifCond .eq 62, 3) := by decide +kernel
theorem dX11_lawTells_60 : decode cX11_lawTells 60 = .ok (.aload_n 0, 1) := by decide +kernel
theorem dX11_lawTells_61 : decode cX11_lawTells 61 = .ok (.aload_n 0, 1) := by decide +kernel
theorem dX11_lawTells_62 : decode cX11_lawTells 62 = .ok (.getfield 68, 3) := by decide +kernel
theorem dX11_lawTells_65 : decode cX11_lawTells 65 = .ok (.iload 4, 2) := by decide +kernel
theorem dX11_lawTells_67 : decode cX11_lawTells 67 = .ok (.iaload, 1) := by decide +kernel
theorem dX11_lawTells_68 : decode cX11_lawTells 68 = .ok (.aload_n 0, 1) := by decide +kernel
theorem dX11_lawTells_69 : decode cX11_lawTells 69 = .ok (.getfield 71, 3) := by decide +kernel
theorem dX11_lawTells_72 : decode cX11_lawTells 72 = .ok (.iload 4, 2) := by decide +kernel
theorem dX11_lawTells_74 : decode cX11_lawTells 74 = .ok (.iaload, 1) := by decide +kernel
theorem dX11_lawTells_75 : decode cX11_lawTells 75 = .ok (.invokevirtual 296, 3) := by decide +kernel
theorem dX11_lawTells_78 : decode cX11_lawTells 78 = .ok (.istore 5, 2) := by decide +kernel
theorem dX11_lawTells_80 : decode cX11_lawTells 80 = .ok (.aload_n 0, 1) := by decide +kernel
theorem dX11_lawTells_81 : decode cX11_lawTells 81 = .ok (.aload_n 0, 1) := by decide +kernel
theorem dX11_lawTells_82 : decode cX11_lawTells 82 = .ok (.getfield 71, 3) := by decide +kernel
theorem dX11_lawTells_85 : decode cX11_lawTells 85 = .ok (.iload 4, 2) := by decide +kernel
theorem dX11_lawTells_87 : decode cX11_lawTells 87 = .ok (.iaload, 1) := by decide +kernel
theorem dX11_lawTells_88 : decode cX11_lawTells 88 = .ok (.aload_n 0, 1) := by decide +kernel
theorem dX11_lawTells_89 : decode cX11_lawTells 89 = .ok (.getfield 74, 3) := by decide +kernel
theorem dX11_lawTells_92 : decode cX11_lawTells 92 = .ok (.iload 4, 2) := by decide +kernel
theorem dX11_lawTells_94 : decode cX11_lawTells 94 = .ok (.iaload, 1) := by decide +kernel
theorem dX11_lawTells_95 : decode cX11_lawTells 95 = .ok (.invokevirtual 296, 3) := by decide +kernel
theorem dX11_lawTells_98 : decode cX11_lawTells 98 = .ok (.istore 6, 2) := by decide +kernel
theorem dX11_lawTells_100 : decode cX11_lawTells 100 = .ok (.aload_n 0, 1) := by decide +kernel
theorem dX11_lawTells_101 : decode cX11_lawTells 101 = .ok (.getfield 278, 3) := by decide +kernel
theorem dX11_lawTells_104 : decode cX11_lawTells 104 = .ok (.ifCond .eq 5, 3) := by decide +kernel
theorem dX11_lawTells_107 : decode cX11_lawTells 107 = .ok (.iconst 0, 1) := by decide +kernel
theorem dX11_lawTells_108 : decode cX11_lawTells 108 = .ok (.ireturn, 1) := by decide +kernel
theorem dX11_lawTells_109 : decode cX11_lawTells 109 = .ok (.iload 5, 2) := by decide +kernel
theorem dX11_lawTells_111 : decode cX11_lawTells 111 = .ok (.iload 6, 2) := by decide +kernel
theorem dX11_lawTells_113 : decode cX11_lawTells 113 = .ok (.if_icmp .lt 6, 3) := by decide +kernel
theorem dX11_lawTells_116 : decode cX11_lawTells 116 = .ok (.goto 37, 3) := by decide +kernel
theorem dX11_lawTells_119 : decode cX11_lawTells 119 = .ok (.aload_n 0, 1) := by decide +kernel
theorem dX11_lawTells_120 : decode cX11_lawTells 120 = .ok (.aload_n 0, 1) := by decide +kernel
theorem dX11_lawTells_121 : decode cX11_lawTells 121 = .ok (.getfield 74, 3) := by decide +kernel
theorem dX11_lawTells_124 : decode cX11_lawTells 124 = .ok (.iload 4, 2) := by decide +kernel
theorem dX11_lawTells_126 : decode cX11_lawTells 126 = .ok (.iaload, 1) := by decide +kernel
theorem dX11_lawTells_127 : decode cX11_lawTells 127 = .ok (.aload_n 0, 1) := by decide +kernel
theorem dX11_lawTells_128 : decode cX11_lawTells 128 = .ok (.getfield 77, 3) := by decide +kernel
theorem dX11_lawTells_131 : decode cX11_lawTells 131 = .ok (.iload 4, 2) := by decide +kernel
theorem dX11_lawTells_133 : decode cX11_lawTells 133 = .ok (.iaload, 1) := by decide +kernel
theorem dX11_lawTells_134 : decode cX11_lawTells 134 = .ok (.invokevirtual 296, 3) := by decide +kernel
theorem dX11_lawTells_137 : decode cX11_lawTells 137 = .ok (.istore 5, 2) := by decide +kernel
theorem dX11_lawTells_139 : decode cX11_lawTells 139 = .ok (.aload_n 0, 1) := by decide +kernel
theorem dX11_lawTells_140 : decode cX11_lawTells 140 = .ok (.getfield 278, 3) := by decide +kernel
theorem dX11_lawTells_143 : decode cX11_lawTells 143 = .ok (.ifCond .eq 7, 3) := by decide +kernel
theorem dX11_lawTells_146 : decode cX11_lawTells 146 = .ok (.iconst 0, 1) := by decide +kernel
theorem dX11_lawTells_147 : decode cX11_lawTells 147 = .ok (.goto 5, 3) := by decide +kernel
theorem dX11_lawTells_150 : decode cX11_lawTells 150 = .ok (.iload 5, 2) := by decide +kernel
theorem dX11_lawTells_152 : decode cX11_lawTells 152 = .ok (.ireturn, 1) := by decide +kernel
theorem dX11_lawTells_153 : decode cX11_lawTells 153 = .ok (.iinc 4 1, 3) := by decide +kernel
theorem dX11_lawTells_156 : decode cX11_lawTells 156 = .ok (.goto (-117), 3) := by decide +kernel
theorem dX11_lawTells_159 : decode cX11_lawTells 159 = .ok (.iconst 0, 1) := by decide +kernel
theorem dX11_lawTells_160 : decode cX11_lawTells 160 = .ok (.ireturn, 1) := by decide +kernel
theorem dX11_views_0 : decode cX11_views 0 = .ok (.aload_n 0, 1) := by decide +kernel
theorem dX11_views_1 : decode cX11_views 1 = .ok (.getfield 89, 3) := by decide +kernel
theorem dX11_views_4 : decode cX11_views 4 = .ok (.iconst 0, 1) := by decide +kernel
theorem dX11_views_5 : decode cX11_views 5 = .ok (.iload_n 3, 1) := by decide +kernel
theorem dX11_views_6 : decode cX11_views 6 = .ok (.iastore, 1) := by decide +kernel
theorem dX11_views_7 : decode cX11_views 7 = .ok (.aload_n 0, 1) := by decide +kernel
theorem dX11_views_8 : decode cX11_views 8 = .ok (.getfield 89, 3) := by decide +kernel
theorem dX11_views_11 : decode cX11_views 11 = .ok (.iconst 1, 1) := by decide +kernel
theorem dX11_views_12 : decode cX11_views 12 = .ok (.aload_n 0, 1) := by decide +kernel
theorem dX11_views_13 : decode cX11_views 13 = .ok (.iload_n 1, 1) := by decide +kernel
theorem dX11_views_14 : decode cX11_views 14 = .ok (.invokevirtual 299, 3) := by decide +kernel
theorem dX11_views_17 : decode cX11_views 17 = .ok (.iastore, 1) := by decide +kernel
theorem dX11_views_18 : decode cX11_views 18 = .ok (.aload_n 0, 1) := by decide +kernel
theorem dX11_views_19 : decode cX11_views 19 = .ok (.getfield 89, 3) := by decide +kernel
theorem dX11_views_22 : decode cX11_views 22 = .ok (.iconst 2, 1) := by decide +kernel
theorem dX11_views_23 : decode cX11_views 23 = .ok (.aload_n 0, 1) := by decide +kernel
theorem dX11_views_24 : decode cX11_views 24 = .ok (.getfield 98, 3) := by decide +kernel
theorem dX11_views_27 : decode cX11_views 27 = .ok (.bipush 10, 2) := by decide +kernel
theorem dX11_views_29 : decode cX11_views 29 = .ok (.iload_n 1, 1) := by decide +kernel
theorem dX11_views_30 : decode cX11_views 30 = .ok (.iadd, 1) := by decide +kernel
theorem dX11_views_31 : decode cX11_views 31 = .ok (.iaload, 1) := by decide +kernel
theorem dX11_views_32 : decode cX11_views 32 = .ok (.iastore, 1) := by decide +kernel
theorem dX11_views_33 : decode cX11_views 33 = .ok (.aload_n 0, 1) := by decide +kernel
theorem dX11_views_34 : decode cX11_views 34 = .ok (.getfield 89, 3) := by decide +kernel
theorem dX11_views_37 : decode cX11_views 37 = .ok (.iconst 3, 1) := by decide +kernel
theorem dX11_views_38 : decode cX11_views 38 = .ok (.iload_n 2, 1) := by decide +kernel
theorem dX11_views_39 : decode cX11_views 39 = .ok (.ifCond .ge 13, 3) := by decide +kernel
theorem dX11_views_42 : decode cX11_views 42 = .ok (.aload_n 0, 1) := by decide +kernel
theorem dX11_views_43 : decode cX11_views 43 = .ok (.getfield 98, 3) := by decide +kernel
theorem dX11_views_46 : decode cX11_views 46 = .ok (.bipush 7, 2) := by decide +kernel
theorem dX11_views_48 : decode cX11_views 48 = .ok (.iaload, 1) := by decide +kernel
theorem dX11_views_49 : decode cX11_views 49 = .ok (.goto 4, 3) := by decide +kernel
theorem dX11_views_52 : decode cX11_views 52 = .ok (.iload_n 2, 1) := by decide +kernel
theorem dX11_views_53 : decode cX11_views 53 = .ok (.iastore, 1) := by decide +kernel
theorem dX11_views_54 : decode cX11_views 54 = .ok (.aload_n 0, 1) := by decide +kernel
theorem dX11_views_55 : decode cX11_views 55 = .ok (.getfield 89, 3) := by decide +kernel
theorem dX11_views_58 : decode cX11_views 58 = .ok (.iconst 4, 1) := by decide +kernel
theorem dX11_views_59 : decode cX11_views 59 = .ok (.aload_n 0, 1) := by decide +kernel
theorem dX11_views_60 : decode cX11_views 60 = .ok (.getfield 98, 3) := by decide +kernel
theorem dX11_views_63 : decode cX11_views 63 = .ok (.bipush 8, 2) := by decide +kernel
theorem dX11_views_65 : decode cX11_views 65 = .ok (.iaload, 1) := by decide +kernel
theorem dX11_views_66 : decode cX11_views 66 = .ok (.iastore, 1) := by decide +kernel
theorem dX11_views_67 : decode cX11_views 67 = .ok (.aload_n 0, 1) := by decide +kernel
theorem dX11_views_68 : decode cX11_views 68 = .ok (.getfield 89, 3) := by decide +kernel
theorem dX11_views_71 : decode cX11_views 71 = .ok (.iconst 5, 1) := by decide +kernel
theorem dX11_views_72 : decode cX11_views 72 = .ok (.iload_n 1, 1) := by decide +kernel
theorem dX11_views_73 : decode cX11_views 73 = .ok (.iastore, 1) := by decide +kernel
theorem dX11_views_74 : decode cX11_views 74 = .ok (.aload_n 0, 1) := by decide +kernel
theorem dX11_views_75 : decode cX11_views 75 = .ok (.getfield 89, 3) := by decide +kernel
theorem dX11_views_78 : decode cX11_views 78 = .ok (.bipush 6, 2) := by decide +kernel
theorem dX11_views_80 : decode cX11_views 80 = .ok (.aload_n 0, 1) := by decide +kernel
theorem dX11_views_81 : decode cX11_views 81 = .ok (.getfield 98, 3) := by decide +kernel
theorem dX11_views_84 : decode cX11_views 84 = .ok (.bipush 7, 2) := by decide +kernel
theorem dX11_views_86 : decode cX11_views 86 = .ok (.iaload, 1) := by decide +kernel
theorem dX11_views_87 : decode cX11_views 87 = .ok (.iastore, 1) := by decide +kernel
theorem dX11_views_88 : decode cX11_views 88 = .ok (.aload_n 0, 1) := by decide +kernel
theorem dX11_views_89 : decode cX11_views 89 = .ok (.getfield 89, 3) := by decide +kernel
theorem dX11_views_92 : decode cX11_views 92 = .ok (.bipush 7, 2) := by decide +kernel
theorem dX11_views_94 : decode cX11_views 94 = .ok (.iload_n 2, 1) := by decide +kernel
theorem dX11_views_95 : decode cX11_views 95 = .ok (.ifCond .le 22, 3) := by decide +kernel
theorem dX11_views_98 : decode cX11_views 98 = .ok (.aload_n 0, 1) := by decide +kernel
theorem dX11_views_99 : decode cX11_views 99 = .ok (.aload_n 0, 1) := by decide +kernel
theorem dX11_views_100 : decode cX11_views 100 = .ok (.getfield 98, 3) := by decide +kernel
theorem dX11_views_103 : decode cX11_views 103 = .ok (.iload_n 2, 1) := by decide +kernel
theorem dX11_views_104 : decode cX11_views 104 = .ok (.iconst 1, 1) := by decide +kernel
theorem dX11_views_105 : decode cX11_views 105 = .ok (.isub, 1) := by decide +kernel
theorem dX11_views_106 : decode cX11_views 106 = .ok (.iaload, 1) := by decide +kernel
theorem dX11_views_107 : decode cX11_views 107 = .ok (.invokevirtual 302, 3) := by decide +kernel
theorem dX11_views_110 : decode cX11_views 110 = .ok (.ifCond .eq 7, 3) := by decide +kernel
theorem dX11_views_113 : decode cX11_views 113 = .ok (.iconst 1, 1) := by decide +kernel
theorem dX11_views_114 : decode cX11_views 114 = .ok (.goto 4, 3) := by decide +kernel
theorem dX11_views_117 : decode cX11_views 117 = .ok (.iconst 0, 1) := by decide +kernel
theorem dX11_views_118 : decode cX11_views 118 = .ok (.iastore, 1) := by decide +kernel
theorem dX11_views_119 : decode cX11_views 119 = .ok (.aload_n 0, 1) := by decide +kernel
theorem dX11_views_120 : decode cX11_views 120 = .ok (.getfield 89, 3) := by decide +kernel
theorem dX11_views_123 : decode cX11_views 123 = .ok (.bipush 8, 2) := by decide +kernel
theorem dX11_views_125 : decode cX11_views 125 = .ok (.aload_n 0, 1) := by decide +kernel
theorem dX11_views_126 : decode cX11_views 126 = .ok (.getfield 98, 3) := by decide +kernel
theorem dX11_views_129 : decode cX11_views 129 = .ok (.bipush 25, 2) := by decide +kernel
theorem dX11_views_131 : decode cX11_views 131 = .ok (.iaload, 1) := by decide +kernel
theorem dX11_views_132 : decode cX11_views 132 = .ok (.iastore, 1) := by decide +kernel
theorem dX11_views_133 : decode cX11_views 133 = .ok (.return_, 1) := by decide +kernel
theorem dX11_doomOf_0 : decode cX11_doomOf 0 = .ok (.aload_n 0, 1) := by decide +kernel
theorem dX11_doomOf_1 : decode cX11_doomOf 1 = .ok (.iload_n 1, 1) := by decide +kernel
theorem dX11_doomOf_2 : decode cX11_doomOf 2 = .ok (.iload_n 2, 1) := by decide +kernel
theorem dX11_doomOf_3 : decode cX11_doomOf 3 = .ok (.iload_n 3, 1) := by decide +kernel
theorem dX11_doomOf_4 : decode cX11_doomOf 4 = .ok (.invokevirtual 305, 3) := by decide +kernel
theorem dX11_doomOf_7 : decode cX11_doomOf 7 = .ok (.aload_n 0, 1) := by decide +kernel
theorem dX11_doomOf_8 : decode cX11_doomOf 8 = .ok (.iconst 0, 1) := by decide +kernel
theorem dX11_doomOf_9 : decode cX11_doomOf 9 = .ok (.iload_n 3, 1) := by decide +kernel
theorem dX11_doomOf_10 : decode cX11_doomOf 10 = .ok (.invokevirtual 309, 3) := by decide +kernel
theorem dX11_doomOf_13 : decode cX11_doomOf 13 = .ok (.iconst 0, 1) := by decide +kernel
theorem dX11_doomOf_14 : decode cX11_doomOf 14 = .ok (.bipush 99, 2) := by decide +kernel
theorem dX11_doomOf_16 : decode cX11_doomOf 16 = .ok (.invokestatic 312, 3) := by decide +kernel
theorem dX11_doomOf_19 : decode cX11_doomOf 19 = .ok (.ireturn, 1) := by decide +kernel
theorem dX11_pleaOf_0 : decode cX11_pleaOf 0 = .ok (.aload_n 0, 1) := by decide +kernel
theorem dX11_pleaOf_1 : decode cX11_pleaOf 1 = .ok (.iload_n 1, 1) := by decide +kernel
theorem dX11_pleaOf_2 : decode cX11_pleaOf 2 = .ok (.iload_n 2, 1) := by decide +kernel
theorem dX11_pleaOf_3 : decode cX11_pleaOf 3 = .ok (.iload_n 3, 1) := by decide +kernel
theorem dX11_pleaOf_4 : decode cX11_pleaOf 4 = .ok (.invokevirtual 305, 3) := by decide +kernel
theorem dX11_pleaOf_7 : decode cX11_pleaOf 7 = .ok (.aload_n 0, 1) := by decide +kernel
theorem dX11_pleaOf_8 : decode cX11_pleaOf 8 = .ok (.iconst 1, 1) := by decide +kernel
theorem dX11_pleaOf_9 : decode cX11_pleaOf 9 = .ok (.iload_n 3, 1) := by decide +kernel
theorem dX11_pleaOf_10 : decode cX11_pleaOf 10 = .ok (.iconst 2, 1) := by decide +kernel
theorem dX11_pleaOf_11 : decode cX11_pleaOf 11 = .ok (.idiv, 1) := by decide +kernel
theorem dX11_pleaOf_12 : decode cX11_pleaOf 12 = .ok (.invokevirtual 309, 3) := by decide +kernel
theorem dX11_pleaOf_15 : decode cX11_pleaOf 15 = .ok (.iconst 0, 1) := by decide +kernel
theorem dX11_pleaOf_16 : decode cX11_pleaOf 16 = .ok (.bipush 99, 2) := by decide +kernel
theorem dX11_pleaOf_18 : decode cX11_pleaOf 18 = .ok (.invokestatic 312, 3) := by decide +kernel
theorem dX11_pleaOf_21 : decode cX11_pleaOf 21 = .ok (.ireturn, 1) := by decide +kernel
theorem dX11_feeOf_0 : decode cX11_feeOf 0 = .ok (.aload_n 0, 1) := by decide +kernel
theorem dX11_feeOf_1 : decode cX11_feeOf 1 = .ok (.iload_n 1, 1) := by decide +kernel
theorem dX11_feeOf_2 : decode cX11_feeOf 2 = .ok (.iload_n 2, 1) := by decide +kernel
theorem dX11_feeOf_3 : decode cX11_feeOf 3 = .ok (.iload_n 3, 1) := by decide +kernel
theorem dX11_feeOf_4 : decode cX11_feeOf 4 = .ok (.invokevirtual 305, 3) := by decide +kernel
theorem dX11_feeOf_7 : decode cX11_feeOf 7 = .ok (.aload_n 0, 1) := by decide +kernel
theorem dX11_feeOf_8 : decode cX11_feeOf 8 = .ok (.iconst 2, 1) := by decide +kernel
theorem dX11_feeOf_9 : decode cX11_feeOf 9 = .ok (.iload_n 3, 1) := by decide +kernel
theorem dX11_feeOf_10 : decode cX11_feeOf 10 = .ok (.iconst 4, 1) := by decide +kernel
theorem dX11_feeOf_11 : decode cX11_feeOf 11 = .ok (.idiv, 1) := by decide +kernel
theorem dX11_feeOf_12 : decode cX11_feeOf 12 = .ok (.invokevirtual 309, 3) := by decide +kernel
theorem dX11_feeOf_15 : decode cX11_feeOf 15 = .ok (.iconst 0, 1) := by decide +kernel
theorem dX11_feeOf_16 : decode cX11_feeOf 16 = .ok (.bipush 99, 2) := by decide +kernel
theorem dX11_feeOf_18 : decode cX11_feeOf 18 = .ok (.invokestatic 312, 3) := by decide +kernel
theorem dX11_feeOf_21 : decode cX11_feeOf 21 = .ok (.ireturn, 1) := by decide +kernel
theorem dX11_adjournsOf_0 : decode cX11_adjournsOf 0 = .ok (.aload_n 0, 1) := by decide +kernel
theorem dX11_adjournsOf_1 : decode cX11_adjournsOf 1 = .ok (.iload_n 1, 1) := by decide +kernel
theorem dX11_adjournsOf_2 : decode cX11_adjournsOf 2 = .ok (.iload_n 2, 1) := by decide +kernel
theorem dX11_adjournsOf_3 : decode cX11_adjournsOf 3 = .ok (.aload_n 0, 1) := by decide +kernel
theorem dX11_adjournsOf_4 : decode cX11_adjournsOf 4 = .ok (.iload_n 1, 1) := by decide +kernel
theorem dX11_adjournsOf_5 : decode cX11_adjournsOf 5 = .ok (.invokevirtual 299, 3) := by decide +kernel
theorem dX11_adjournsOf_8 : decode cX11_adjournsOf 8 = .ok (.invokevirtual 305, 3) := by decide +kernel
theorem dX11_adjournsOf_11 : decode cX11_adjournsOf 11 = .ok (.aload_n 0, 1) := by decide +kernel
theorem dX11_adjournsOf_12 : decode cX11_adjournsOf 12 = .ok (.iconst 3, 1) := by decide +kernel
theorem dX11_adjournsOf_13 : decode cX11_adjournsOf 13 = .ok (.iconst 0, 1) := by decide +kernel
theorem dX11_adjournsOf_14 : decode cX11_adjournsOf 14 = .ok (.invokevirtual 309, 3) := by decide +kernel
theorem dX11_adjournsOf_17 : decode cX11_adjournsOf 17 = .ok (.iconst 0, 1) := by decide +kernel
theorem dX11_adjournsOf_18 : decode cX11_adjournsOf 18 = .ok (.bipush 100, 2) := by decide +kernel
theorem dX11_adjournsOf_20 : decode cX11_adjournsOf 20 = .ok (.invokestatic 312, 3) := by decide +kernel
theorem dX11_adjournsOf_23 : decode cX11_adjournsOf 23 = .ok (.ireturn, 1) := by decide +kernel
theorem dX11_kindAt_0 : decode cX11_kindAt 0 = .ok (.iload_n 1, 1) := by decide +kernel
theorem dX11_kindAt_1 : decode cX11_kindAt 1 = .ok (.ifCond .ne 5, 3) := by decide +kernel
theorem dX11_kindAt_4 : decode cX11_kindAt 4 = .ok (.iconst 0, 1) := by decide +kernel
theorem dX11_kindAt_5 : decode cX11_kindAt 5 = .ok (.ireturn, 1) := by decide +kernel
theorem dX11_kindAt_6 : decode cX11_kindAt 6 = .ok (.aload_n 0, 1) := by decide +kernel
theorem dX11_kindAt_7 : decode cX11_kindAt 7 = .ok (.aload_n 0, 1) := by decide +kernel
theorem dX11_kindAt_8 : decode cX11_kindAt 8 = .ok (.getfield 98, 3) := by decide +kernel
theorem dX11_kindAt_11 : decode cX11_kindAt 11 = .ok (.iload_n 1, 1) := by decide +kernel
theorem dX11_kindAt_12 : decode cX11_kindAt 12 = .ok (.iconst 1, 1) := by decide +kernel
theorem dX11_kindAt_13 : decode cX11_kindAt 13 = .ok (.isub, 1) := by decide +kernel
theorem dX11_kindAt_14 : decode cX11_kindAt 14 = .ok (.iaload, 1) := by decide +kernel
theorem dX11_kindAt_15 : decode cX11_kindAt 15 = .ok (.invokevirtual 299, 3) := by decide +kernel
theorem dX11_kindAt_18 : decode cX11_kindAt 18 = .ok (.istore_n 2, 1) := by decide +kernel
theorem dX11_kindAt_19 : decode cX11_kindAt 19 = .ok (.iload_n 2, 1) := by decide +kernel
theorem dX11_kindAt_20 : decode cX11_kindAt 20 = .ok (.ifCond .ne 5, 3) := by decide +kernel
theorem dX11_kindAt_23 : decode cX11_kindAt 23 = .ok (.iconst 1, 1) := by decide +kernel
theorem dX11_kindAt_24 : decode cX11_kindAt 24 = .ok (.ireturn, 1) := by decide +kernel
theorem dX11_kindAt_25 : decode cX11_kindAt 25 = .ok (.iload_n 2, 1) := by decide +kernel
theorem dX11_kindAt_26 : decode cX11_kindAt 26 = .ok (.aload_n 0, 1) := by decide +kernel
theorem dX11_kindAt_27 : decode cX11_kindAt 27 = .ok (.aload_n 0, 1) := by decide +kernel
theorem dX11_kindAt_28 : decode cX11_kindAt 28 = .ok (.getfield 98, 3) := by decide +kernel
theorem dX11_kindAt_31 : decode cX11_kindAt 31 = .ok (.iload_n 1, 1) := by decide +kernel
theorem dX11_kindAt_32 : decode cX11_kindAt 32 = .ok (.iaload, 1) := by decide +kernel
theorem dX11_kindAt_33 : decode cX11_kindAt 33 = .ok (.invokevirtual 299, 3) := by decide +kernel
theorem dX11_kindAt_36 : decode cX11_kindAt 36 = .ok (.if_icmp .ge 5, 3) := by decide +kernel
theorem dX11_kindAt_39 : decode cX11_kindAt 39 = .ok (.iconst 2, 1) := by decide +kernel
theorem dX11_kindAt_40 : decode cX11_kindAt 40 = .ok (.ireturn, 1) := by decide +kernel
theorem dX11_kindAt_41 : decode cX11_kindAt 41 = .ok (.iload_n 1, 1) := by decide +kernel
theorem dX11_kindAt_42 : decode cX11_kindAt 42 = .ok (.aload_n 0, 1) := by decide +kernel
theorem dX11_kindAt_43 : decode cX11_kindAt 43 = .ok (.getfield 98, 3) := by decide +kernel
theorem dX11_kindAt_46 : decode cX11_kindAt 46 = .ok (.bipush 7, 2) := by decide +kernel
theorem dX11_kindAt_48 : decode cX11_kindAt 48 = .ok (.iaload, 1) := by decide +kernel
theorem dX11_kindAt_49 : decode cX11_kindAt 49 = .ok (.iconst 1, 1) := by decide +kernel
theorem dX11_kindAt_50 : decode cX11_kindAt 50 = .ok (.isub, 1) := by decide +kernel
theorem dX11_kindAt_51 : decode cX11_kindAt 51 = .ok (.if_icmp .ne 7, 3) := by decide +kernel
theorem dX11_kindAt_54 : decode cX11_kindAt 54 = .ok (.iconst 3, 1) := by decide +kernel
theorem dX11_kindAt_55 : decode cX11_kindAt 55 = .ok (.goto 4, 3) := by decide +kernel
theorem dX11_kindAt_58 : decode cX11_kindAt 58 = .ok (.iconst 4, 1) := by decide +kernel
theorem dX11_kindAt_59 : decode cX11_kindAt 59 = .ok (.ireturn, 1) := by decide +kernel
theorem dX11_sufferAt_0 : decode cX11_sufferAt 0 = .ok (.aload_n 0, 1) := by decide +kernel
theorem dX11_sufferAt_1 : decode cX11_sufferAt 1 = .ok (.getfield 98, 3) := by decide +kernel
theorem dX11_sufferAt_4 : decode cX11_sufferAt 4 = .ok (.iload_n 1, 1) := by decide +kernel
theorem dX11_sufferAt_5 : decode cX11_sufferAt 5 = .ok (.iaload, 1) := by decide +kernel
theorem dX11_sufferAt_6 : decode cX11_sufferAt 6 = .ok (.istore_n 2, 1) := by decide +kernel
theorem dX11_sufferAt_7 : decode cX11_sufferAt 7 = .ok (.aload_n 0, 1) := by decide +kernel
theorem dX11_sufferAt_8 : decode cX11_sufferAt 8 = .ok (.iload_n 1, 1) := by decide +kernel
theorem dX11_sufferAt_9 : decode cX11_sufferAt 9 = .ok (.invokevirtual 315, 3) := by decide +kernel
theorem dX11_sufferAt_12 : decode cX11_sufferAt 12 = .ok (.istore_n 3, 1) := by decide +kernel
theorem dX11_sufferAt_13 : decode cX11_sufferAt 13 = .ok (.iload_n 3, 1) := by decide +kernel
theorem dX11_sufferAt_14 : decode cX11_sufferAt 14 = .ok (.ifCond .ne 17, 3) := by decide +kernel
theorem dX11_sufferAt_17 : decode cX11_sufferAt 17 = .ok (.aload_n 0, 1) := by decide +kernel
theorem dX11_sufferAt_18 : decode cX11_sufferAt 18 = .ok (.iload_n 2, 1) := by decide +kernel
theorem dX11_sufferAt_19 : decode cX11_sufferAt 19 = .ok (.iconst 0, 1) := by decide +kernel
theorem dX11_sufferAt_20 : decode cX11_sufferAt 20 = .ok (.aload_n 0, 1) := by decide +kernel
theorem dX11_sufferAt_21 : decode cX11_sufferAt 21 = .ok (.getfield 98, 3) := by decide +kernel
theorem dX11_sufferAt_24 : decode cX11_sufferAt 24 = .ok (.bipush 9, 2) := by decide +kernel
theorem dX11_sufferAt_26 : decode cX11_sufferAt 26 = .ok (.iaload, 1) := by decide +kernel
theorem dX11_sufferAt_27 : decode cX11_sufferAt 27 = .ok (.invokevirtual 318, 3) := by decide +kernel
theorem dX11_sufferAt_30 : decode cX11_sufferAt 30 = .ok (.ireturn, 1) := by decide +kernel
theorem dX11_sufferAt_31 : decode cX11_sufferAt 31 = .ok (.iload_n 3, 1) := by decide +kernel
theorem dX11_sufferAt_32 : decode cX11_sufferAt 32 = .ok (.iconst 1, 1) := by decide +kernel
theorem dX11_sufferAt_33 : decode cX11_sufferAt 33 = .ok (.if_icmp .ne 5, 3) := by decide +kernel
theorem dX11_sufferAt_36 : decode cX11_sufferAt 36 = .ok (.iconst 0, 1) := by decide +kernel
theorem dX11_sufferAt_37 : decode cX11_sufferAt 37 = .ok (.ireturn, 1) := by decide +kernel
theorem dX11_sufferAt_38 : decode cX11_sufferAt 38 = .ok (.aload_n 0, 1) := by decide +kernel
theorem dX11_sufferAt_39 : decode cX11_sufferAt 39 = .ok (.aload_n 0, 1) := by decide +kernel
theorem dX11_sufferAt_40 : decode cX11_sufferAt 40 = .ok (.getfield 98, 3) := by decide +kernel
theorem dX11_sufferAt_43 : decode cX11_sufferAt 43 = .ok (.iload_n 1, 1) := by decide +kernel
theorem dX11_sufferAt_44 : decode cX11_sufferAt 44 = .ok (.iconst 1, 1) := by decide +kernel
theorem dX11_sufferAt_45 : decode cX11_sufferAt 45 = .ok (.isub, 1) := by decide +kernel
theorem dX11_sufferAt_46 : decode cX11_sufferAt 46 = .ok (.iaload, 1) := by decide +kernel
theorem dX11_sufferAt_47 : decode cX11_sufferAt 47 = .ok (.invokevirtual 299, 3) := by decide +kernel
theorem dX11_sufferAt_50 : decode cX11_sufferAt 50 = .ok (.istore 4, 2) := by decide +kernel
theorem dX11_sufferAt_52 : decode cX11_sufferAt 52 = .ok (.aload_n 0, 1) := by decide +kernel
theorem dX11_sufferAt_53 : decode cX11_sufferAt 53 = .ok (.iload_n 2, 1) := by decide +kernel
theorem dX11_sufferAt_54 : decode cX11_sufferAt 54 = .ok (.iload_n 1, 1) := by decide +kernel
theorem dX11_sufferAt_55 : decode cX11_sufferAt 55 = .ok (.iload 4, 2) := by decide +kernel
theorem dX11_sufferAt_57 : decode cX11_sufferAt 57 = .ok (.invokevirtual 318, 3) := by decide +kernel
theorem dX11_sufferAt_60 : decode cX11_sufferAt 60 = .ok (.istore 5, 2) := by decide +kernel
theorem dX11_sufferAt_62 : decode cX11_sufferAt 62 = .ok (.aload_n 0, 1) := by decide +kernel
theorem dX11_sufferAt_63 : decode cX11_sufferAt 63 = .ok (.aload_n 0, 1) := by decide +kernel
theorem dX11_sufferAt_64 : decode cX11_sufferAt 64 = .ok (.getfield 98, 3) := by decide +kernel
theorem dX11_sufferAt_67 : decode cX11_sufferAt 67 = .ok (.iload_n 1, 1) := by decide +kernel
theorem dX11_sufferAt_68 : decode cX11_sufferAt 68 = .ok (.iconst 1, 1) := by decide +kernel
theorem dX11_sufferAt_69 : decode cX11_sufferAt 69 = .ok (.isub, 1) := by decide +kernel
theorem dX11_sufferAt_70 : decode cX11_sufferAt 70 = .ok (.iaload, 1) := by decide +kernel
theorem dX11_sufferAt_71 : decode cX11_sufferAt 71 = .ok (.invokevirtual 302, 3) := by decide +kernel
theorem dX11_sufferAt_74 : decode cX11_sufferAt 74 = .ok (.ifCond .eq 22, 3) := by decide +kernel
theorem dX11_sufferAt_77 : decode cX11_sufferAt 77 = .ok (.iload 5, 2) := by decide +kernel
theorem dX11_sufferAt_79 : decode cX11_sufferAt 79 = .ok (.aload_n 0, 1) := by decide +kernel
theorem dX11_sufferAt_80 : decode cX11_sufferAt 80 = .ok (.iload_n 2, 1) := by decide +kernel
theorem dX11_sufferAt_81 : decode cX11_sufferAt 81 = .ok (.iload_n 1, 1) := by decide +kernel
theorem dX11_sufferAt_82 : decode cX11_sufferAt 82 = .ok (.iload 4, 2) := by decide +kernel
theorem dX11_sufferAt_84 : decode cX11_sufferAt 84 = .ok (.invokevirtual 321, 3) := by decide +kernel
theorem dX11_sufferAt_87 : decode cX11_sufferAt 87 = .ok (.isub, 1) := by decide +kernel
theorem dX11_sufferAt_88 : decode cX11_sufferAt 88 = .ok (.iconst 0, 1) := by decide +kernel
theorem dX11_sufferAt_89 : decode cX11_sufferAt 89 = .ok (.bipush 99, 2) := by decide +kernel
theorem dX11_sufferAt_91 : decode cX11_sufferAt 91 = .ok (.invokestatic 312, 3) := by decide +kernel
theorem dX11_sufferAt_94 : decode cX11_sufferAt 94 = .ok (.istore 5, 2) := by decide +kernel
theorem dX11_sufferAt_96 : decode cX11_sufferAt 96 = .ok (.iload_n 3, 1) := by decide +kernel
theorem dX11_sufferAt_97 : decode cX11_sufferAt 97 = .ok (.iconst 2, 1) := by decide +kernel
theorem dX11_sufferAt_98 : decode cX11_sufferAt 98 = .ok (.if_icmp .ne 10, 3) := by decide +kernel
theorem dX11_sufferAt_101 : decode cX11_sufferAt 101 = .ok (.iload 5, 2) := by decide +kernel
theorem dX11_sufferAt_103 : decode cX11_sufferAt 103 = .ok (.iconst 2, 1) := by decide +kernel
theorem dX11_sufferAt_104 : decode cX11_sufferAt 104 = .ok (.idiv, 1) := by decide +kernel
theorem dX11_sufferAt_105 : decode cX11_sufferAt 105 = .ok (.goto 23, 3) := by decide +kernel
theorem dX11_sufferAt_108 : decode cX11_sufferAt 108 = .ok (.iload_n 3, 1) := by decide +kernel
theorem dX11_sufferAt_109 : decode cX11_sufferAt 109 = .ok (.iconst 3, 1) := by decide +kernel
theorem dX11_sufferAt_110 : decode cX11_sufferAt 110 = .ok (.if_icmp .ne 16, 3) := by decide +kernel
theorem dX11_sufferAt_113 : decode cX11_sufferAt 113 = .ok (.iload 5, 2) := by decide +kernel
theorem dX11_sufferAt_115 : decode cX11_sufferAt 115 = .ok (.aload_n 0, 1) := by decide +kernel
theorem dX11_sufferAt_116 : decode cX11_sufferAt 116 = .ok (.iload_n 2, 1) := by decide +kernel
theorem dX11_sufferAt_117 : decode cX11_sufferAt 117 = .ok (.invokevirtual 299, 3) := by decide +kernel
theorem dX11_sufferAt_120 : decode cX11_sufferAt 120 = .ok (.iconst 4, 1) := by decide +kernel
theorem dX11_sufferAt_121 : decode cX11_sufferAt 121 = .ok (.idiv, 1) := by decide +kernel
theorem dX11_sufferAt_122 : decode cX11_sufferAt 122 = .ok (.iadd, 1) := by decide +kernel
theorem dX11_sufferAt_123 : decode cX11_sufferAt 123 = .ok (.goto 5, 3) := by decide +kernel
theorem dX11_sufferAt_126 : decode cX11_sufferAt 126 = .ok (.iload 5, 2) := by decide +kernel
theorem dX11_sufferAt_128 : decode cX11_sufferAt 128 = .ok (.ireturn, 1) := by decide +kernel
theorem dX11_dueAt_0 : decode cX11_dueAt 0 = .ok (.aload_n 0, 1) := by decide +kernel
theorem dX11_dueAt_1 : decode cX11_dueAt 1 = .ok (.aload_n 0, 1) := by decide +kernel
theorem dX11_dueAt_2 : decode cX11_dueAt 2 = .ok (.getfield 98, 3) := by decide +kernel
theorem dX11_dueAt_5 : decode cX11_dueAt 5 = .ok (.iload_n 1, 1) := by decide +kernel
theorem dX11_dueAt_6 : decode cX11_dueAt 6 = .ok (.iaload, 1) := by decide +kernel
theorem dX11_dueAt_7 : decode cX11_dueAt 7 = .ok (.iload_n 1, 1) := by decide +kernel
theorem dX11_dueAt_8 : decode cX11_dueAt 8 = .ok (.aload_n 0, 1) := by decide +kernel
theorem dX11_dueAt_9 : decode cX11_dueAt 9 = .ok (.aload_n 0, 1) := by decide +kernel
theorem dX11_dueAt_10 : decode cX11_dueAt 10 = .ok (.getfield 98, 3) := by decide +kernel
theorem dX11_dueAt_13 : decode cX11_dueAt 13 = .ok (.iload_n 1, 1) := by decide +kernel
theorem dX11_dueAt_14 : decode cX11_dueAt 14 = .ok (.iaload, 1) := by decide +kernel
theorem dX11_dueAt_15 : decode cX11_dueAt 15 = .ok (.invokevirtual 299, 3) := by decide +kernel
theorem dX11_dueAt_18 : decode cX11_dueAt 18 = .ok (.invokevirtual 318, 3) := by decide +kernel
theorem dX11_dueAt_21 : decode cX11_dueAt 21 = .ok (.ireturn, 1) := by decide +kernel
theorem dX11_sufferAll_0 : decode cX11_sufferAll 0 = .ok (.iconst 0, 1) := by decide +kernel
theorem dX11_sufferAll_1 : decode cX11_sufferAll 1 = .ok (.istore_n 1, 1) := by decide +kernel
theorem dX11_sufferAll_2 : decode cX11_sufferAll 2 = .ok (.iconst 0, 1) := by decide +kernel
theorem dX11_sufferAll_3 : decode cX11_sufferAll 3 = .ok (.istore_n 2, 1) := by decide +kernel
theorem dX11_sufferAll_4 : decode cX11_sufferAll 4 = .ok (.iload_n 2, 1) := by decide +kernel
theorem dX11_sufferAll_5 : decode cX11_sufferAll 5 = .ok (.aload_n 0, 1) := by decide +kernel
theorem dX11_sufferAll_6 : decode cX11_sufferAll 6 = .ok (.getfield 98, 3) := by decide +kernel
theorem dX11_sufferAll_9 : decode cX11_sufferAll 9 = .ok (.bipush 7, 2) := by decide +kernel
theorem dX11_sufferAll_11 : decode cX11_sufferAll 11 = .ok (.iaload, 1) := by decide +kernel
theorem dX11_sufferAll_12 : decode cX11_sufferAll 12 = .ok (.if_icmp .ge 17, 3) := by decide +kernel
theorem dX11_sufferAll_15 : decode cX11_sufferAll 15 = .ok (.iload_n 1, 1) := by decide +kernel
theorem dX11_sufferAll_16 : decode cX11_sufferAll 16 = .ok (.aload_n 0, 1) := by decide +kernel
theorem dX11_sufferAll_17 : decode cX11_sufferAll 17 = .ok (.iload_n 2, 1) := by decide +kernel
theorem dX11_sufferAll_18 : decode cX11_sufferAll 18 = .ok (.invokevirtual 324, 3) := by decide +kernel
theorem dX11_sufferAll_21 : decode cX11_sufferAll 21 = .ok (.iadd, 1) := by decide +kernel
