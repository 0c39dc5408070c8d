theorem dX0_init_0 : decode cX0_init 0 = .ok (.aload_n 0, 1) := by decide +kernel
theorem dX0_init_1 : decode cX0_init 1 = .ok (.invokespecial 3, 3) := by decide +kernel
theorem dX0_init_4 : decode cX0_init 4 = .ok (.aload_n 0, 1) := by decide +kernel
theorem dX0_init_5 : decode cX0_init 5 = .ok (.bipush 40, 2) := by decide +kernel
theorem dX0_init_7 : decode cX0_init 7 = .ok (.anewarray 9, 3) := by decide +kernel
theorem dX0_init_10 : decode cX0_init 10 = .ok (.putfield 11, 3) := by decide +kernel
theorem dX0_init_13 : decode cX0_init 13 = .ok (.iconst 0, 1) := by decide +kernel
theorem dX0_init_14 : decode cX0_init 14 = .ok (.istore_n 1, 1) := by decide +kernel
theorem dX0_init_15 : decode cX0_init 15 = .ok (.iload_n 1, 1) := by decide +kernel
theorem dX0_init_16 : decode cX0_init 16 = .ok (.bipush 40, 2) := by decide +kernel
theorem dX0_init_18 : decode cX0_init 18 = .ok (.if_icmp .ge 22, 3) := by decide +kernel
theorem dX0_init_21 : decode cX0_init 21 = .ok (.aload_n 0, 1) := by decide +kernel
theorem dX0_init_22 : decode cX0_init 22 = .ok (.getfield 11, 3) := by decide +kernel
theorem dX0_init_25 : decode cX0_init 25 = .ok (.iload_n 1, 1) := by decide +kernel
theorem dX0_init_26 : decode cX0_init 26 = .ok (.new 9, 3) := by decide +kernel
theorem dX0_init_29 : decode cX0_init 29 = .ok (.dup, 1) := by decide +kernel
theorem dX0_init_30 : decode cX0_init 30 = .ok (.invokespecial 17, 3) := by decide +kernel
theorem dX0_init_33 : decode cX0_init 33 = .ok (.aastore, 1) := by decide +kernel
theorem dX0_init_34 : decode cX0_init 34 = .ok (.iinc 1 1, 3) := by decide +kernel
theorem dX0_init_37 : decode cX0_init 37 = .ok (.goto (-22), 3) := by decide +kernel
theorem dX0_init_40 : decode cX0_init 40 = .ok (.return_, 1) := by decide +kernel
theorem dX0_remember_0 : decode cX0_remember 0 = .ok (.aload_n 0, 1) := by decide +kernel
theorem dX0_remember_1 : decode cX0_remember 1 = .ok (.getfield 11, 3) := by decide +kernel
theorem dX0_remember_4 : decode cX0_remember 4 = .ok (.aload_n 0, 1) := by decide +kernel
theorem dX0_remember_5 : decode cX0_remember 5 = .ok (.getfield 18, 3) := by decide +kernel
theorem dX0_remember_8 : decode cX0_remember 8 = .ok (.bipush 40, 2) := by decide +kernel
theorem dX0_remember_10 : decode cX0_remember 10 = .ok (.invokestatic 22, 3) := by decide +kernel
theorem dX0_remember_13 : decode cX0_remember 13 = .ok (.aaload, 1) := by decide +kernel
theorem dX0_remember_14 : decode cX0_remember 14 = .ok (.aload_n 1, 1) := by decide +kernel
theorem dX0_remember_15 : decode cX0_remember 15 = .ok (.invokevirtual 28, 3) := by decide +kernel
theorem dX0_remember_18 : decode cX0_remember 18 = .ok (.aload_n 0, 1) := by decide +kernel
theorem dX0_remember_19 : decode cX0_remember 19 = .ok (.aload_n 0, 1) := by decide +kernel
theorem dX0_remember_20 : decode cX0_remember 20 = .ok (.getfield 18, 3) := by decide +kernel
theorem dX0_remember_23 : decode cX0_remember 23 = .ok (.iconst 1, 1) := by decide +kernel
theorem dX0_remember_24 : decode cX0_remember 24 = .ok (.iadd, 1) := by decide +kernel
theorem dX0_remember_25 : decode cX0_remember 25 = .ok (.bipush 40, 2) := by decide +kernel
theorem dX0_remember_27 : decode cX0_remember 27 = .ok (.invokestatic 22, 3) := by decide +kernel
theorem dX0_remember_30 : decode cX0_remember 30 = .ok (.putfield 18, 3) := by decide +kernel
theorem dX0_remember_33 : decode cX0_remember 33 = .ok (.aload_n 0, 1) := by decide +kernel
theorem dX0_remember_34 : decode cX0_remember 34 = .ok (.aload_n 0, 1) := by decide +kernel
theorem dX0_remember_35 : decode cX0_remember 35 = .ok (.getfield 32, 3) := by decide +kernel
theorem dX0_remember_38 : decode cX0_remember 38 = .ok (.iconst 1, 1) := by decide +kernel
theorem dX0_remember_39 : decode cX0_remember 39 = .ok (.iadd, 1) := by decide +kernel
theorem dX0_remember_40 : decode cX0_remember 40 = .ok (.bipush 40, 2) := by decide +kernel
theorem dX0_remember_42 : decode cX0_remember 42 = .ok (.invokestatic 35, 3) := by decide +kernel
theorem dX0_remember_45 : decode cX0_remember 45 = .ok (.putfield 32, 3) := by decide +kernel
theorem dX0_remember_48 : decode cX0_remember 48 = .ok (.return_, 1) := by decide +kernel
theorem dX0_takeBack_0 : decode cX0_takeBack 0 = .ok (.aload_n 0, 1) := by decide +kernel
theorem dX0_takeBack_1 : decode cX0_takeBack 1 = .ok (.getfield 32, 3) := by decide +kernel
theorem dX0_takeBack_4 : decode cX0_takeBack 4 = .ok (.ifCond .gt 5, 3) := by decide +kernel
theorem dX0_takeBack_7 : decode cX0_takeBack 7 = .ok (.iconst 0, 1) := by decide +kernel
theorem dX0_takeBack_8 : decode cX0_takeBack 8 = .ok (.ireturn, 1) := by decide +kernel
theorem dX0_takeBack_9 : decode cX0_takeBack 9 = .ok (.aload_n 0, 1) := by decide +kernel
theorem dX0_takeBack_10 : decode cX0_takeBack 10 = .ok (.aload_n 0, 1) := by decide +kernel
theorem dX0_takeBack_11 : decode cX0_takeBack 11 = .ok (.getfield 18, 3) := by decide +kernel
theorem dX0_takeBack_14 : decode cX0_takeBack 14 = .ok (.iconst 1, 1) := by decide +kernel
theorem dX0_takeBack_15 : decode cX0_takeBack 15 = .ok (.isub, 1) := by decide +kernel
theorem dX0_takeBack_16 : decode cX0_takeBack 16 = .ok (.bipush 40, 2) := by decide +kernel
theorem dX0_takeBack_18 : decode cX0_takeBack 18 = .ok (.invokestatic 22, 3) := by decide +kernel
theorem dX0_takeBack_21 : decode cX0_takeBack 21 = .ok (.putfield 18, 3) := by decide +kernel
theorem dX0_takeBack_24 : decode cX0_takeBack 24 = .ok (.aload_n 1, 1) := by decide +kernel
theorem dX0_takeBack_25 : decode cX0_takeBack 25 = .ok (.aload_n 0, 1) := by decide +kernel
theorem dX0_takeBack_26 : decode cX0_takeBack 26 = .ok (.getfield 11, 3) := by decide +kernel
theorem dX0_takeBack_29 : decode cX0_takeBack 29 = .ok (.aload_n 0, 1) := by decide +kernel
theorem dX0_takeBack_30 : decode cX0_takeBack 30 = .ok (.getfield 18, 3) := by decide +kernel
theorem dX0_takeBack_33 : decode cX0_takeBack 33 = .ok (.aaload, 1) := by decide +kernel
theorem dX0_takeBack_34 : decode cX0_takeBack 34 = .ok (.invokevirtual 28, 3) := by decide +kernel
theorem dX0_takeBack_37 : decode cX0_takeBack 37 = .ok (.aload_n 0, 1) := by decide +kernel
theorem dX0_takeBack_38 : decode cX0_takeBack 38 = .ok (.dup, 1) := by decide +kernel
theorem dX0_takeBack_39 : decode cX0_takeBack 39 = .ok (.getfield 32, 3) := by decide +kernel
theorem dX0_takeBack_42 : decode cX0_takeBack 42 = .ok (.iconst 1, 1) := by decide +kernel
theorem dX0_takeBack_43 : decode cX0_takeBack 43 = .ok (.isub, 1) := by decide +kernel
theorem dX0_takeBack_44 : decode cX0_takeBack 44 = .ok (.putfield 32, 3) := by decide +kernel
theorem dX0_takeBack_47 : decode cX0_takeBack 47 = .ok (.iconst 1, 1) := by decide +kernel
theorem dX0_takeBack_48 : decode cX0_takeBack 48 = .ok (.ireturn, 1) := by decide +kernel
theorem dX1_init_0 : decode cX1_init 0 = .ok (.aload_n 0, 1) := by decide +kernel
theorem dX1_init_1 : decode cX1_init 1 = .ok (.invokespecial 3, 3) := by decide +kernel
theorem dX1_init_4 : decode cX1_init 4 = .ok (.aload_n 0, 1) := by decide +kernel
theorem dX1_init_5 : decode cX1_init 5 = .ok (.bipush 9, 2) := by decide +kernel
theorem dX1_init_7 : decode cX1_init 7 = .ok (.newarray .int, 2) := by decide +kernel
theorem dX1_init_9 : decode cX1_init 9 = .ok (.putfield 9, 3) := by decide +kernel
theorem dX1_init_12 : decode cX1_init 12 = .ok (.aload_n 0, 1) := by decide +kernel
theorem dX1_init_13 : decode cX1_init 13 = .ok (.bipush 40, 2) := by decide +kernel
theorem dX1_init_15 : decode cX1_init 15 = .ok (.newarray .int, 2) := by decide +kernel
theorem dX1_init_17 : decode cX1_init 17 = .ok (.putfield 15, 3) := by decide +kernel
theorem dX1_init_20 : decode cX1_init 20 = .ok (.aload_n 0, 1) := by decide +kernel
theorem dX1_init_21 : decode cX1_init 21 = .ok (.bipush 7, 2) := by decide +kernel
theorem dX1_init_23 : decode cX1_init 23 = .ok (.newarray .int, 2) := by decide +kernel
theorem dX1_init_25 : decode cX1_init 25 = .ok (.putfield 18, 3) := by decide +kernel
theorem dX1_init_28 : decode cX1_init 28 = .ok (.aload_n 0, 1) := by decide +kernel
theorem dX1_init_29 : decode cX1_init 29 = .ok (.aload_n 1, 1) := by decide +kernel
theorem dX1_init_30 : decode cX1_init 30 = .ok (.putfield 21, 3) := by decide +kernel
theorem dX1_init_33 : decode cX1_init 33 = .ok (.return_, 1) := by decide +kernel
theorem dX1_seat_0 : decode cX1_seat 0 = .ok (.aload_n 0, 1) := by decide +kernel
theorem dX1_seat_1 : decode cX1_seat 1 = .ok (.getfield 9, 3) := by decide +kernel
theorem dX1_seat_4 : decode cX1_seat 4 = .ok (.iconst 1, 1) := by decide +kernel
theorem dX1_seat_5 : decode cX1_seat 5 = .ok (.aload_n 0, 1) := by decide +kernel
theorem dX1_seat_6 : decode cX1_seat 6 = .ok (.getfield 21, 3) := by decide +kernel
theorem dX1_seat_9 : decode cX1_seat 9 = .ok (.iload_n 2, 1) := by decide +kernel
theorem dX1_seat_10 : decode cX1_seat 10 = .ok (.invokevirtual 25, 3) := by decide +kernel
theorem dX1_seat_13 : decode cX1_seat 13 = .ok (.iastore, 1) := by decide +kernel
theorem dX1_seat_14 : decode cX1_seat 14 = .ok (.aload_n 0, 1) := by decide +kernel
theorem dX1_seat_15 : decode cX1_seat 15 = .ok (.getfield 9, 3) := by decide +kernel
theorem dX1_seat_18 : decode cX1_seat 18 = .ok (.iconst 2, 1) := by decide +kernel
theorem dX1_seat_19 : decode cX1_seat 19 = .ok (.iload_n 2, 1) := by decide +kernel
theorem dX1_seat_20 : decode cX1_seat 20 = .ok (.ifCond .lt 18, 3) := by decide +kernel
theorem dX1_seat_23 : decode cX1_seat 23 = .ok (.iload_n 2, 1) := by decide +kernel
theorem dX1_seat_24 : decode cX1_seat 24 = .ok (.bipush 7, 2) := by decide +kernel
theorem dX1_seat_26 : decode cX1_seat 26 = .ok (.if_icmp .ge 12, 3) := by decide +kernel
theorem dX1_seat_29 : decode cX1_seat 29 = .ok (.aload_n 1, 1) := by decide +kernel
theorem dX1_seat_30 : decode cX1_seat 30 = .ok (.getfield 31, 3) := by decide +kernel
theorem dX1_seat_33 : decode cX1_seat 33 = .ok (.iload_n 2, 1) := by decide +kernel
theorem dX1_seat_34 : decode cX1_seat 34 = .ok (.iaload, 1) := by decide +kernel
theorem dX1_seat_35 : decode cX1_seat 35 = .ok (.goto 4, 3) := by decide +kernel
theorem dX1_seat_38 : decode cX1_seat 38 = .ok (.iconst 0, 1) := by decide +kernel
theorem dX1_seat_39 : decode cX1_seat 39 = .ok (.iastore, 1) := by decide +kernel
theorem dX1_seat_40 : decode cX1_seat 40 = .ok (.aload_n 0, 1) := by decide +kernel
theorem dX1_seat_41 : decode cX1_seat 41 = .ok (.getfield 9, 3) := by decide +kernel
theorem dX1_seat_44 : decode cX1_seat 44 = .ok (.iconst 3, 1) := by decide +kernel
theorem dX1_seat_45 : decode cX1_seat 45 = .ok (.iload_n 3, 1) := by decide +kernel
theorem dX1_seat_46 : decode cX1_seat 46 = .ok (.iastore, 1) := by decide +kernel
theorem dX1_seat_47 : decode cX1_seat 47 = .ok (.aload_n 0, 1) := by decide +kernel
theorem dX1_seat_48 : decode cX1_seat 48 = .ok (.getfield 9, 3) := by decide +kernel
theorem dX1_seat_51 : decode cX1_seat 51 = .ok (.iconst 4, 1) := by decide +kernel
theorem dX1_seat_52 : decode cX1_seat 52 = .ok (.aload_n 1, 1) := by decide +kernel
theorem dX1_seat_53 : decode cX1_seat 53 = .ok (.getfield 36, 3) := by decide +kernel
theorem dX1_seat_56 : decode cX1_seat 56 = .ok (.iastore, 1) := by decide +kernel
theorem dX1_seat_57 : decode cX1_seat 57 = .ok (.aload_n 0, 1) := by decide +kernel
theorem dX1_seat_58 : decode cX1_seat 58 = .ok (.getfield 9, 3) := by decide +kernel
theorem dX1_seat_61 : decode cX1_seat 61 = .ok (.iconst 5, 1) := by decide +kernel
theorem dX1_seat_62 : decode cX1_seat 62 = .ok (.iload_n 2, 1) := by decide +kernel
theorem dX1_seat_63 : decode cX1_seat 63 = .ok (.iastore, 1) := by decide +kernel
theorem dX1_seat_64 : decode cX1_seat 64 = .ok (.aload_n 0, 1) := by decide +kernel
theorem dX1_seat_65 : decode cX1_seat 65 = .ok (.getfield 9, 3) := by decide +kernel
theorem dX1_seat_68 : decode cX1_seat 68 = .ok (.bipush 6, 2) := by decide +kernel
theorem dX1_seat_70 : decode cX1_seat 70 = .ok (.aload_n 1, 1) := by decide +kernel
theorem dX1_seat_71 : decode cX1_seat 71 = .ok (.getfield 40, 3) := by decide +kernel
theorem dX1_seat_74 : decode cX1_seat 74 = .ok (.iastore, 1) := by decide +kernel
theorem dX1_seat_75 : decode cX1_seat 75 = .ok (.aload_n 0, 1) := by decide +kernel
theorem dX1_seat_76 : decode cX1_seat 76 = .ok (.getfield 9, 3) := by decide +kernel
theorem dX1_seat_79 : decode cX1_seat 79 = .ok (.bipush 7, 2) := by decide +kernel
theorem dX1_seat_81 : decode cX1_seat 81 = .ok (.aload_n 1, 1) := by decide +kernel
theorem dX1_seat_82 : decode cX1_seat 82 = .ok (.iload 4, 2) := by decide +kernel
theorem dX1_seat_84 : decode cX1_seat 84 = .ok (.invokevirtual 43, 3) := by decide +kernel
theorem dX1_seat_87 : decode cX1_seat 87 = .ok (.ifCond .eq 7, 3) := by decide +kernel
theorem dX1_seat_90 : decode cX1_seat 90 = .ok (.iconst 1, 1) := by decide +kernel
theorem dX1_seat_91 : decode cX1_seat 91 = .ok (.goto 4, 3) := by decide +kernel
theorem dX1_seat_94 : decode cX1_seat 94 = .ok (.iconst 0, 1) := by decide +kernel
theorem dX1_seat_95 : decode cX1_seat 95 = .ok (.iastore, 1) := by decide +kernel
theorem dX1_seat_96 : decode cX1_seat 96 = .ok (.aload_n 0, 1) := by decide +kernel
theorem dX1_seat_97 : decode cX1_seat 97 = .ok (.getfield 9, 3) := by decide +kernel
theorem dX1_seat_100 : decode cX1_seat 100 = .ok (.bipush 8, 2) := by decide +kernel
theorem dX1_seat_102 : decode cX1_seat 102 = .ok (.aload_n 1, 1) := by decide +kernel
theorem dX1_seat_103 : decode cX1_seat 103 = .ok (.getfield 47, 3) := by decide +kernel
theorem dX1_seat_106 : decode cX1_seat 106 = .ok (.iastore, 1) := by decide +kernel
theorem dX1_seat_107 : decode cX1_seat 107 = .ok (.return_, 1) := by decide +kernel
theorem dX1_seatAsListed_0 : decode cX1_seatAsListed 0 = .ok (.aload_n 1, 1) := by decide +kernel
theorem dX1_seatAsListed_1 : decode cX1_seatAsListed 1 = .ok (.iload_n 2, 1) := by decide +kernel
theorem dX1_seatAsListed_2 : decode cX1_seatAsListed 2 = .ok (.invokevirtual 50, 3) := by decide +kernel
theorem dX1_seatAsListed_5 : decode cX1_seatAsListed 5 = .ok (.istore_n 3, 1) := by decide +kernel
theorem dX1_seatAsListed_6 : decode cX1_seatAsListed 6 = .ok (.iload_n 3, 1) := by decide +kernel
theorem dX1_seatAsListed_7 : decode cX1_seatAsListed 7 = .ok (.iconst (-1), 1) := by decide +kernel
theorem dX1_seatAsListed_8 : decode cX1_seatAsListed 8 = .ok (.if_icmp .ne 17, 3) := by decide +kernel
theorem dX1_seatAsListed_11 : decode cX1_seatAsListed 11 = .ok (.aload_n 0, 1) := by decide +kernel
theorem dX1_seatAsListed_12 : decode cX1_seatAsListed 12 = .ok (.aload_n 1, 1) := by decide +kernel
theorem dX1_seatAsListed_13 : decode cX1_seatAsListed 13 = .ok (.iload_n 2, 1) := by decide +kernel
theorem dX1_seatAsListed_14 : decode cX1_seatAsListed 14 = .ok (.aload_n 1, 1) := by decide +kernel
theorem dX1_seatAsListed_15 : decode cX1_seatAsListed 15 = .ok (.getfield 40, 3) := by decide +kernel
theorem dX1_seatAsListed_18 : decode cX1_seatAsListed 18 = .ok (.iconst (-1), 1) := by decide +kernel
theorem dX1_seatAsListed_19 : decode cX1_seatAsListed 19 = .ok (.invokevirtual 53, 3) := by decide +kernel
theorem dX1_seatAsListed_22 : decode cX1_seatAsListed 22 = .ok (.goto 15, 3) := by decide +kernel
theorem dX1_seatAsListed_25 : decode cX1_seatAsListed 25 = .ok (.aload_n 0, 1) := by decide +kernel
theorem dX1_seatAsListed_26 : decode cX1_seatAsListed 26 = .ok (.aload_n 1, 1) := by decide +kernel
theorem dX1_seatAsListed_27 : decode cX1_seatAsListed 27 = .ok (.iload_n 2, 1) := by decide +kernel
theorem dX1_seatAsListed_28 : decode cX1_seatAsListed 28 = .ok (.iload_n 3, 1) := by decide +kernel
theorem dX1_seatAsListed_29 : decode cX1_seatAsListed 29 = .ok (.aload_n 1, 1) := by decide +kernel
theorem dX1_seatAsListed_30 : decode cX1_seatAsListed 30 = .ok (.iload_n 3, 1) := by decide +kernel
theorem dX1_seatAsListed_31 : decode cX1_seatAsListed 31 = .ok (.invokevirtual 57, 3) := by decide +kernel
theorem dX1_seatAsListed_34 : decode cX1_seatAsListed 34 = .ok (.invokevirtual 53, 3) := by decide +kernel
theorem dX1_seatAsListed_37 : decode cX1_seatAsListed 37 = .ok (.return_, 1) := by decide +kernel
theorem dX1_sentence_0 : decode cX1_sentence 0 = .ok (.iconst 0, 1) := by decide +kernel
theorem dX1_sentence_1 : decode cX1_sentence 1 = .ok (.bipush 99, 2) := by decide +kernel
theorem dX1_sentence_3 : decode cX1_sentence 3 = .ok (.aload_n 0, 1) := by decide +kernel
theorem dX1_sentence_4 : decode cX1_sentence 4 = .ok (.iload_n 1, 1) := by decide +kernel
theorem dX1_sentence_5 : decode cX1_sentence 5 = .ok (.iload_n 2, 1) := by decide +kernel
theorem dX1_sentence_6 : decode cX1_sentence 6 = .ok (.invokevirtual 60, 3) := by decide +kernel
theorem dX1_sentence_9 : decode cX1_sentence 9 = .ok (.invokestatic 64, 3) := by decide +kernel
theorem dX1_sentence_12 : decode cX1_sentence 12 = .ok (.invokestatic 69, 3) := by decide +kernel
theorem dX1_sentence_15 : decode cX1_sentence 15 = .ok (.ireturn, 1) := by decide +kernel
theorem dX1_chanceOfAdjourning_0 : decode cX1_chanceOfAdjourning 0 = .ok (.aload_n 0, 1) := by decide +kernel
theorem dX1_chanceOfAdjourning_1 : decode cX1_chanceOfAdjourning 1 = .ok (.aload_n 1, 1) := by decide +kernel
theorem dX1_chanceOfAdjourning_2 : decode cX1_chanceOfAdjourning 2 = .ok (.iload_n 2, 1) := by decide +kernel
theorem dX1_chanceOfAdjourning_3 : decode cX1_chanceOfAdjourning 3 = .ok (.invokevirtual 72, 3) := by decide +kernel
theorem dX1_chanceOfAdjourning_6 : decode cX1_chanceOfAdjourning 6 = .ok (.iconst 0, 1) := by decide +kernel
theorem dX1_chanceOfAdjourning_7 : decode cX1_chanceOfAdjourning 7 = .ok (.bipush 100, 2) := by decide +kernel
theorem dX1_chanceOfAdjourning_9 : decode cX1_chanceOfAdjourning 9 = .ok (.aload_n 0, 1) := by decide +kernel
theorem dX1_chanceOfAdjourning_10 : decode cX1_chanceOfAdjourning 10 = .ok (.iconst 3, 1) := by decide +kernel
theorem dX1_chanceOfAdjourning_11 : decode cX1_chanceOfAdjourning 11 = .ok (.aload_n 0, 1) := by decide +kernel
theorem dX1_chanceOfAdjourning_12 : decode cX1_chanceOfAdjourning 12 = .ok (.getfield 21, 3) := by decide +kernel
theorem dX1_chanceOfAdjourning_15 : decode cX1_chanceOfAdjourning 15 = .ok (.iload_n 2, 1) := by decide +kernel
theorem dX1_chanceOfAdjourning_16 : decode cX1_chanceOfAdjourning 16 = .ok (.invokevirtual 25, 3) := by decide +kernel
theorem dX1_chanceOfAdjourning_19 : decode cX1_chanceOfAdjourning 19 = .ok (.invokevirtual 60, 3) := by decide +kernel
theorem dX1_chanceOfAdjourning_22 : decode cX1_chanceOfAdjourning 22 = .ok (.invokestatic 64, 3) := by decide +kernel
theorem dX1_chanceOfAdjourning_25 : decode cX1_chanceOfAdjourning 25 = .ok (.invokestatic 69, 3) := by decide +kernel
theorem dX1_chanceOfAdjourning_28 : decode cX1_chanceOfAdjourning 28 = .ok (.ireturn, 1) := by decide +kernel
theorem dX1_lawFor_0 : decode cX1_lawFor 0 = .ok (.aload_n 0, 1) := by decide +kernel
theorem dX1_lawFor_1 : decode cX1_lawFor 1 = .ok (.getfield 9, 3) := by decide +kernel
theorem dX1_lawFor_4 : decode cX1_lawFor 4 = .ok (.iconst 0, 1) := by decide +kernel
theorem dX1_lawFor_5 : decode cX1_lawFor 5 = .ok (.iload_n 2, 1) := by decide +kernel
theorem dX1_lawFor_6 : decode cX1_lawFor 6 = .ok (.iastore, 1) := by decide +kernel
theorem dX1_lawFor_7 : decode cX1_lawFor 7 = .ok (.iconst 0, 1) := by decide +kernel
theorem dX1_lawFor_8 : decode cX1_lawFor 8 = .ok (.istore_n 3, 1) := by decide +kernel
theorem dX1_lawFor_9 : decode cX1_lawFor 9 = .ok (.iload_n 1, 1) := by decide +kernel
theorem dX1_lawFor_10 : decode cX1_lawFor 10 = .ok (.ifCond .lt 20, 3) := by decide +kernel
theorem dX1_lawFor_13 : decode cX1_lawFor 13 = .ok (.iload_n 1, 1) := by decide +kernel
theorem dX1_lawFor_14 : decode cX1_lawFor 14 = .ok (.iconst 4, 1) := by decide +kernel
theorem dX1_lawFor_15 : decode cX1_lawFor 15 = .ok (.if_icmp .ge 15, 3) := by decide +kernel
theorem dX1_lawFor_18 : decode cX1_lawFor 18 = .ok (.aload_n 0, 1) := by decide +kernel
theorem dX1_lawFor_19 : decode cX1_lawFor 19 = .ok (.getfield 21, 3) := by decide +kernel
theorem dX1_lawFor_22 : decode cX1_lawFor 22 = .ok (.getfield 76, 3) := by decide +kernel
theorem dX1_lawFor_25 : decode cX1_lawFor 25 = .ok (.iload_n 1, 1) := by decide +kernel
theorem dX1_lawFor_26 : decode cX1_lawFor 26 = .ok (.iaload, 1) := by decide +kernel
theorem dX1_lawFor_27 : decode cX1_lawFor 27 = .ok (.goto 4, 3) := by decide +kernel
theorem dX1_lawFor_30 : decode cX1_lawFor 30 = .ok (.iconst 0, 1) := by decide +kernel
theorem dX1_lawFor_31 : decode cX1_lawFor 31 = .ok (.istore 4, 2) := by decide +kernel
theorem dX1_lawFor_33 : decode cX1_lawFor 33 = .ok (.iconst 0, 1) := by decide +kernel
theorem dX1_lawFor_34 : decode cX1_lawFor 34 = .ok (.iload 4, 2) := by decide +kernel
theorem dX1_lawFor_36 : decode cX1_lawFor 36 = .ok (.invokestatic 69, 3) := by decide +kernel
theorem dX1_lawFor_39 : decode cX1_lawFor 39 = .ok (.istore 5, 2) := by decide +kernel
theorem dX1_lawFor_41 : decode cX1_lawFor 41 = .ok (.iload 5, 2) := by decide +kernel
theorem dX1_lawFor_43 : decode cX1_lawFor 43 = .ok (.aload_n 0, 1) := by decide +kernel
theorem dX1_lawFor_44 : decode cX1_lawFor 44 = .ok (.getfield 21, 3) := by decide +kernel
theorem dX1_lawFor_47 : decode cX1_lawFor 47 = .ok (.getfield 79, 3) := by decide +kernel
theorem dX1_lawFor_50 : decode cX1_lawFor 50 = .ok (.if_icmp .ge 236, 3) := by decide +kernel
theorem dX1_lawFor_53 : decode cX1_lawFor 53 = .ok (.iload 5, 2) := by decide +kernel
theorem dX1_lawFor_55 : decode cX1_lawFor 55 = .ok (.aload_n 0, 1) := by decide +kernel
theorem dX1_lawFor_56 : decode cX1_lawFor 56 = .ok (.getfield 21, 3) := by decide +kernel
theorem dX1_lawFor_59 : decode cX1_lawFor 59 = .ok (.getfield 82, 3) := by decide +kernel
theorem dX1_lawFor_62 : decode cX1_lawFor 62 = .ok (.arraylength, 1) := by decide +kernel
theorem dX1_lawFor_63 : decode cX1_lawFor 63 = .ok (.if_icmp .ge 223, 3) := by decide +kernel
theorem dX1_lawFor_66 : decode cX1_lawFor 66 = .ok (.aload_n 0, 1) := by decide +kernel
theorem dX1_lawFor_67 : decode cX1_lawFor 67 = .ok (.getfield 21, 3) := by decide +kernel
theorem dX1_lawFor_70 : decode cX1_lawFor 70 = .ok (.getfield 82, 3) := by decide +kernel
theorem dX1_lawFor_73 : decode cX1_lawFor 73 = .ok (.iload 5, 2) := by decide +kernel
theorem dX1_lawFor_75 : decode cX1_lawFor 75 = .ok (.iaload, 1) := by decide +kernel
theorem dX1_lawFor_76 : decode cX1_lawFor 76 = .ok (.bipush 7, 2) := by decide +kernel
theorem dX1_lawFor_78 : decode cX1_lawFor 78 = .ok (.iand, 1) := by decide +kernel
theorem dX1_lawFor_79 : decode cX1_lawFor 79 = .ok (.istore 6, 2) := by decide +kernel
theorem dX1_lawFor_81 : decode cX1_lawFor 81 = .ok (.aload_n 0, 1) := by decide +kernel
theorem dX1_lawFor_82 : decode cX1_lawFor 82 = .ok (.getfield 21, 3) := by decide +kernel
theorem dX1_lawFor_85 : decode cX1_lawFor 85 = .ok (.getfield 82, 3) := by decide +kernel
theorem dX1_lawFor_88 : decode cX1_lawFor 88 = .ok (.iload 5, 2) := by decide +kernel
theorem dX1_lawFor_90 : decode cX1_lawFor 90 = .ok (.iaload, 1) := by decide +kernel
theorem dX1_lawFor_91 : decode cX1_lawFor 91 = .ok (.iconst 3, 1) := by decide +kernel
theorem dX1_lawFor_92 : decode cX1_lawFor 92 = .ok (.ishr, 1) := by decide +kernel
theorem dX1_lawFor_93 : decode cX1_lawFor 93 = .ok (.istore 7, 2) := by decide +kernel
theorem dX1_lawFor_95 : decode cX1_lawFor 95 = .ok (.iload 6, 2) := by decide +kernel
theorem dX1_lawFor_97 : decode cX1_lawFor 97 = .ok (.bipush 7, 2) := by decide +kernel
theorem dX1_lawFor_99 : decode cX1_lawFor 99 = .ok (.if_icmp .ne 20, 3) := by decide +kernel
theorem dX1_lawFor_102 : decode cX1_lawFor 102 = .ok (.iload_n 3, 1) := by decide +kernel
theorem dX1_lawFor_103 : decode cX1_lawFor 103 = .ok (.ifCond .le 14, 3) := by decide +kernel
theorem dX1_lawFor_106 : decode cX1_lawFor 106 = .ok (.aload_n 0, 1) := by decide +kernel
theorem dX1_lawFor_107 : decode cX1_lawFor 107 = .ok (.getfield 15, 3) := by decide +kernel
theorem dX1_lawFor_110 : decode cX1_lawFor 110 = .ok (.iload_n 3, 1) := by decide +kernel
theorem dX1_lawFor_111 : decode cX1_lawFor 111 = .ok (.iconst 1, 1) := by decide +kernel
theorem dX1_lawFor_112 : decode cX1_lawFor 112 = .ok (.isub, 1) := by decide +kernel
theorem dX1_lawFor_113 : decode cX1_lawFor 113 = .ok (.iaload, 1) := by decide +kernel
theorem dX1_lawFor_114 : decode cX1_lawFor 114 = .ok (.goto 4, 3) := by decide +kernel
theorem dX1_lawFor_117 : decode cX1_lawFor 117 = .ok (.iconst 0, 1) := by decide +kernel
theorem dX1_lawFor_118 : decode cX1_lawFor 118 = .ok (.ireturn, 1) := by decide +kernel
theorem dX1_lawFor_119 : decode cX1_lawFor 119 = .ok (.iload 6, 2) := by decide +kernel
theorem dX1_lawFor_121 : decode cX1_lawFor 121 = .ok (.ifCond .eq 9, 3) := by decide +kernel
theorem dX1_lawFor_124 : decode cX1_lawFor 124 = .ok (.iload 6, 2) := by decide +kernel
theorem dX1_lawFor_126 : decode cX1_lawFor 126 = .ok (.iconst 1, 1) := by decide +kernel
theorem dX1_lawFor_127 : decode cX1_lawFor 127 = .ok (.if_icmp .ne 61, 3) := by decide +kernel
theorem dX1_lawFor_130 : decode cX1_lawFor 130 = .ok (.iload_n 3, 1) := by decide +kernel
theorem dX1_lawFor_131 : decode cX1_lawFor 131 = .ok (.aload_n 0, 1) := by decide +kernel
theorem dX1_lawFor_132 : decode cX1_lawFor 132 = .ok (.getfield 15, 3) := by decide +kernel
theorem dX1_lawFor_135 : decode cX1_lawFor 135 = .ok (.arraylength, 1) := by decide +kernel
theorem dX1_lawFor_136 : decode cX1_lawFor 136 = .ok (.if_icmp .ge 21, 3) := by decide +kernel
theorem dX1_lawFor_139 : decode cX1_lawFor 139 = .ok (.iload 7, 2) := by decide +kernel
theorem dX1_lawFor_141 : decode cX1_lawFor 141 = .ok (.ifCond .lt 16, 3) := by decide +kernel
theorem dX1_lawFor_144 : decode cX1_lawFor 144 = .ok (.iload 6, 2) := by decide +kernel
theorem dX1_lawFor_146 : decode cX1_lawFor 146 = .ok (.iconst 1, 1) := by decide +kernel
theorem dX1_lawFor_147 : decode cX1_lawFor 147 = .ok (.if_icmp .ne 12, 3) := by decide +kernel
theorem dX1_lawFor_150 : decode cX1_lawFor 150 = .ok (.iload 7, 2) := by decide +kernel
theorem dX1_lawFor_152 : decode cX1_lawFor 152 = .ok (.bipush 9, 2) := by decide +kernel
theorem dX1_lawFor_154 : decode cX1_lawFor 154 = .ok (.if_icmp .lt 5, 3) := by decide +kernel
theorem dX1_lawFor_157 : decode cX1_lawFor 157 = .ok (.iconst 0, 1) := by decide +kernel
theorem dX1_lawFor_158 : decode cX1_lawFor 158 = .ok (.ireturn, 1) := by decide +kernel
theorem dX1_lawFor_159 : decode cX1_lawFor 159 = .ok (.aload_n 0, 1) := by decide +kernel
theorem dX1_lawFor_160 : decode cX1_lawFor 160 = .ok (.getfield 15, 3) := by decide +kernel
theorem dX1_lawFor_163 : decode cX1_lawFor 163 = .ok (.iload_n 3, 1) := by decide +kernel
theorem dX1_lawFor_164 : decode cX1_lawFor 164 = .ok (.iload 6, 2) := by decide +kernel
theorem dX1_lawFor_166 : decode cX1_lawFor 166 = .ok (.ifCond .ne 8, 3) := by decide +kernel
theorem dX1_lawFor_169 : decode cX1_lawFor 169 = .ok (.iload 7, 2) := by decide +kernel
theorem dX1_lawFor_171 : decode cX1_lawFor 171 = .ok (.goto 10, 3) := by decide +kernel
theorem dX1_lawFor_174 : decode cX1_lawFor 174 = .ok (.aload_n 0, 1) := by decide +kernel
theorem dX1_lawFor_175 : decode cX1_lawFor 175 = .ok (.getfield 9, 3) := by decide +kernel
theorem dX1_lawFor_178 : decode cX1_lawFor 178 = .ok (.iload 7, 2) := by decide +kernel
theorem dX1_lawFor_180 : decode cX1_lawFor 180 = .ok (.iaload, 1) := by decide +kernel
theorem dX1_lawFor_181 : decode cX1_lawFor 181 = .ok (.iastore, 1) := by decide +kernel
theorem dX1_lawFor_182 : decode cX1_lawFor 182 = .ok (.iinc 3 1, 3) := by decide +kernel
theorem dX1_lawFor_185 : decode cX1_lawFor 185 = .ok (.goto 95, 3) := by decide +kernel
theorem dX1_lawFor_188 : decode cX1_lawFor 188 = .ok (.iload_n 3, 1) := by decide +kernel
theorem dX1_lawFor_189 : decode cX1_lawFor 189 = .ok (.iconst 2, 1) := by decide +kernel
theorem dX1_lawFor_190 : decode cX1_lawFor 190 = .ok (.if_icmp .ge 5, 3) := by decide +kernel
theorem dX1_lawFor_193 : decode cX1_lawFor 193 = .ok (.iconst 0, 1) := by decide +kernel
theorem dX1_lawFor_194 : decode cX1_lawFor 194 = .ok (.ireturn, 1) := by decide +kernel
theorem dX1_lawFor_195 : decode cX1_lawFor 195 = .ok (.iinc 3 (-2), 3) := by decide +kernel
theorem dX1_lawFor_198 : decode cX1_lawFor 198 = .ok (.aload_n 0, 1) := by decide +kernel
theorem dX1_lawFor_199 : decode cX1_lawFor 199 = .ok (.getfield 15, 3) := by decide +kernel
theorem dX1_lawFor_202 : decode cX1_lawFor 202 = .ok (.iload_n 3, 1) := by decide +kernel
theorem dX1_lawFor_203 : decode cX1_lawFor 203 = .ok (.iaload, 1) := by decide +kernel
theorem dX1_lawFor_204 : decode cX1_lawFor 204 = .ok (.istore 8, 2) := by decide +kernel
theorem dX1_lawFor_206 : decode cX1_lawFor 206 = .ok (.aload_n 0, 1) := by decide +kernel
theorem dX1_lawFor_207 : decode cX1_lawFor 207 = .ok (.getfield 15, 3) := by decide +kernel
theorem dX1_lawFor_210 : decode cX1_lawFor 210 = .ok (.iload_n 3, 1) := by decide +kernel
theorem dX1_lawFor_211 : decode cX1_lawFor 211 = .ok (.iconst 1, 1) := by decide +kernel
theorem dX1_lawFor_212 : decode cX1_lawFor 212 = .ok (.iadd, 1) := by decide +kernel
theorem dX1_lawFor_213 : decode cX1_lawFor 213 = .ok (.iaload, 1) := by decide +kernel
theorem dX1_lawFor_214 : decode cX1_lawFor 214 = .ok (.istore 9, 2) := by decide +kernel
theorem dX1_lawFor_216 : decode cX1_lawFor 216 = .ok (.iload 6, 2) := by decide +kernel
theorem dX1_lawFor_218 : decode cX1_lawFor 218 = .ok (.bipush 6, 2) := by decide +kernel
theorem dX1_lawFor_220 : decode cX1_lawFor 220 = .ok (.if_icmp .ne 29, 3) := by decide +kernel
theorem dX1_lawFor_223 : decode cX1_lawFor 223 = .ok (.iload 8, 2) := by decide +kernel
theorem dX1_lawFor_225 : decode cX1_lawFor 225 = .ok (.iload 9, 2) := by decide +kernel
theorem dX1_lawFor_227 : decode cX1_lawFor 227 = .ok (.if_icmp .ge 8, 3) := by decide +kernel
theorem dX1_lawFor_230 : decode cX1_lawFor 230 = .ok (.iload 5, 2) := by decide +kernel
theorem dX1_lawFor_232 : decode cX1_lawFor 232 = .ok (.goto 12, 3) := by decide +kernel
theorem dX1_lawFor_235 : decode cX1_lawFor 235 = .ok (.iload 5, 2) := by decide +kernel
theorem dX1_lawFor_237 : decode cX1_lawFor 237 = .ok (.iload 7, 2) := by decide +kernel
theorem dX1_lawFor_239 : decode cX1_lawFor 239 = .ok (.iconst 1, 1) := by decide +kernel
theorem dX1_lawFor_240 : decode cX1_lawFor 240 = .ok (.isub, 1) := by decide +kernel
theorem dX1_lawFor_241 : decode cX1_lawFor 241 = .ok (.invokestatic 69, 3) := by decide +kernel
theorem dX1_lawFor_244 : decode cX1_lawFor 244 = .ok (.istore 5, 2) := by decide +kernel
theorem dX1_lawFor_246 : decode cX1_lawFor 246 = .ok (.goto 34, 3) := by decide +kernel
theorem dX1_lawFor_249 : decode cX1_lawFor 249 = .ok (.iload 6, 2) := by decide +kernel
theorem dX1_lawFor_251 : decode cX1_lawFor 251 = .ok (.iconst 5, 1) := by decide +kernel
theorem dX1_lawFor_252 : decode cX1_lawFor 252 = .ok (.if_icmp .ne 10, 3) := by decide +kernel
theorem dX1_lawFor_255 : decode cX1_lawFor 255 = .ok (.iload 9, 2) := by decide +kernel
theorem dX1_lawFor_257 : decode cX1_lawFor 257 = .ok (.ifCond .ne 5, 3) := by decide +kernel
theorem dX1_lawFor_260 : decode cX1_lawFor 260 = .ok (.iconst 0, 1) := by decide +kernel
theorem dX1_lawFor_261 : decode cX1_lawFor 261 = .ok (.ireturn, 1) := by decide +kernel
theorem dX1_lawFor_262 : decode cX1_lawFor 262 = .ok (.aload_n 0, 1) := by decide +kernel
theorem dX1_lawFor_263 : decode cX1_lawFor 263 = .ok (.getfield 15, 3) := by decide +kernel
theorem dX1_lawFor_266 : decode cX1_lawFor 266 = .ok (.iload_n 3, 1) := by decide +kernel
theorem dX1_lawFor_267 : decode cX1_lawFor 267 = .ok (.iload 6, 2) := by decide +kernel
theorem dX1_lawFor_269 : decode cX1_lawFor 269 = .ok (.iload 8, 2) := by decide +kernel
theorem dX1_lawFor_271 : decode cX1_lawFor 271 = .ok (.iload 9, 2) := by decide +kernel
theorem dX1_lawFor_273 : decode cX1_lawFor 273 = .ok (.invokestatic 85, 3) := by decide +kernel
theorem dX1_lawFor_276 : decode cX1_lawFor 276 = .ok (.iastore, 1) := by decide +kernel
theorem dX1_lawFor_277 : decode cX1_lawFor 277 = .ok (.iinc 3 1, 3) := by decide +kernel
theorem dX1_lawFor_280 : decode cX1_lawFor 280 = .ok (.iinc 5 1, 3) := by decide +kernel
theorem dX1_lawFor_283 : decode cX1_lawFor 283 = .ok (.goto (-242), 3) := by decide +kernel
theorem dX1_lawFor_286 : decode cX1_lawFor 286 = .ok (.iconst 0, 1) := by decide +kernel
theorem dX1_lawFor_287 : decode cX1_lawFor 287 = .ok (.ireturn, 1) := by decide +kernel
theorem dX1_reckon_0 : decode cX1_reckon 0 = .ok (.iload_n 0, 1) := by decide +kernel
theorem dX1_reckon_1 : decode cX1_reckon 1 = .ok (.tableswitch 39 2 4 #[27, 31, 35], 27) := by decide +kernel
theorem dX1_reckon_28 : decode cX1_reckon 28 = .ok (.iload_n 1, 1) := by decide +kernel
theorem dX1_reckon_29 : decode cX1_reckon 29 = .ok (.iload_n 2, 1) := by decide +kernel
theorem dX1_reckon_30 : decode cX1_reckon 30 = .ok (.iadd, 1) := by decide +kernel
theorem dX1_reckon_31 : decode cX1_reckon 31 = .ok (.ireturn, 1) := by decide +kernel
theorem dX1_reckon_32 : decode cX1_reckon 32 = .ok (.iload_n 1, 1) := by decide +kernel
theorem dX1_reckon_33 : decode cX1_reckon 33 = .ok (.iload_n 2, 1) := by decide +kernel
theorem dX1_reckon_34 : decode cX1_reckon 34 = .ok (.isub, 1) := by decide +kernel
theorem dX1_reckon_35 : decode cX1_reckon 35 = .ok (.ireturn, 1) := by decide +kernel
theorem dX1_reckon_36 : decode cX1_reckon 36 = .ok (.iload_n 1, 1) := by decide +kernel
theorem dX1_reckon_37 : decode cX1_reckon 37 = .ok (.iload_n 2, 1) := by decide +kernel
theorem dX1_reckon_38 : decode cX1_reckon 38 = .ok (.imul, 1) := by decide +kernel
theorem dX1_reckon_39 : decode cX1_reckon 39 = .ok (.ireturn, 1) := by decide +kernel
theorem dX1_reckon_40 : decode cX1_reckon 40 = .ok (.iload_n 2, 1) := by decide +kernel
theorem dX1_reckon_41 : decode cX1_reckon 41 = .ok (.ifCond .ne 7, 3) := by decide +kernel
theorem dX1_reckon_44 : decode cX1_reckon 44 = .ok (.iconst 0, 1) := by decide +kernel
theorem dX1_reckon_45 : decode cX1_reckon 45 = .ok (.goto 6, 3) := by decide +kernel
theorem dX1_reckon_48 : decode cX1_reckon 48 = .ok (.iload_n 1, 1) := by decide +kernel
theorem dX1_reckon_49 : decode cX1_reckon 49 = .ok (.iload_n 2, 1) := by decide +kernel
theorem dX1_reckon_50 : decode cX1_reckon 50 = .ok (.idiv, 1) := by decide +kernel
theorem dX1_reckon_51 : decode cX1_reckon 51 = .ok (.ireturn, 1) := by decide +kernel
theorem dX1_kindOf_0 : decode cX1_kindOf 0 = .ok (.iload_n 3, 1) := by decide +kernel
theorem dX1_kindOf_1 : decode cX1_kindOf 1 = .ok (.ifCond .ne 5, 3) := by decide +kernel
theorem dX1_kindOf_4 : decode cX1_kindOf 4 = .ok (.iconst 0, 1) := by decide +kernel
theorem dX1_kindOf_5 : decode cX1_kindOf 5 = .ok (.ireturn, 1) := by decide +kernel
theorem dX1_kindOf_6 : decode cX1_kindOf 6 = .ok (.aload_n 0, 1) := by decide +kernel
theorem dX1_kindOf_7 : decode cX1_kindOf 7 = .ok (.getfield 21, 3) := by decide +kernel
theorem dX1_kindOf_10 : decode cX1_kindOf 10 = .ok (.iload 4, 2) := by decide +kernel
theorem dX1_kindOf_12 : decode cX1_kindOf 12 = .ok (.invokevirtual 25, 3) := by decide +kernel
theorem dX1_kindOf_15 : decode cX1_kindOf 15 = .ok (.istore 5, 2) := by decide +kernel
theorem dX1_kindOf_17 : decode cX1_kindOf 17 = .ok (.iload 5, 2) := by decide +kernel
theorem dX1_kindOf_19 : decode cX1_kindOf 19 = .ok (.ifCond .ne 5, 3) := by decide +kernel
theorem dX1_kindOf_22 : decode cX1_kindOf 22 = .ok (.iconst 1, 1) := by decide +kernel
theorem dX1_kindOf_23 : decode cX1_kindOf 23 = .ok (.ireturn, 1) := by decide +kernel
theorem dX1_kindOf_24 : decode cX1_kindOf 24 = .ok (.iload 5, 2) := by decide +kernel
theorem dX1_kindOf_26 : decode cX1_kindOf 26 = .ok (.aload_n 0, 1) := by decide +kernel
theorem dX1_kindOf_27 : decode cX1_kindOf 27 = .ok (.getfield 21, 3) := by decide +kernel
theorem dX1_kindOf_30 : decode cX1_kindOf 30 = .ok (.iload_n 2, 1) := by decide +kernel
theorem dX1_kindOf_31 : decode cX1_kindOf 31 = .ok (.invokevirtual 25, 3) := by decide +kernel
theorem dX1_kindOf_34 : decode cX1_kindOf 34 = .ok (.if_icmp .ge 5, 3) := by decide +kernel
theorem dX1_kindOf_37 : decode cX1_kindOf 37 = .ok (.iconst 2, 1) := by decide +kernel
theorem dX1_kindOf_38 : decode cX1_kindOf 38 = .ok (.ireturn, 1) := by decide +kernel
theorem dX1_kindOf_39 : decode cX1_kindOf 39 = .ok (.iload_n 3, 1) := by decide +kernel
theorem dX1_kindOf_40 : decode cX1_kindOf 40 = .ok (.aload_n 1, 1) := by decide +kernel
theorem dX1_kindOf_41 : decode cX1_kindOf 41 = .ok (.getfield 40, 3) := by decide +kernel
theorem dX1_kindOf_44 : decode cX1_kindOf 44 = .ok (.iconst 1, 1) := by decide +kernel
theorem dX1_kindOf_45 : decode cX1_kindOf 45 = .ok (.isub, 1) := by decide +kernel
theorem dX1_kindOf_46 : decode cX1_kindOf 46 = .ok (.if_icmp .ne 7, 3) := by decide +kernel
theorem dX1_kindOf_49 : decode cX1_kindOf 49 = .ok (.iconst 3, 1) := by decide +kernel
theorem dX1_kindOf_50 : decode cX1_kindOf 50 = .ok (.goto 4, 3) := by decide +kernel
theorem dX1_kindOf_53 : decode cX1_kindOf 53 = .ok (.iconst 4, 1) := by decide +kernel
theorem dX1_kindOf_54 : decode cX1_kindOf 54 = .ok (.ireturn, 1) := by decide +kernel
theorem dX1_suffering_0 : decode cX1_suffering 0 = .ok (.aload_n 0, 1) := by decide +kernel
theorem dX1_suffering_1 : decode cX1_suffering 1 = .ok (.aload_n 1, 1) := by decide +kernel
theorem dX1_suffering_2 : decode cX1_suffering 2 = .ok (.iload_n 2, 1) := by decide +kernel
theorem dX1_suffering_3 : decode cX1_suffering 3 = .ok (.iload_n 3, 1) := by decide +kernel
theorem dX1_suffering_4 : decode cX1_suffering 4 = .ok (.iload 4, 2) := by decide +kernel
theorem dX1_suffering_6 : decode cX1_suffering 6 = .ok (.invokevirtual 89, 3) := by decide +kernel
theorem dX1_suffering_9 : decode cX1_suffering 9 = .ok (.istore 5, 2) := by decide +kernel
theorem dX1_suffering_11 : decode cX1_suffering 11 = .ok (.iload 5, 2) := by decide +kernel
theorem dX1_suffering_13 : decode cX1_suffering 13 = .ok (.iconst 1, 1) := by decide +kernel
theorem dX1_suffering_14 : decode cX1_suffering 14 = .ok (.if_icmp .ne 5, 3) := by decide +kernel
theorem dX1_suffering_17 : decode cX1_suffering 17 = .ok (.iconst 0, 1) := by decide +kernel
theorem dX1_suffering_18 : decode cX1_suffering 18 = .ok (.ireturn, 1) := by decide +kernel
theorem dX1_suffering_19 : decode cX1_suffering 19 = .ok (.aload_n 0, 1) := by decide +kernel
theorem dX1_suffering_20 : decode cX1_suffering 20 = .ok (.aload_n 1, 1) := by decide +kernel
theorem dX1_suffering_21 : decode cX1_suffering 21 = .ok (.iload_n 2, 1) := by decide +kernel
theorem dX1_suffering_22 : decode cX1_suffering 22 = .ok (.iload_n 3, 1) := by decide +kernel
theorem dX1_suffering_23 : decode cX1_suffering 23 = .ok (.iload 4, 2) := by decide +kernel
theorem dX1_suffering_25 : decode cX1_suffering 25 = .ok (.invokevirtual 53, 3) := by decide +kernel
theorem dX1_suffering_28 : decode cX1_suffering 28 = .ok (.iload 5, 2) := by decide +kernel
theorem dX1_suffering_30 : decode cX1_suffering 30 = .ok (.ifCond .ne 13, 3) := by decide +kernel
theorem dX1_suffering_33 : decode cX1_suffering 33 = .ok (.aload_n 0, 1) := by decide +kernel
theorem dX1_suffering_34 : decode cX1_suffering 34 = .ok (.iconst 0, 1) := by decide +kernel
theorem dX1_suffering_35 : decode cX1_suffering 35 = .ok (.aload_n 1, 1) := by decide +kernel
theorem dX1_suffering_36 : decode cX1_suffering 36 = .ok (.getfield 93, 3) := by decide +kernel
theorem dX1_suffering_39 : decode cX1_suffering 39 = .ok (.invokevirtual 96, 3) := by decide +kernel
theorem dX1_suffering_42 : decode cX1_suffering 42 = .ok (.ireturn, 1) := by decide +kernel
theorem dX1_suffering_43 : decode cX1_suffering 43 = .ok (.aload_n 0, 1) := by decide +kernel
theorem dX1_suffering_44 : decode cX1_suffering 44 = .ok (.iconst 0, 1) := by decide +kernel
theorem dX1_suffering_45 : decode cX1_suffering 45 = .ok (.aload_n 0, 1) := by decide +kernel
theorem dX1_suffering_46 : decode cX1_suffering 46 = .ok (.getfield 21, 3) := by decide +kernel
theorem dX1_suffering_49 : decode cX1_suffering 49 = .ok (.iload 4, 2) := by decide +kernel
theorem dX1_suffering_51 : decode cX1_suffering 51 = .ok (.invokevirtual 25, 3) := by decide +kernel
theorem dX1_suffering_54 : decode cX1_suffering 54 = .ok (.invokevirtual 96, 3) := by decide +kernel
theorem dX1_suffering_57 : decode cX1_suffering 57 = .ok (.istore 6, 2) := by decide +kernel
theorem dX1_suffering_59 : decode cX1_suffering 59 = .ok (.aload_n 1, 1) := by decide +kernel
theorem dX1_suffering_60 : decode cX1_suffering 60 = .ok (.iload 4, 2) := by decide +kernel
theorem dX1_suffering_62 : decode cX1_suffering 62 = .ok (.invokevirtual 43, 3) := by decide +kernel
theorem dX1_suffering_65 : decode cX1_suffering 65 = .ok (.ifCond .eq 26, 3) := by decide +kernel
theorem dX1_suffering_68 : decode cX1_suffering 68 = .ok (.iconst 0, 1) := by decide +kernel
theorem dX1_suffering_69 : decode cX1_suffering 69 = .ok (.iload 6, 2) := by decide +kernel
theorem dX1_suffering_71 : decode cX1_suffering 71 = .ok (.aload_n 0, 1) := by decide +kernel
theorem dX1_suffering_72 : decode cX1_suffering 72 = .ok (.iconst 1, 1) := by decide +kernel
theorem dX1_suffering_73 : decode cX1_suffering 73 = .ok (.aload_n 0, 1) := by decide +kernel
theorem dX1_suffering_74 : decode cX1_suffering 74 = .ok (.getfield 21, 3) := by decide +kernel
theorem dX1_suffering_77 : decode cX1_suffering 77 = .ok (.iload 4, 2) := by decide +kernel
theorem dX1_suffering_79 : decode cX1_suffering 79 = .ok (.invokevirtual 25, 3) := by decide +kernel
theorem dX1_suffering_82 : decode cX1_suffering 82 = .ok (.invokevirtual 96, 3) := by decide +kernel
theorem dX1_suffering_85 : decode cX1_suffering 85 = .ok (.isub, 1) := by decide +kernel
theorem dX1_suffering_86 : decode cX1_suffering 86 = .ok (.invokestatic 69, 3) := by decide +kernel
theorem dX1_suffering_89 : decode cX1_suffering 89 = .ok (.istore 6, 2) := by decide +kernel
theorem dX1_suffering_91 : decode cX1_suffering 91 = .ok (.iload 5, 2) := by decide +kernel
theorem dX1_suffering_93 : decode cX1_suffering 93 = .ok (.iconst 2, 1) := by decide +kernel
theorem dX1_suffering_94 : decode cX1_suffering 94 = .ok (.if_icmp .ne 8, 3) := by decide +kernel
theorem dX1_suffering_97 : decode cX1_suffering 97 = .ok (.iload 6, 2) := by decide +kernel
theorem dX1_suffering_99 : decode cX1_suffering 99 = .ok (.iconst 2, 1) := by decide +kernel
theorem dX1_suffering_100 : decode cX1_suffering 100 = .ok (.idiv, 1) := by decide +kernel
theorem dX1_suffering_101 : decode cX1_suffering 101 = .ok (.ireturn, 1) := by decide +kernel
theorem dX1_suffering_102 : decode cX1_suffering 102 = .ok (.iload 5, 2) := by decide +kernel
theorem dX1_suffering_104 : decode cX1_suffering 104 = .ok (.iconst 3, 1) := by decide +kernel
theorem dX1_suffering_105 : decode cX1_suffering 105 = .ok (.if_icmp .ne 19, 3) := by decide +kernel
theorem dX1_suffering_108 : decode cX1_suffering 108 = .ok (.iload 6, 2) := by decide +kernel
theorem dX1_suffering_110 : decode cX1_suffering 110 = .ok (.aload_n 0, 1) := by decide +kernel
theorem dX1_suffering_111 : decode cX1_suffering 111 = .ok (.getfield 21, 3) := by decide +kernel
theorem dX1_suffering_114 : decode cX1_suffering 114 = .ok (.iload_n 2, 1) := by decide +kernel
theorem dX1_suffering_115 : decode cX1_suffering 115 = .ok (.invokevirtual 25, 3) := by decide +kernel
theorem dX1_suffering_118 : decode cX1_suffering 118 = .ok (.iconst 4, 1) := by decide +kernel
theorem dX1_suffering_119 : decode cX1_suffering 119 = .ok (.idiv, 1) := by decide +kernel
theorem dX1_suffering_120 : decode cX1_suffering 120 = .ok (.iadd, 1) := by decide +kernel
theorem dX1_suffering_121 : decode cX1_suffering 121 = .ok (.goto 5, 3) := by decide +kernel
theorem dX1_suffering_124 : decode cX1_suffering 124 = .ok (.iload 6, 2) := by decide +kernel
theorem dX1_suffering_126 : decode cX1_suffering 126 = .ok (.ireturn, 1) := by decide +kernel
theorem dX1_sufferingAt_0 : decode cX1_sufferingAt 0 = .ok (.aload_n 0, 1) := by decide +kernel
theorem dX1_sufferingAt_1 : decode cX1_sufferingAt 1 = .ok (.aload_n 1, 1) := by decide +kernel
theorem dX1_sufferingAt_2 : decode cX1_sufferingAt 2 = .ok (.aload_n 1, 1) := by decide +kernel
theorem dX1_sufferingAt_3 : decode cX1_sufferingAt 3 = .ok (.iload_n 2, 1) := by decide +kernel
theorem dX1_sufferingAt_4 : decode cX1_sufferingAt 4 = .ok (.invokevirtual 99, 3) := by decide +kernel
theorem dX1_sufferingAt_7 : decode cX1_sufferingAt 7 = .ok (.iload_n 2, 1) := by decide +kernel
theorem dX1_sufferingAt_8 : decode cX1_sufferingAt 8 = .ok (.aload_n 1, 1) := by decide +kernel
theorem dX1_sufferingAt_9 : decode cX1_sufferingAt 9 = .ok (.iload_n 2, 1) := by decide +kernel
theorem dX1_sufferingAt_10 : decode cX1_sufferingAt 10 = .ok (.invokevirtual 57, 3) := by decide +kernel
theorem dX1_sufferingAt_13 : decode cX1_sufferingAt 13 = .ok (.invokevirtual 102, 3) := by decide +kernel
theorem dX1_sufferingAt_16 : decode cX1_sufferingAt 16 = .ok (.ireturn, 1) := by decide +kernel
theorem dX1_due_0 : decode cX1_due 0 = .ok (.aload_n 0, 1) := by decide +kernel
theorem dX1_due_1 : decode cX1_due 1 = .ok (.aload_n 1, 1) := by decide +kernel
theorem dX1_due_2 : decode cX1_due 2 = .ok (.iload_n 2, 1) := by decide +kernel
theorem dX1_due_3 : decode cX1_due 3 = .ok (.iload_n 3, 1) := by decide +kernel
theorem dX1_due_4 : decode cX1_due 4 = .ok (.iload 4, 2) := by decide +kernel
theorem dX1_due_6 : decode cX1_due 6 = .ok (.invokevirtual 53, 3) := by decide +kernel
theorem dX1_due_9 : decode cX1_due 9 = .ok (.aload_n 0, 1) := by decide +kernel
theorem dX1_due_10 : decode cX1_due 10 = .ok (.iconst 0, 1) := by decide +kernel
theorem dX1_due_11 : decode cX1_due 11 = .ok (.aload_n 0, 1) := by decide +kernel
theorem dX1_due_12 : decode cX1_due 12 = .ok (.getfield 21, 3) := by decide +kernel
theorem dX1_due_15 : decode cX1_due 15 = .ok (.iload_n 2, 1) := by decide +kernel
theorem dX1_due_16 : decode cX1_due 16 = .ok (.invokevirtual 25, 3) := by decide +kernel
theorem dX1_due_19 : decode cX1_due 19 = .ok (.invokevirtual 96, 3) := by decide +kernel
theorem dX1_due_22 : decode cX1_due 22 = .ok (.ireturn, 1) := by decide +kernel
theorem dX1_dueAsListed_0 : decode cX1_dueAsListed 0 = .ok (.aload_n 0, 1) := by decide +kernel
theorem dX1_dueAsListed_1 : decode cX1_dueAsListed 1 = .ok (.aload_n 1, 1) := by decide +kernel
theorem dX1_dueAsListed_2 : decode cX1_dueAsListed 2 = .ok (.iload_n 2, 1) := by decide +kernel
theorem dX1_dueAsListed_3 : decode cX1_dueAsListed 3 = .ok (.invokevirtual 72, 3) := by decide +kernel
theorem dX1_dueAsListed_6 : decode cX1_dueAsListed 6 = .ok (.aload_n 0, 1) := by decide +kernel
theorem dX1_dueAsListed_7 : decode cX1_dueAsListed 7 = .ok (.iconst 0, 1) := by decide +kernel
theorem dX1_dueAsListed_8 : decode cX1_dueAsListed 8 = .ok (.aload_n 0, 1) := by decide +kernel
theorem dX1_dueAsListed_9 : decode cX1_dueAsListed 9 = .ok (.getfield 21, 3) := by decide +kernel
theorem dX1_dueAsListed_12 : decode cX1_dueAsListed 12 = .ok (.iload_n 2, 1) := by decide +kernel
theorem dX1_dueAsListed_13 : decode cX1_dueAsListed 13 = .ok (.invokevirtual 25, 3) := by decide +kernel
theorem dX1_dueAsListed_16 : decode cX1_dueAsListed 16 = .ok (.invokevirtual 96, 3) := by decide +kernel
theorem dX1_dueAsListed_19 : decode cX1_dueAsListed 19 = .ok (.ireturn, 1) := by decide +kernel
theorem dX1_allSuffering_0 : decode cX1_allSuffering 0 = .ok (.iconst 0, 1) := by decide +kernel
theorem dX1_allSuffering_1 : decode cX1_allSuffering 1 = .ok (.istore_n 2, 1) := by decide +kernel
theorem dX1_allSuffering_2 : decode cX1_allSuffering 2 = .ok (.iconst 0, 1) := by decide +kernel
theorem dX1_allSuffering_3 : decode cX1_allSuffering 3 = .ok (.istore_n 3, 1) := by decide +kernel
theorem dX1_allSuffering_4 : decode cX1_allSuffering 4 = .ok (.iload_n 3, 1) := by decide +kernel
theorem dX1_allSuffering_5 : decode cX1_allSuffering 5 = .ok (.aload_n 1, 1) := by decide +kernel
theorem dX1_allSuffering_6 : decode cX1_allSuffering 6 = .ok (.getfield 40, 3) := by decide +kernel
theorem dX1_allSuffering_9 : decode cX1_allSuffering 9 = .ok (.if_icmp .ge 18, 3) := by decide +kernel
theorem dX1_allSuffering_12 : decode cX1_allSuffering 12 = .ok (.iload_n 2, 1) := by decide +kernel
theorem dX1_allSuffering_13 : decode cX1_allSuffering 13 = .ok (.aload_n 0, 1) := by decide +kernel
theorem dX1_allSuffering_14 : decode cX1_allSuffering 14 = .ok (.aload_n 1, 1) := by decide +kernel
theorem dX1_allSuffering_15 : decode cX1_allSuffering 15 = .ok (.iload_n 3, 1) := by decide +kernel
theorem dX1_allSuffering_16 : decode cX1_allSuffering 16 = .ok (.invokevirtual 105, 3) := by decide +kernel
theorem dX1_allSuffering_19 : decode cX1_allSuffering 19 = .ok (.iadd, 1) := by decide +kernel
theorem dX1_allSuffering_20 : decode cX1_allSuffering 20 = .ok (.istore_n 2, 1) := by decide +kernel
theorem dX1_allSuffering_21 : decode cX1_allSuffering 21 = .ok (.iinc 3 1, 3) := by decide +kernel
theorem dX1_allSuffering_24 : decode cX1_allSuffering 24 = .ok (.goto (-20), 3) := by decide +kernel
theorem dX1_allSuffering_27 : decode cX1_allSuffering 27 = .ok (.iload_n 2, 1) := by decide +kernel
theorem dX1_allSuffering_28 : decode cX1_allSuffering 28 = .ok (.ireturn, 1) := by decide +kernel
theorem dX1_worstSuffering_0 : decode cX1_worstSuffering 0 = .ok (.iconst 0, 1) := by decide +kernel
theorem dX1_worstSuffering_1 : decode cX1_worstSuffering 1 = .ok (.istore_n 2, 1) := by decide +kernel
theorem dX1_worstSuffering_2 : decode cX1_worstSuffering 2 = .ok (.iconst 0, 1) := by decide +kernel
theorem dX1_worstSuffering_3 : decode cX1_worstSuffering 3 = .ok (.istore_n 3, 1) := by decide +kernel
theorem dX1_worstSuffering_4 : decode cX1_worstSuffering 4 = .ok (.iload_n 3, 1) := by decide +kernel
theorem dX1_worstSuffering_5 : decode cX1_worstSuffering 5 = .ok (.aload_n 1, 1) := by decide +kernel
theorem dX1_worstSuffering_6 : decode cX1_worstSuffering 6 = .ok (.getfield 40, 3) := by decide +kernel
theorem dX1_worstSuffering_9 : decode cX1_worstSuffering 9 = .ok (.if_icmp .ge 20, 3) := by decide +kernel
theorem dX1_worstSuffering_12 : decode cX1_worstSuffering 12 = .ok (.iload_n 2, 1) := by decide +kernel
theorem dX1_worstSuffering_13 : decode cX1_worstSuffering 13 = .ok (.aload_n 0, 1) := by decide +kernel
theorem dX1_worstSuffering_14 : decode cX1_worstSuffering 14 = .ok (.aload_n 1, 1) := by decide +kernel
theorem dX1_worstSuffering_15 : decode cX1_worstSuffering 15 = .ok (.iload_n 3, 1) := by decide +kernel
theorem dX1_worstSuffering_16 : decode cX1_worstSuffering 16 = .ok (.invokevirtual 105, 3) := by decide +kernel
theorem dX1_worstSuffering_19 : decode cX1_worstSuffering 19 = .ok (.invokestatic 69, 3) := by decide +kernel
theorem dX1_worstSuffering_22 : decode cX1_worstSuffering 22 = .ok (.istore_n 2, 1) := by decide +kernel
theorem dX1_worstSuffering_23 : decode cX1_worstSuffering 23 = .ok (.iinc 3 1, 3) := by decide +kernel
theorem dX1_worstSuffering_26 : decode cX1_worstSuffering 26 = .ok (.goto (-22), 3) := by decide +kernel
theorem dX1_worstSuffering_29 : decode cX1_worstSuffering 29 = .ok (.iload_n 2, 1) := by decide +kernel
theorem dX1_worstSuffering_30 : decode cX1_worstSuffering 30 = .ok (.ireturn, 1) := by decide +kernel
theorem dX1_allDue_0 : decode cX1_allDue 0 = .ok (.iconst 0, 1) := by decide +kernel
theorem dX1_allDue_1 : decode cX1_allDue 1 = .ok (.istore_n 2, 1) := by decide +kernel
theorem dX1_allDue_2 : decode cX1_allDue 2 = .ok (.iconst 0, 1) := by decide +kernel
theorem dX1_allDue_3 : decode cX1_allDue 3 = .ok (.istore_n 3, 1) := by decide +kernel
theorem dX1_allDue_4 : decode cX1_allDue 4 = .ok (.iload_n 3, 1) := by decide +kernel
theorem dX1_allDue_5 : decode cX1_allDue 5 = .ok (.aload_n 1, 1) := by decide +kernel
theorem dX1_allDue_6 : decode cX1_allDue 6 = .ok (.getfield 40, 3) := by decide +kernel
theorem dX1_allDue_9 : decode cX1_allDue 9 = .ok (.if_icmp .ge 22, 3) := by decide +kernel
theorem dX1_allDue_12 : decode cX1_allDue 12 = .ok (.iload_n 2, 1) := by decide +kernel
theorem dX1_allDue_13 : decode cX1_allDue 13 = .ok (.aload_n 0, 1) := by decide +kernel
theorem dX1_allDue_14 : decode cX1_allDue 14 = .ok (.aload_n 1, 1) := by decide +kernel
theorem dX1_allDue_15 : decode cX1_allDue 15 = .ok (.aload_n 1, 1) := by decide +kernel
theorem dX1_allDue_16 : decode cX1_allDue 16 = .ok (.iload_n 3, 1) := by decide +kernel
theorem dX1_allDue_17 : decode cX1_allDue 17 = .ok (.invokevirtual 99, 3) := by decide +kernel
theorem dX1_allDue_20 : decode cX1_allDue 20 = .ok (.invokevirtual 109, 3) := by decide +kernel
theorem dX1_allDue_23 : decode cX1_allDue 23 = .ok (.iadd, 1) := by decide +kernel
theorem dX1_allDue_24 : decode cX1_allDue 24 = .ok (.istore_n 2, 1) := by decide +kernel
theorem dX1_allDue_25 : decode cX1_allDue 25 = .ok (.iinc 3 1, 3) := by decide +kernel
theorem dX1_allDue_28 : decode cX1_allDue 28 = .ok (.goto (-24), 3) := by decide +kernel
theorem dX1_allDue_31 : decode cX1_allDue 31 = .ok (.iload_n 2, 1) := by decide +kernel
theorem dX1_allDue_32 : decode cX1_allDue 32 = .ok (.ireturn, 1) := by decide +kernel
theorem dX1_goThrough_0 : decode cX1_goThrough 0 = .ok (.iconst 0, 1) := by decide +kernel
theorem dX1_goThrough_1 : decode cX1_goThrough 1 = .ok (.istore 4, 2) := by decide +kernel
theorem dX1_goThrough_3 : decode cX1_goThrough 3 = .ok (.iload 4, 2) := by decide +kernel
theorem dX1_goThrough_5 : decode cX1_goThrough 5 = .ok (.iload_n 2, 1) := by decide +kernel
theorem dX1_goThrough_6 : decode cX1_goThrough 6 = .ok (.if_icmp .ge 15, 3) := by decide +kernel
theorem dX1_goThrough_9 : decode cX1_goThrough 9 = .ok (.aload_n 0, 1) := by decide +kernel
theorem dX1_goThrough_10 : decode cX1_goThrough 10 = .ok (.aload_n 1, 1) := by decide +kernel
theorem dX1_goThrough_11 : decode cX1_goThrough 11 = .ok (.iload_n 3, 1) := by decide +kernel
theorem dX1_goThrough_12 : decode cX1_goThrough 12 = .ok (.invokevirtual 112, 3) := by decide +kernel
theorem dX1_goThrough_15 : decode cX1_goThrough 15 = .ok (.iinc 4 1, 3) := by decide +kernel
theorem dX1_goThrough_18 : decode cX1_goThrough 18 = .ok (.goto (-15), 3) := by decide +kernel
theorem dX1_goThrough_21 : decode cX1_goThrough 21 = .ok (.return_, 1) := by decide +kernel
theorem dX1_sitOnce_0 : decode cX1_sitOnce 0 = .ok (.iconst 0, 1) := by decide +kernel
theorem dX1_sitOnce_1 : decode cX1_sitOnce 1 = .ok (.istore_n 3, 1) := by decide +kernel
theorem dX1_sitOnce_2 : decode cX1_sitOnce 2 = .ok (.iconst 0, 1) := by decide +kernel
theorem dX1_sitOnce_3 : decode cX1_sitOnce 3 = .ok (.istore 4, 2) := by decide +kernel
theorem dX1_sitOnce_5 : decode cX1_sitOnce 5 = .ok (.iload 4, 2) := by decide +kernel
theorem dX1_sitOnce_7 : decode cX1_sitOnce 7 = .ok (.aload_n 1, 1) := by decide +kernel
theorem dX1_sitOnce_8 : decode cX1_sitOnce 8 = .ok (.getfield 40, 3) := by decide +kernel
theorem dX1_sitOnce_11 : decode cX1_sitOnce 11 = .ok (.if_icmp .ge 77, 3) := by decide +kernel
theorem dX1_sitOnce_14 : decode cX1_sitOnce 14 = .ok (.iload 4, 2) := by decide +kernel
theorem dX1_sitOnce_16 : decode cX1_sitOnce 16 = .ok (.bipush 7, 2) := by decide +kernel
theorem dX1_sitOnce_18 : decode cX1_sitOnce 18 = .ok (.if_icmp .ge 70, 3) := by decide +kernel
theorem dX1_sitOnce_21 : decode cX1_sitOnce 21 = .ok (.aload_n 1, 1) := by decide +kernel
theorem dX1_sitOnce_22 : decode cX1_sitOnce 22 = .ok (.iload 4, 2) := by decide +kernel
theorem dX1_sitOnce_24 : decode cX1_sitOnce 24 = .ok (.invokevirtual 99, 3) := by decide +kernel
theorem dX1_sitOnce_27 : decode cX1_sitOnce 27 = .ok (.istore 5, 2) := by decide +kernel
theorem dX1_sitOnce_29 : decode cX1_sitOnce 29 = .ok (.aload_n 0, 1) := by decide +kernel
theorem dX1_sitOnce_30 : decode cX1_sitOnce 30 = .ok (.getfield 18, 3) := by decide +kernel
theorem dX1_sitOnce_33 : decode cX1_sitOnce 33 = .ok (.iload 4, 2) := by decide +kernel
theorem dX1_sitOnce_35 : decode cX1_sitOnce 35 = .ok (.aload_n 0, 1) := by decide +kernel
theorem dX1_sitOnce_36 : decode cX1_sitOnce 36 = .ok (.aload_n 1, 1) := by decide +kernel
theorem dX1_sitOnce_37 : decode cX1_sitOnce 37 = .ok (.iload 5, 2) := by decide +kernel
theorem dX1_sitOnce_39 : decode cX1_sitOnce 39 = .ok (.iload 4, 2) := by decide +kernel
theorem dX1_sitOnce_41 : decode cX1_sitOnce 41 = .ok (.aload_n 1, 1) := by decide +kernel
theorem dX1_sitOnce_42 : decode cX1_sitOnce 42 = .ok (.iload 4, 2) := by decide +kernel
theorem dX1_sitOnce_44 : decode cX1_sitOnce 44 = .ok (.invokevirtual 57, 3) := by decide +kernel
theorem dX1_sitOnce_47 : decode cX1_sitOnce 47 = .ok (.invokevirtual 102, 3) := by decide +kernel
theorem dX1_sitOnce_50 : decode cX1_sitOnce 50 = .ok (.iastore, 1) := by decide +kernel
theorem dX1_sitOnce_51 : decode cX1_sitOnce 51 = .ok (.iload_n 2, 1) := by decide +kernel
theorem dX1_sitOnce_52 : decode cX1_sitOnce 52 = .ok (.bipush 8, 2) := by decide +kernel
theorem dX1_sitOnce_54 : decode cX1_sitOnce 54 = .ok (.aload_n 1, 1) := by decide +kernel
theorem dX1_sitOnce_55 : decode cX1_sitOnce 55 = .ok (.getfield 36, 3) := by decide +kernel
theorem dX1_sitOnce_58 : decode cX1_sitOnce 58 = .ok (.imul, 1) := by decide +kernel
theorem dX1_sitOnce_59 : decode cX1_sitOnce 59 = .ok (.iload 5, 2) := by decide +kernel
theorem dX1_sitOnce_61 : decode cX1_sitOnce 61 = .ok (.iadd, 1) := by decide +kernel
theorem dX1_sitOnce_62 : decode cX1_sitOnce 62 = .ok (.invokestatic 115, 3) := by decide +kernel
theorem dX1_sitOnce_65 : decode cX1_sitOnce 65 = .ok (.aload_n 0, 1) := by decide +kernel
theorem dX1_sitOnce_66 : decode cX1_sitOnce 66 = .ok (.aload_n 1, 1) := by decide +kernel
theorem dX1_sitOnce_67 : decode cX1_sitOnce 67 = .ok (.iload 5, 2) := by decide +kernel
theorem dX1_sitOnce_69 : decode cX1_sitOnce 69 = .ok (.invokevirtual 118, 3) := by decide +kernel
theorem dX1_sitOnce_72 : decode cX1_sitOnce 72 = .ok (.if_icmp .ge 10, 3) := by decide +kernel
theorem dX1_sitOnce_75 : decode cX1_sitOnce 75 = .ok (.iload_n 3, 1) := by decide +kernel
theorem dX1_sitOnce_76 : decode cX1_sitOnce 76 = .ok (.iconst 1, 1) := by decide +kernel
theorem dX1_sitOnce_77 : decode cX1_sitOnce 77 = .ok (.iload 4, 2) := by decide +kernel
theorem dX1_sitOnce_79 : decode cX1_sitOnce 79 = .ok (.ishl, 1) := by decide +kernel
theorem dX1_sitOnce_80 : decode cX1_sitOnce 80 = .ok (.ior, 1) := by decide +kernel
theorem dX1_sitOnce_81 : decode cX1_sitOnce 81 = .ok (.istore_n 3, 1) := by decide +kernel
theorem dX1_sitOnce_82 : decode cX1_sitOnce 82 = .ok (.iinc 4 1, 3) := by decide +kernel
theorem dX1_sitOnce_85 : decode cX1_sitOnce 85 = .ok (.goto (-80), 3) := by decide +kernel
theorem dX1_sitOnce_88 : decode cX1_sitOnce 88 = .ok (.aload_n 1, 1) := by decide +kernel
theorem dX1_sitOnce_89 : decode cX1_sitOnce 89 = .ok (.getfield 40, 3) := by decide +kernel
theorem dX1_sitOnce_92 : decode cX1_sitOnce 92 = .ok (.istore 4, 2) := by decide +kernel
theorem dX1_sitOnce_94 : decode cX1_sitOnce 94 = .ok (.aload_n 1, 1) := by decide +kernel
theorem dX1_sitOnce_95 : decode cX1_sitOnce 95 = .ok (.iconst 0, 1) := by decide +kernel
theorem dX1_sitOnce_96 : decode cX1_sitOnce 96 = .ok (.putfield 40, 3) := by decide +kernel
theorem dX1_sitOnce_99 : decode cX1_sitOnce 99 = .ok (.iconst 0, 1) := by decide +kernel
theorem dX1_sitOnce_100 : decode cX1_sitOnce 100 = .ok (.istore 5, 2) := by decide +kernel
theorem dX1_sitOnce_102 : decode cX1_sitOnce 102 = .ok (.iload 5, 2) := by decide +kernel
theorem dX1_sitOnce_104 : decode cX1_sitOnce 104 = .ok (.iload 4, 2) := by decide +kernel
theorem dX1_sitOnce_106 : decode cX1_sitOnce 106 = .ok (.if_icmp .ge 97, 3) := by decide +kernel
theorem dX1_sitOnce_109 : decode cX1_sitOnce 109 = .ok (.iload 5, 2) := by decide +kernel
theorem dX1_sitOnce_111 : decode cX1_sitOnce 111 = .ok (.bipush 7, 2) := by decide +kernel
theorem dX1_sitOnce_113 : decode cX1_sitOnce 113 = .ok (.if_icmp .ge 90, 3) := by decide +kernel
theorem dX1_sitOnce_116 : decode cX1_sitOnce 116 = .ok (.aload_n 1, 1) := by decide +kernel
theorem dX1_sitOnce_117 : decode cX1_sitOnce 117 = .ok (.getfield 121, 3) := by decide +kernel
theorem dX1_sitOnce_120 : decode cX1_sitOnce 120 = .ok (.iload 5, 2) := by decide +kernel
theorem dX1_sitOnce_122 : decode cX1_sitOnce 122 = .ok (.iaload, 1) := by decide +kernel
theorem dX1_sitOnce_123 : decode cX1_sitOnce 123 = .ok (.istore 6, 2) := by decide +kernel
theorem dX1_sitOnce_125 : decode cX1_sitOnce 125 = .ok (.iload_n 3, 1) := by decide +kernel
theorem dX1_sitOnce_126 : decode cX1_sitOnce 126 = .ok (.iload 5, 2) := by decide +kernel
theorem dX1_sitOnce_128 : decode cX1_sitOnce 128 = .ok (.ishr, 1) := by decide +kernel
theorem dX1_sitOnce_129 : decode cX1_sitOnce 129 = .ok (.iconst 1, 1) := by decide +kernel
theorem dX1_sitOnce_130 : decode cX1_sitOnce 130 = .ok (.iand, 1) := by decide +kernel
theorem dX1_sitOnce_131 : decode cX1_sitOnce 131 = .ok (.iconst 1, 1) := by decide +kernel
theorem dX1_sitOnce_132 : decode cX1_sitOnce 132 = .ok (.if_icmp .ne 12, 3) := by decide +kernel
theorem dX1_sitOnce_135 : decode cX1_sitOnce 135 = .ok (.aload_n 1, 1) := by decide +kernel
theorem dX1_sitOnce_136 : decode cX1_sitOnce 136 = .ok (.iload 6, 2) := by decide +kernel
theorem dX1_sitOnce_138 : decode cX1_sitOnce 138 = .ok (.invokevirtual 124, 3) := by decide +kernel
theorem dX1_sitOnce_141 : decode cX1_sitOnce 141 = .ok (.goto 56, 3) := by decide +kernel
theorem dX1_sitOnce_144 : decode cX1_sitOnce 144 = .ok (.aload_n 0, 1) := by decide +kernel
theorem dX1_sitOnce_145 : decode cX1_sitOnce 145 = .ok (.getfield 21, 3) := by decide +kernel
theorem dX1_sitOnce_148 : decode cX1_sitOnce 148 = .ok (.iload 6, 2) := by decide +kernel
theorem dX1_sitOnce_150 : decode cX1_sitOnce 150 = .ok (.invokevirtual 128, 3) := by decide +kernel
theorem dX1_sitOnce_153 : decode cX1_sitOnce 153 = .ok (.ifCond .eq 44, 3) := by decide +kernel
theorem dX1_sitOnce_156 : decode cX1_sitOnce 156 = .ok (.aload_n 1, 1) := by decide +kernel
theorem dX1_sitOnce_157 : decode cX1_sitOnce 157 = .ok (.getfield 131, 3) := by decide +kernel
theorem dX1_sitOnce_160 : decode cX1_sitOnce 160 = .ok (.iload 6, 2) := by decide +kernel
theorem dX1_sitOnce_162 : decode cX1_sitOnce 162 = .ok (.dup2, 1) := by decide +kernel
theorem dX1_sitOnce_163 : decode cX1_sitOnce 163 = .ok (.iaload, 1) := by decide +kernel
theorem dX1_sitOnce_164 : decode cX1_sitOnce 164 = .ok (.aload_n 0, 1) := by decide +kernel
theorem dX1_sitOnce_165 : decode cX1_sitOnce 165 = .ok (.getfield 18, 3) := by decide +kernel
theorem dX1_sitOnce_168 : decode cX1_sitOnce 168 = .ok (.iload 5, 2) := by decide +kernel
theorem dX1_sitOnce_170 : decode cX1_sitOnce 170 = .ok (.iaload, 1) := by decide +kernel
theorem dX1_sitOnce_171 : decode cX1_sitOnce 171 = .ok (.iadd, 1) := by decide +kernel
theorem dX1_sitOnce_172 : decode cX1_sitOnce 172 = .ok (.iastore, 1) := by decide +kernel
theorem dX1_sitOnce_173 : decode cX1_sitOnce 173 = .ok (.aload_n 1, 1) := by decide +kernel
theorem dX1_sitOnce_174 : decode cX1_sitOnce 174 = .ok (.aload_n 0, 1) := by decide +kernel
theorem dX1_sitOnce_175 : decode cX1_sitOnce 175 = .ok (.getfield 21, 3) := by decide +kernel
theorem dX1_sitOnce_178 : decode cX1_sitOnce 178 = .ok (.getfield 134, 3) := by decide +kernel
theorem dX1_sitOnce_181 : decode cX1_sitOnce 181 = .ok (.iload 6, 2) := by decide +kernel
theorem dX1_sitOnce_183 : decode cX1_sitOnce 183 = .ok (.iaload, 1) := by decide +kernel
theorem dX1_sitOnce_184 : decode cX1_sitOnce 184 = .ok (.putfield 93, 3) := by decide +kernel
theorem dX1_sitOnce_187 : decode cX1_sitOnce 187 = .ok (.aload_n 1, 1) := by decide +kernel
theorem dX1_sitOnce_188 : decode cX1_sitOnce 188 = .ok (.dup, 1) := by decide +kernel
theorem dX1_sitOnce_189 : decode cX1_sitOnce 189 = .ok (.getfield 47, 3) := by decide +kernel
theorem dX1_sitOnce_192 : decode cX1_sitOnce 192 = .ok (.iconst 1, 1) := by decide +kernel
theorem dX1_sitOnce_193 : decode cX1_sitOnce 193 = .ok (.iadd, 1) := by decide +kernel
theorem dX1_sitOnce_194 : decode cX1_sitOnce 194 = .ok (.putfield 47, 3) := by decide +kernel
theorem dX1_sitOnce_197 : decode cX1_sitOnce 197 = .ok (.iinc 5 1, 3) := by decide +kernel
theorem dX1_sitOnce_200 : decode cX1_sitOnce 200 = .ok (.goto (-98), 3) := by decide +kernel
theorem dX1_sitOnce_203 : decode cX1_sitOnce 203 = .ok (.aload_n 1, 1) := by decide +kernel
theorem dX1_sitOnce_204 : decode cX1_sitOnce 204 = .ok (.iconst 0, 1) := by decide +kernel
theorem dX1_sitOnce_205 : decode cX1_sitOnce 205 = .ok (.putfield 137, 3) := by decide +kernel
theorem dX1_sitOnce_208 : decode cX1_sitOnce 208 = .ok (.aload_n 1, 1) := by decide +kernel
theorem dX1_sitOnce_209 : decode cX1_sitOnce 209 = .ok (.dup, 1) := by decide +kernel
theorem dX1_sitOnce_210 : decode cX1_sitOnce 210 = .ok (.getfield 36, 3) := by decide +kernel
theorem dX1_sitOnce_213 : decode cX1_sitOnce 213 = .ok (.iconst 1, 1) := by decide +kernel
theorem dX1_sitOnce_214 : decode cX1_sitOnce 214 = .ok (.iadd, 1) := by decide +kernel
theorem dX1_sitOnce_215 : decode cX1_sitOnce 215 = .ok (.putfield 36, 3) := by decide +kernel
theorem dX1_sitOnce_218 : decode cX1_sitOnce 218 = .ok (.return_, 1) := by decide +kernel
theorem dX1_lot_0 : decode cX1_lot 0 = .ok (.iload_n 0, 1) := by decide +kernel
theorem dX1_lot_1 : decode cX1_lot 1 = .ok (.sipush 221, 3) := by decide +kernel
theorem dX1_lot_4 : decode cX1_lot 4 = .ok (.invokestatic 140, 3) := by decide +kernel
theorem dX1_lot_7 : decode cX1_lot 7 = .ok (.iload_n 1, 1) := by decide +kernel
theorem dX1_lot_8 : decode cX1_lot 8 = .ok (.invokestatic 140, 3) := by decide +kernel
theorem dX1_lot_11 : decode cX1_lot 11 = .ok (.istore_n 2, 1) := by decide +kernel
theorem dX1_lot_12 : decode cX1_lot 12 = .ok (.iload_n 2, 1) := by decide +kernel
theorem dX1_lot_13 : decode cX1_lot 13 = .ok (.iconst 1, 1) := by decide +kernel
theorem dX1_lot_14 : decode cX1_lot 14 = .ok (.iushr, 1) := by decide +kernel
theorem dX1_lot_15 : decode cX1_lot 15 = .ok (.bipush 100, 2) := by decide +kernel
theorem dX1_lot_17 : decode cX1_lot 17 = .ok (.irem, 1) := by decide +kernel
theorem dX1_lot_18 : decode cX1_lot 18 = .ok (.ireturn, 1) := by decide +kernel
theorem dX1_mix_0 : decode cX1_mix 0 = .ok (.iload_n 0, 1) := by decide +kernel
theorem dX1_mix_1 : decode cX1_mix 1 = .ok (.iload_n 1, 1) := by decide +kernel
theorem dX1_mix_2 : decode cX1_mix 2 = .ok (.ixor, 1) := by decide +kernel
theorem dX1_mix_3 : decode cX1_mix 3 = .ok (.ldc 143, 2) := by decide +kernel
theorem dX1_mix_5 : decode cX1_mix 5 = .ok (.imul, 1) := by decide +kernel
theorem dX1_mix_6 : decode cX1_mix 6 = .ok (.sipush 12345, 3) := by decide +kernel
theorem dX1_mix_9 : decode cX1_mix 9 = .ok (.iadd, 1) := by decide +kernel
theorem dX1_mix_10 : decode cX1_mix 10 = .ok (.istore_n 2, 1) := by decide +kernel
theorem dX1_mix_11 : decode cX1_mix 11 = .ok (.iload_n 2, 1) := by decide +kernel
theorem dX1_mix_12 : decode cX1_mix 12 = .ok (.iload_n 2, 1) := by decide +kernel
theorem dX1_mix_13 : decode cX1_mix 13 = .ok (.bipush 15, 2) := by decide +kernel
theorem dX1_mix_15 : decode cX1_mix 15 = .ok (.iushr, 1) := by decide +kernel
theorem dX1_mix_16 : decode cX1_mix 16 = .ok (.ixor, 1) := by decide +kernel
theorem dX1_mix_17 : decode cX1_mix 17 = .ok (.ireturn, 1) := by decide +kernel
theorem dX2_init_0 : decode cX2_init 0 = .ok (.aload_n 0, 1) := by decide +kernel
theorem dX2_init_1 : decode cX2_init 1 = .ok (.invokespecial 3, 3) := by decide +kernel
theorem dX2_init_4 : decode cX2_init 4 = .ok (.aload_n 0, 1) := by decide +kernel
theorem dX2_init_5 : decode cX2_init 5 = .ok (.sipush 448, 3) := by decide +kernel
theorem dX2_init_8 : decode cX2_init 8 = .ok (.newarray .int, 2) := by decide +kernel
theorem dX2_init_10 : decode cX2_init 10 = .ok (.putfield 9, 3) := by decide +kernel
theorem dX2_init_13 : decode cX2_init 13 = .ok (.aload_n 0, 1) := by decide +kernel
theorem dX2_init_14 : decode cX2_init 14 = .ok (.sipush 448, 3) := by decide +kernel
theorem dX2_init_17 : decode cX2_init 17 = .ok (.newarray .int, 2) := by decide +kernel
theorem dX2_init_19 : decode cX2_init 19 = .ok (.putfield 15, 3) := by decide +kernel
theorem dX2_init_22 : decode cX2_init 22 = .ok (.aload_n 0, 1) := by decide +kernel
theorem dX2_init_23 : decode cX2_init 23 = .ok (.bipush 7, 2) := by decide +kernel
theorem dX2_init_25 : decode cX2_init 25 = .ok (.newarray .int, 2) := by decide +kernel
theorem dX2_init_27 : decode cX2_init 27 = .ok (.putfield 18, 3) := by decide +kernel
theorem dX2_init_30 : decode cX2_init 30 = .ok (.aload_n 0, 1) := by decide +kernel
theorem dX2_init_31 : decode cX2_init 31 = .ok (.bipush 7, 2) := by decide +kernel
theorem dX2_init_33 : decode cX2_init 33 = .ok (.newarray .int, 2) := by decide +kernel
theorem dX2_init_35 : decode cX2_init 35 = .ok (.putfield 21, 3) := by decide +kernel
theorem dX2_init_38 : decode cX2_init 38 = .ok (.aload_n 0, 1) := by decide +kernel
theorem dX2_init_39 : decode cX2_init 39 = .ok (.aload_n 1, 1) := by decide +kernel
theorem dX2_init_40 : decode cX2_init 40 = .ok (.putfield 24, 3) := by decide +kernel
theorem dX2_init_43 : decode cX2_init 43 = .ok (.return_, 1) := by decide +kernel
theorem dX2_spot_0 : decode cX2_spot 0 = .ok (.iload_n 0, 1) := by decide +kernel
theorem dX2_spot_1 : decode cX2_spot 1 = .ok (.bipush 7, 2) := by decide +kernel
theorem dX2_spot_3 : decode cX2_spot 3 = .ok (.iand, 1) := by decide +kernel
theorem dX2_spot_4 : decode cX2_spot 4 = .ok (.bipush 7, 2) := by decide +kernel
theorem dX2_spot_6 : decode cX2_spot 6 = .ok (.irem, 1) := by decide +kernel
theorem dX2_spot_7 : decode cX2_spot 7 = .ok (.bipush 64, 2) := by decide +kernel
theorem dX2_spot_9 : decode cX2_spot 9 = .ok (.imul, 1) := by decide +kernel
theorem dX2_spot_10 : decode cX2_spot 10 = .ok (.iload_n 1, 1) := by decide +kernel
theorem dX2_spot_11 : decode cX2_spot 11 = .ok (.bipush 7, 2) := by decide +kernel
theorem dX2_spot_13 : decode cX2_spot 13 = .ok (.iand, 1) := by decide +kernel
theorem dX2_spot_14 : decode cX2_spot 14 = .ok (.bipush 8, 2) := by decide +kernel
theorem dX2_spot_16 : decode cX2_spot 16 = .ok (.imul, 1) := by decide +kernel
theorem dX2_spot_17 : decode cX2_spot 17 = .ok (.iadd, 1) := by decide +kernel
theorem dX2_spot_18 : decode cX2_spot 18 = .ok (.iload_n 2, 1) := by decide +kernel
theorem dX2_spot_19 : decode cX2_spot 19 = .ok (.iconst 1, 1) := by decide +kernel
theorem dX2_spot_20 : decode cX2_spot 20 = .ok (.iadd, 1) := by decide +kernel
theorem dX2_spot_21 : decode cX2_spot 21 = .ok (.bipush 7, 2) := by decide +kernel
theorem dX2_spot_23 : decode cX2_spot 23 = .ok (.iand, 1) := by decide +kernel
theorem dX2_spot_24 : decode cX2_spot 24 = .ok (.iadd, 1) := by decide +kernel
theorem dX2_spot_25 : decode cX2_spot 25 = .ok (.ireturn, 1) := by decide +kernel
theorem dX2_layAsListed_0 : decode cX2_layAsListed 0 = .ok (.aload_n 0, 1) := by decide +kernel
theorem dX2_layAsListed_1 : decode cX2_layAsListed 1 = .ok (.iconst 0, 1) := by decide +kernel
theorem dX2_layAsListed_2 : decode cX2_layAsListed 2 = .ok (.bipush 7, 2) := by decide +kernel
theorem dX2_layAsListed_4 : decode cX2_layAsListed 4 = .ok (.aload_n 1, 1) := by decide +kernel
theorem dX2_layAsListed_5 : decode cX2_layAsListed 5 = .ok (.getfield 28, 3) := by decide +kernel
theorem dX2_layAsListed_8 : decode cX2_layAsListed 8 = .ok (.invokestatic 34, 3) := by decide +kernel
theorem dX2_layAsListed_11 : decode cX2_layAsListed 11 = .ok (.invokestatic 40, 3) := by decide +kernel
theorem dX2_layAsListed_14 : decode cX2_layAsListed 14 = .ok (.putfield 43, 3) := by decide +kernel
theorem dX2_layAsListed_17 : decode cX2_layAsListed 17 = .ok (.iconst 0, 1) := by decide +kernel
theorem dX2_layAsListed_18 : decode cX2_layAsListed 18 = .ok (.istore_n 2, 1) := by decide +kernel
theorem dX2_layAsListed_19 : decode cX2_layAsListed 19 = .ok (.iload_n 2, 1) := by decide +kernel
theorem dX2_layAsListed_20 : decode cX2_layAsListed 20 = .ok (.aload_n 0, 1) := by decide +kernel
theorem dX2_layAsListed_21 : decode cX2_layAsListed 21 = .ok (.getfield 43, 3) := by decide +kernel
theorem dX2_layAsListed_24 : decode cX2_layAsListed 24 = .ok (.if_icmp .ge 20, 3) := by decide +kernel
theorem dX2_layAsListed_27 : decode cX2_layAsListed 27 = .ok (.aload_n 0, 1) := by decide +kernel
theorem dX2_layAsListed_28 : decode cX2_layAsListed 28 = .ok (.getfield 18, 3) := by decide +kernel
theorem dX2_layAsListed_31 : decode cX2_layAsListed 31 = .ok (.iload_n 2, 1) := by decide +kernel
theorem dX2_layAsListed_32 : decode cX2_layAsListed 32 = .ok (.aload_n 1, 1) := by decide +kernel
theorem dX2_layAsListed_33 : decode cX2_layAsListed 33 = .ok (.iload_n 2, 1) := by decide +kernel
theorem dX2_layAsListed_34 : decode cX2_layAsListed 34 = .ok (.invokevirtual 46, 3) := by decide +kernel
theorem dX2_layAsListed_37 : decode cX2_layAsListed 37 = .ok (.iastore, 1) := by decide +kernel
theorem dX2_layAsListed_38 : decode cX2_layAsListed 38 = .ok (.iinc 2 1, 3) := by decide +kernel
theorem dX2_layAsListed_41 : decode cX2_layAsListed 41 = .ok (.goto (-22), 3) := by decide +kernel
theorem dX2_layAsListed_44 : decode cX2_layAsListed 44 = .ok (.aload_n 0, 1) := by decide +kernel
theorem dX2_layAsListed_45 : decode cX2_layAsListed 45 = .ok (.aload_n 1, 1) := by decide +kernel
theorem dX2_layAsListed_46 : decode cX2_layAsListed 46 = .ok (.invokevirtual 50, 3) := by decide +kernel
theorem dX2_layAsListed_49 : decode cX2_layAsListed 49 = .ok (.return_, 1) := by decide +kernel
theorem dX2_layFirst_0 : decode cX2_layFirst 0 = .ok (.aload_n 0, 1) := by decide +kernel
theorem dX2_layFirst_1 : decode cX2_layFirst 1 = .ok (.iconst 0, 1) := by decide +kernel
theorem dX2_layFirst_2 : decode cX2_layFirst 2 = .ok (.putfield 43, 3) := by decide +kernel
theorem dX2_layFirst_5 : decode cX2_layFirst 5 = .ok (.iconst 0, 1) := by decide +kernel
theorem dX2_layFirst_6 : decode cX2_layFirst 6 = .ok (.istore_n 2, 1) := by decide +kernel
theorem dX2_layFirst_7 : decode cX2_layFirst 7 = .ok (.iload_n 2, 1) := by decide +kernel
theorem dX2_layFirst_8 : decode cX2_layFirst 8 = .ok (.bipush 7, 2) := by decide +kernel
theorem dX2_layFirst_10 : decode cX2_layFirst 10 = .ok (.if_icmp .ge 37, 3) := by decide +kernel
theorem dX2_layFirst_13 : decode cX2_layFirst 13 = .ok (.aload_n 1, 1) := by decide +kernel
theorem dX2_layFirst_14 : decode cX2_layFirst 14 = .ok (.iload_n 2, 1) := by decide +kernel
theorem dX2_layFirst_15 : decode cX2_layFirst 15 = .ok (.invokevirtual 54, 3) := by decide +kernel
theorem dX2_layFirst_18 : decode cX2_layFirst 18 = .ok (.ifCond .eq 23, 3) := by decide +kernel
theorem dX2_layFirst_21 : decode cX2_layFirst 21 = .ok (.aload_n 0, 1) := by decide +kernel
theorem dX2_layFirst_22 : decode cX2_layFirst 22 = .ok (.getfield 18, 3) := by decide +kernel
theorem dX2_layFirst_25 : decode cX2_layFirst 25 = .ok (.aload_n 0, 1) := by decide +kernel
theorem dX2_layFirst_26 : decode cX2_layFirst 26 = .ok (.getfield 43, 3) := by decide +kernel
theorem dX2_layFirst_29 : decode cX2_layFirst 29 = .ok (.iload_n 2, 1) := by decide +kernel
theorem dX2_layFirst_30 : decode cX2_layFirst 30 = .ok (.iastore, 1) := by decide +kernel
theorem dX2_layFirst_31 : decode cX2_layFirst 31 = .ok (.aload_n 0, 1) := by decide +kernel
theorem dX2_layFirst_32 : decode cX2_layFirst 32 = .ok (.dup, 1) := by decide +kernel
theorem dX2_layFirst_33 : decode cX2_layFirst 33 = .ok (.getfield 43, 3) := by decide +kernel
theorem dX2_layFirst_36 : decode cX2_layFirst 36 = .ok (.iconst 1, 1) := by decide +kernel
theorem dX2_layFirst_37 : decode cX2_layFirst 37 = .ok (.iadd, 1) := by decide +kernel
theorem dX2_layFirst_38 : decode cX2_layFirst 38 = .ok (.putfield 43, 3) := by decide +kernel
theorem dX2_layFirst_41 : decode cX2_layFirst 41 = .ok (.iinc 2 1, 3) := by decide +kernel
theorem dX2_layFirst_44 : decode cX2_layFirst 44 = .ok (.goto (-37), 3) := by decide +kernel
theorem dX2_layFirst_47 : decode cX2_layFirst 47 = .ok (.aload_n 0, 1) := by decide +kernel
theorem dX2_layFirst_48 : decode cX2_layFirst 48 = .ok (.aload_n 1, 1) := by decide +kernel
theorem dX2_layFirst_49 : decode cX2_layFirst 49 = .ok (.invokevirtual 50, 3) := by decide +kernel
theorem dX2_layFirst_52 : decode cX2_layFirst 52 = .ok (.return_, 1) := by decide +kernel
theorem dX2_layTables_0 : decode cX2_layTables 0 = .ok (.iconst 0, 1) := by decide +kernel
theorem dX2_layTables_1 : decode cX2_layTables 1 = .ok (.istore_n 2, 1) := by decide +kernel
theorem dX2_layTables_2 : decode cX2_layTables 2 = .ok (.iload_n 2, 1) := by decide +kernel
theorem dX2_layTables_3 : decode cX2_layTables 3 = .ok (.aload_n 0, 1) := by decide +kernel
theorem dX2_layTables_4 : decode cX2_layTables 4 = .ok (.getfield 43, 3) := by decide +kernel
theorem dX2_layTables_7 : decode cX2_layTables 7 = .ok (.if_icmp .ge 149, 3) := by decide +kernel
theorem dX2_layTables_10 : decode cX2_layTables 10 = .ok (.iload_n 2, 1) := by decide +kernel
theorem dX2_layTables_11 : decode cX2_layTables 11 = .ok (.ifCond .ne 7, 3) := by decide +kernel
theorem dX2_layTables_14 : decode cX2_layTables 14 = .ok (.iconst 1, 1) := by decide +kernel
theorem dX2_layTables_15 : decode cX2_layTables 15 = .ok (.goto 7, 3) := by decide +kernel
theorem dX2_layTables_18 : decode cX2_layTables 18 = .ok (.aload_n 0, 1) := by decide +kernel
theorem dX2_layTables_19 : decode cX2_layTables 19 = .ok (.getfield 43, 3) := by decide +kernel
theorem dX2_layTables_22 : decode cX2_layTables 22 = .ok (.istore_n 3, 1) := by decide +kernel
theorem dX2_layTables_23 : decode cX2_layTables 23 = .ok (.iconst 0, 1) := by decide +kernel
theorem dX2_layTables_24 : decode cX2_layTables 24 = .ok (.istore 4, 2) := by decide +kernel
theorem dX2_layTables_26 : decode cX2_layTables 26 = .ok (.iload 4, 2) := by decide +kernel
theorem dX2_layTables_28 : decode cX2_layTables 28 = .ok (.aload_n 0, 1) := by decide +kernel
theorem dX2_layTables_29 : decode cX2_layTables 29 = .ok (.getfield 43, 3) := by decide +kernel
theorem dX2_layTables_32 : decode cX2_layTables 32 = .ok (.if_icmp .ge 118, 3) := by decide +kernel
theorem dX2_layTables_35 : decode cX2_layTables 35 = .ok (.iconst 0, 1) := by decide +kernel
theorem dX2_layTables_36 : decode cX2_layTables 36 = .ok (.istore 5, 2) := by decide +kernel
theorem dX2_layTables_38 : decode cX2_layTables 38 = .ok (.iload 5, 2) := by decide +kernel
theorem dX2_layTables_40 : decode cX2_layTables 40 = .ok (.iload_n 3, 1) := by decide +kernel
theorem dX2_layTables_41 : decode cX2_layTables 41 = .ok (.if_icmp .ge 103, 3) := by decide +kernel
theorem dX2_layTables_44 : decode cX2_layTables 44 = .ok (.iload_n 2, 1) := by decide +kernel
theorem dX2_layTables_45 : decode cX2_layTables 45 = .ok (.ifCond .ne 7, 3) := by decide +kernel
theorem dX2_layTables_48 : decode cX2_layTables 48 = .ok (.iconst (-1), 1) := by decide +kernel
theorem dX2_layTables_49 : decode cX2_layTables 49 = .ok (.goto 10, 3) := by decide +kernel
theorem dX2_layTables_52 : decode cX2_layTables 52 = .ok (.aload_n 0, 1) := by decide +kernel
theorem dX2_layTables_53 : decode cX2_layTables 53 = .ok (.getfield 18, 3) := by decide +kernel
theorem dX2_layTables_56 : decode cX2_layTables 56 = .ok (.iload 5, 2) := by decide +kernel
theorem dX2_layTables_58 : decode cX2_layTables 58 = .ok (.iaload, 1) := by decide +kernel
theorem dX2_layTables_59 : decode cX2_layTables 59 = .ok (.istore 6, 2) := by decide +kernel
theorem dX2_layTables_61 : decode cX2_layTables 61 = .ok (.iload 6, 2) := by decide +kernel
theorem dX2_layTables_63 : decode cX2_layTables 63 = .ok (.aload_n 0, 1) := by decide +kernel
theorem dX2_layTables_64 : decode cX2_layTables 64 = .ok (.getfield 18, 3) := by decide +kernel
theorem dX2_layTables_67 : decode cX2_layTables 67 = .ok (.iload 4, 2) := by decide +kernel
theorem dX2_layTables_69 : decode cX2_layTables 69 = .ok (.iaload, 1) := by decide +kernel
theorem dX2_layTables_70 : decode cX2_layTables 70 = .ok (.if_icmp .eq 68, 3) := by decide +kernel
theorem dX2_layTables_73 : decode cX2_layTables 73 = .ok (.iload_n 2, 1) := by decide +kernel
theorem dX2_layTables_74 : decode cX2_layTables 74 = .ok (.aload_n 0, 1) := by decide +kernel
theorem dX2_layTables_75 : decode cX2_layTables 75 = .ok (.getfield 18, 3) := by decide +kernel
theorem dX2_layTables_78 : decode cX2_layTables 78 = .ok (.iload 4, 2) := by decide +kernel
theorem dX2_layTables_80 : decode cX2_layTables 80 = .ok (.iaload, 1) := by decide +kernel
theorem dX2_layTables_81 : decode cX2_layTables 81 = .ok (.iload 6, 2) := by decide +kernel
theorem dX2_layTables_83 : decode cX2_layTables 83 = .ok (.invokestatic 58, 3) := by decide +kernel
theorem dX2_layTables_86 : decode cX2_layTables 86 = .ok (.istore 7, 2) := by decide +kernel
theorem dX2_layTables_88 : decode cX2_layTables 88 = .ok (.aload_n 0, 1) := by decide +kernel
theorem dX2_layTables_89 : decode cX2_layTables 89 = .ok (.getfield 9, 3) := by decide +kernel
theorem dX2_layTables_92 : decode cX2_layTables 92 = .ok (.iload 7, 2) := by decide +kernel
theorem dX2_layTables_94 : decode cX2_layTables 94 = .ok (.aload_n 0, 1) := by decide +kernel
theorem dX2_layTables_95 : decode cX2_layTables 95 = .ok (.getfield 24, 3) := by decide +kernel
theorem dX2_layTables_98 : decode cX2_layTables 98 = .ok (.aload_n 1, 1) := by decide +kernel
theorem dX2_layTables_99 : decode cX2_layTables 99 = .ok (.aload_n 0, 1) := by decide +kernel
theorem dX2_layTables_100 : decode cX2_layTables 100 = .ok (.getfield 18, 3) := by decide +kernel
theorem dX2_layTables_103 : decode cX2_layTables 103 = .ok (.iload 4, 2) := by decide +kernel
theorem dX2_layTables_105 : decode cX2_layTables 105 = .ok (.iaload, 1) := by decide +kernel
theorem dX2_layTables_106 : decode cX2_layTables 106 = .ok (.iload_n 2, 1) := by decide +kernel
theorem dX2_layTables_107 : decode cX2_layTables 107 = .ok (.iload 6, 2) := by decide +kernel
theorem dX2_layTables_109 : decode cX2_layTables 109 = .ok (.invokevirtual 62, 3) := by decide +kernel
theorem dX2_layTables_112 : decode cX2_layTables 112 = .ok (.iastore, 1) := by decide +kernel
theorem dX2_layTables_113 : decode cX2_layTables 113 = .ok (.aload_n 0, 1) := by decide +kernel
theorem dX2_layTables_114 : decode cX2_layTables 114 = .ok (.getfield 15, 3) := by decide +kernel
theorem dX2_layTables_117 : decode cX2_layTables 117 = .ok (.iload 7, 2) := by decide +kernel
theorem dX2_layTables_119 : decode cX2_layTables 119 = .ok (.aload_n 0, 1) := by decide +kernel
theorem dX2_layTables_120 : decode cX2_layTables 120 = .ok (.getfield 24, 3) := by decide +kernel
theorem dX2_layTables_123 : decode cX2_layTables 123 = .ok (.aload_n 1, 1) := by decide +kernel
theorem dX2_layTables_124 : decode cX2_layTables 124 = .ok (.aload_n 0, 1) := by decide +kernel
theorem dX2_layTables_125 : decode cX2_layTables 125 = .ok (.getfield 18, 3) := by decide +kernel
theorem dX2_layTables_128 : decode cX2_layTables 128 = .ok (.iload 4, 2) := by decide +kernel
theorem dX2_layTables_130 : decode cX2_layTables 130 = .ok (.iaload, 1) := by decide +kernel
theorem dX2_layTables_131 : decode cX2_layTables 131 = .ok (.iload_n 2, 1) := by decide +kernel
theorem dX2_layTables_132 : decode cX2_layTables 132 = .ok (.iload 6, 2) := by decide +kernel
theorem dX2_layTables_134 : decode cX2_layTables 134 = .ok (.invokevirtual 68, 3) := by decide +kernel
theorem dX2_layTables_137 : decode cX2_layTables 137 = .ok (.iastore, 1) := by decide +kernel
theorem dX2_layTables_138 : decode cX2_layTables 138 = .ok (.iinc 5 1, 3) := by decide +kernel
theorem dX2_layTables_141 : decode cX2_layTables 141 = .ok (.goto (-103), 3) := by decide +kernel
theorem dX2_layTables_144 : decode cX2_layTables 144 = .ok (.iinc 4 1, 3) := by decide +kernel
theorem dX2_layTables_147 : decode cX2_layTables 147 = .ok (.goto (-121), 3) := by decide +kernel
theorem dX2_layTables_150 : decode cX2_layTables 150 = .ok (.iinc 2 1, 3) := by decide +kernel
theorem dX2_layTables_153 : decode cX2_layTables 153 = .ok (.goto (-151), 3) := by decide +kernel
theorem dX2_layTables_156 : decode cX2_layTables 156 = .ok (.return_, 1) := by decide +kernel
theorem dX2_spotAt_0 : decode cX2_spotAt 0 = .ok (.iload_n 1, 1) := by decide +kernel
theorem dX2_spotAt_1 : decode cX2_spotAt 1 = .ok (.aload_n 0, 1) := by decide +kernel
theorem dX2_spotAt_2 : decode cX2_spotAt 2 = .ok (.getfield 18, 3) := by decide +kernel
theorem dX2_spotAt_5 : decode cX2_spotAt 5 = .ok (.iload_n 1, 1) := by decide +kernel
theorem dX2_spotAt_6 : decode cX2_spotAt 6 = .ok (.iaload, 1) := by decide +kernel
theorem dX2_spotAt_7 : decode cX2_spotAt 7 = .ok (.iload_n 1, 1) := by decide +kernel
theorem dX2_spotAt_8 : decode cX2_spotAt 8 = .ok (.ifCond .le 14, 3) := by decide +kernel
theorem dX2_spotAt_11 : decode cX2_spotAt 11 = .ok (.aload_n 0, 1) := by decide +kernel
theorem dX2_spotAt_12 : decode cX2_spotAt 12 = .ok (.getfield 18, 3) := by decide +kernel
theorem dX2_spotAt_15 : decode cX2_spotAt 15 = .ok (.iload_n 1, 1) := by decide +kernel
theorem dX2_spotAt_16 : decode cX2_spotAt 16 = .ok (.iconst 1, 1) := by decide +kernel
theorem dX2_spotAt_17 : decode cX2_spotAt 17 = .ok (.isub, 1) := by decide +kernel
theorem dX2_spotAt_18 : decode cX2_spotAt 18 = .ok (.iaload, 1) := by decide +kernel
theorem dX2_spotAt_19 : decode cX2_spotAt 19 = .ok (.goto 4, 3) := by decide +kernel
theorem dX2_spotAt_22 : decode cX2_spotAt 22 = .ok (.iconst (-1), 1) := by decide +kernel
theorem dX2_spotAt_23 : decode cX2_spotAt 23 = .ok (.invokestatic 58, 3) := by decide +kernel
theorem dX2_spotAt_26 : decode cX2_spotAt 26 = .ok (.ireturn, 1) := by decide +kernel
theorem dX2_sufferingAt_0 : decode cX2_sufferingAt 0 = .ok (.iload_n 1, 1) := by decide +kernel
theorem dX2_sufferingAt_1 : decode cX2_sufferingAt 1 = .ok (.ifCond .lt 24, 3) := by decide +kernel
theorem dX2_sufferingAt_4 : decode cX2_sufferingAt 4 = .ok (.iload_n 1, 1) := by decide +kernel
theorem dX2_sufferingAt_5 : decode cX2_sufferingAt 5 = .ok (.aload_n 0, 1) := by decide +kernel
theorem dX2_sufferingAt_6 : decode cX2_sufferingAt 6 = .ok (.getfield 43, 3) := by decide +kernel
theorem dX2_sufferingAt_9 : decode cX2_sufferingAt 9 = .ok (.if_icmp .ge 16, 3) := by decide +kernel
theorem dX2_sufferingAt_12 : decode cX2_sufferingAt 12 = .ok (.aload_n 0, 1) := by decide +kernel
theorem dX2_sufferingAt_13 : decode cX2_sufferingAt 13 = .ok (.getfield 9, 3) := by decide +kernel
theorem dX2_sufferingAt_16 : decode cX2_sufferingAt 16 = .ok (.aload_n 0, 1) := by decide +kernel
theorem dX2_sufferingAt_17 : decode cX2_sufferingAt 17 = .ok (.iload_n 1, 1) := by decide +kernel
theorem dX2_sufferingAt_18 : decode cX2_sufferingAt 18 = .ok (.invokevirtual 71, 3) := by decide +kernel
theorem dX2_sufferingAt_21 : decode cX2_sufferingAt 21 = .ok (.iaload, 1) := by decide +kernel
theorem dX2_sufferingAt_22 : decode cX2_sufferingAt 22 = .ok (.goto 4, 3) := by decide +kernel
theorem dX2_sufferingAt_25 : decode cX2_sufferingAt 25 = .ok (.iconst 0, 1) := by decide +kernel
theorem dX2_sufferingAt_26 : decode cX2_sufferingAt 26 = .ok (.ireturn, 1) := by decide +kernel
theorem dX2_dueAt_0 : decode cX2_dueAt 0 = .ok (.iload_n 1, 1) := by decide +kernel
theorem dX2_dueAt_1 : decode cX2_dueAt 1 = .ok (.ifCond .lt 24, 3) := by decide +kernel
theorem dX2_dueAt_4 : decode cX2_dueAt 4 = .ok (.iload_n 1, 1) := by decide +kernel
theorem dX2_dueAt_5 : decode cX2_dueAt 5 = .ok (.aload_n 0, 1) := by decide +kernel
theorem dX2_dueAt_6 : decode cX2_dueAt 6 = .ok (.getfield 43, 3) := by decide +kernel
theorem dX2_dueAt_9 : decode cX2_dueAt 9 = .ok (.if_icmp .ge 16, 3) := by decide +kernel
theorem dX2_dueAt_12 : decode cX2_dueAt 12 = .ok (.aload_n 0, 1) := by decide +kernel
theorem dX2_dueAt_13 : decode cX2_dueAt 13 = .ok (.getfield 15, 3) := by decide +kernel
theorem dX2_dueAt_16 : decode cX2_dueAt 16 = .ok (.aload_n 0, 1) := by decide +kernel
theorem dX2_dueAt_17 : decode cX2_dueAt 17 = .ok (.iload_n 1, 1) := by decide +kernel
theorem dX2_dueAt_18 : decode cX2_dueAt 18 = .ok (.invokevirtual 71, 3) := by decide +kernel
theorem dX2_dueAt_21 : decode cX2_dueAt 21 = .ok (.iaload, 1) := by decide +kernel
theorem dX2_dueAt_22 : decode cX2_dueAt 22 = .ok (.goto 4, 3) := by decide +kernel
theorem dX2_dueAt_25 : decode cX2_dueAt 25 = .ok (.iconst 0, 1) := by decide +kernel
theorem dX2_dueAt_26 : decode cX2_dueAt 26 = .ok (.ireturn, 1) := by decide +kernel
theorem dX2_stepOn_0 : decode cX2_stepOn 0 = .ok (.aload_n 0, 1) := by decide +kernel
theorem dX2_stepOn_1 : decode cX2_stepOn 1 = .ok (.getfield 43, 3) := by decide +kernel
theorem dX2_stepOn_4 : decode cX2_stepOn 4 = .ok (.iconst 2, 1) := by decide +kernel
theorem dX2_stepOn_5 : decode cX2_stepOn 5 = .ok (.isub, 1) := by decide +kernel
theorem dX2_stepOn_6 : decode cX2_stepOn 6 = .ok (.istore_n 1, 1) := by decide +kernel
theorem dX2_stepOn_7 : decode cX2_stepOn 7 = .ok (.iload_n 1, 1) := by decide +kernel
theorem dX2_stepOn_8 : decode cX2_stepOn 8 = .ok (.ifCond .lt 26, 3) := by decide +kernel
theorem dX2_stepOn_11 : decode cX2_stepOn 11 = .ok (.aload_n 0, 1) := by decide +kernel
theorem dX2_stepOn_12 : decode cX2_stepOn 12 = .ok (.getfield 18, 3) := by decide +kernel
theorem dX2_stepOn_15 : decode cX2_stepOn 15 = .ok (.iload_n 1, 1) := by decide +kernel
theorem dX2_stepOn_16 : decode cX2_stepOn 16 = .ok (.iaload, 1) := by decide +kernel
theorem dX2_stepOn_17 : decode cX2_stepOn 17 = .ok (.aload_n 0, 1) := by decide +kernel
theorem dX2_stepOn_18 : decode cX2_stepOn 18 = .ok (.getfield 18, 3) := by decide +kernel
theorem dX2_stepOn_21 : decode cX2_stepOn 21 = .ok (.iload_n 1, 1) := by decide +kernel
theorem dX2_stepOn_22 : decode cX2_stepOn 22 = .ok (.iconst 1, 1) := by decide +kernel
theorem dX2_stepOn_23 : decode cX2_stepOn 23 = .ok (.iadd, 1) := by decide +kernel
theorem dX2_stepOn_24 : decode cX2_stepOn 24 = .ok (.iaload, 1) := by decide +kernel
theorem dX2_stepOn_25 : decode cX2_stepOn 25 = .ok (.if_icmp .le 9, 3) := by decide +kernel
theorem dX2_stepOn_28 : decode cX2_stepOn 28 = .ok (.iinc 1 (-1), 3) := by decide +kernel
theorem dX2_stepOn_31 : decode cX2_stepOn 31 = .ok (.goto (-24), 3) := by decide +kernel
theorem dX2_stepOn_34 : decode cX2_stepOn 34 = .ok (.iload_n 1, 1) := by decide +kernel
theorem dX2_stepOn_35 : decode cX2_stepOn 35 = .ok (.ifCond .ge 5, 3) := by decide +kernel
theorem dX2_stepOn_38 : decode cX2_stepOn 38 = .ok (.iconst 0, 1) := by decide +kernel
theorem dX2_stepOn_39 : decode cX2_stepOn 39 = .ok (.ireturn, 1) := by decide +kernel
theorem dX2_stepOn_40 : decode cX2_stepOn 40 = .ok (.aload_n 0, 1) := by decide +kernel
theorem dX2_stepOn_41 : decode cX2_stepOn 41 = .ok (.getfield 43, 3) := by decide +kernel
theorem dX2_stepOn_44 : decode cX2_stepOn 44 = .ok (.iconst 1, 1) := by decide +kernel
theorem dX2_stepOn_45 : decode cX2_stepOn 45 = .ok (.isub, 1) := by decide +kernel
theorem dX2_stepOn_46 : decode cX2_stepOn 46 = .ok (.istore_n 2, 1) := by decide +kernel
theorem dX2_stepOn_47 : decode cX2_stepOn 47 = .ok (.iload_n 2, 1) := by decide +kernel
theorem dX2_stepOn_48 : decode cX2_stepOn 48 = .ok (.iload_n 1, 1) := by decide +kernel
theorem dX2_stepOn_49 : decode cX2_stepOn 49 = .ok (.if_icmp .le 24, 3) := by decide +kernel
theorem dX2_stepOn_52 : decode cX2_stepOn 52 = .ok (.aload_n 0, 1) := by decide +kernel
theorem dX2_stepOn_53 : decode cX2_stepOn 53 = .ok (.getfield 18, 3) := by decide +kernel
theorem dX2_stepOn_56 : decode cX2_stepOn 56 = .ok (.iload_n 2, 1) := by decide +kernel
theorem dX2_stepOn_57 : decode cX2_stepOn 57 = .ok (.iaload, 1) := by decide +kernel
theorem dX2_stepOn_58 : decode cX2_stepOn 58 = .ok (.aload_n 0, 1) := by decide +kernel
theorem dX2_stepOn_59 : decode cX2_stepOn 59 = .ok (.getfield 18, 3) := by decide +kernel
theorem dX2_stepOn_62 : decode cX2_stepOn 62 = .ok (.iload_n 1, 1) := by decide +kernel
theorem dX2_stepOn_63 : decode cX2_stepOn 63 = .ok (.iaload, 1) := by decide +kernel
theorem dX2_stepOn_64 : decode cX2_stepOn 64 = .ok (.if_icmp .ge 9, 3) := by decide +kernel
theorem dX2_stepOn_67 : decode cX2_stepOn 67 = .ok (.iinc 2 (-1), 3) := by decide +kernel
theorem dX2_stepOn_70 : decode cX2_stepOn 70 = .ok (.goto (-23), 3) := by decide +kernel
theorem dX2_stepOn_73 : decode cX2_stepOn 73 = .ok (.aload_n 0, 1) := by decide +kernel
theorem dX2_stepOn_74 : decode cX2_stepOn 74 = .ok (.iload_n 1, 1) := by decide +kernel
theorem dX2_stepOn_75 : decode cX2_stepOn 75 = .ok (.iload_n 2, 1) := by decide +kernel
theorem dX2_stepOn_76 : decode cX2_stepOn 76 = .ok (.invokevirtual 74, 3) := by decide +kernel
theorem dX2_stepOn_79 : decode cX2_stepOn 79 = .ok (.iload_n 1, 1) := by decide +kernel
theorem dX2_stepOn_80 : decode cX2_stepOn 80 = .ok (.iconst 1, 1) := by decide +kernel
theorem dX2_stepOn_81 : decode cX2_stepOn 81 = .ok (.iadd, 1) := by decide +kernel
theorem dX2_stepOn_82 : decode cX2_stepOn 82 = .ok (.istore_n 3, 1) := by decide +kernel
theorem dX2_stepOn_83 : decode cX2_stepOn 83 = .ok (.aload_n 0, 1) := by decide +kernel
theorem dX2_stepOn_84 : decode cX2_stepOn 84 = .ok (.getfield 43, 3) := by decide +kernel
theorem dX2_stepOn_87 : decode cX2_stepOn 87 = .ok (.iconst 1, 1) := by decide +kernel
theorem dX2_stepOn_88 : decode cX2_stepOn 88 = .ok (.isub, 1) := by decide +kernel
theorem dX2_stepOn_89 : decode cX2_stepOn 89 = .ok (.istore 4, 2) := by decide +kernel
theorem dX2_stepOn_91 : decode cX2_stepOn 91 = .ok (.iload_n 3, 1) := by decide +kernel
theorem dX2_stepOn_92 : decode cX2_stepOn 92 = .ok (.iload 4, 2) := by decide +kernel
theorem dX2_stepOn_94 : decode cX2_stepOn 94 = .ok (.if_icmp .ge 19, 3) := by decide +kernel
theorem dX2_stepOn_97 : decode cX2_stepOn 97 = .ok (.aload_n 0, 1) := by decide +kernel
theorem dX2_stepOn_98 : decode cX2_stepOn 98 = .ok (.iload_n 3, 1) := by decide +kernel
theorem dX2_stepOn_99 : decode cX2_stepOn 99 = .ok (.iload 4, 2) := by decide +kernel
theorem dX2_stepOn_101 : decode cX2_stepOn 101 = .ok (.invokevirtual 74, 3) := by decide +kernel
theorem dX2_stepOn_104 : decode cX2_stepOn 104 = .ok (.iinc 3 1, 3) := by decide +kernel
theorem dX2_stepOn_107 : decode cX2_stepOn 107 = .ok (.iinc 4 (-1), 3) := by decide +kernel
theorem dX2_stepOn_110 : decode cX2_stepOn 110 = .ok (.goto (-19), 3) := by decide +kernel
theorem dX2_stepOn_113 : decode cX2_stepOn 113 = .ok (.iconst 1, 1) := by decide +kernel
theorem dX2_stepOn_114 : decode cX2_stepOn 114 = .ok (.ireturn, 1) := by decide +kernel
theorem dX2_exchange_0 : decode cX2_exchange 0 = .ok (.iload_n 1, 1) := by decide +kernel
theorem dX2_exchange_1 : decode cX2_exchange 1 = .ok (.ifCond .lt 49, 3) := by decide +kernel
theorem dX2_exchange_4 : decode cX2_exchange 4 = .ok (.iload_n 1, 1) := by decide +kernel
theorem dX2_exchange_5 : decode cX2_exchange 5 = .ok (.aload_n 0, 1) := by decide +kernel
theorem dX2_exchange_6 : decode cX2_exchange 6 = .ok (.getfield 43, 3) := by decide +kernel
theorem dX2_exchange_9 : decode cX2_exchange 9 = .ok (.if_icmp .ge 41, 3) := by decide +kernel
theorem dX2_exchange_12 : decode cX2_exchange 12 = .ok (.iload_n 2, 1) := by decide +kernel
theorem dX2_exchange_13 : decode cX2_exchange 13 = .ok (.ifCond .lt 37, 3) := by decide +kernel
theorem dX2_exchange_16 : decode cX2_exchange 16 = .ok (.iload_n 2, 1) := by decide +kernel
theorem dX2_exchange_17 : decode cX2_exchange 17 = .ok (.aload_n 0, 1) := by decide +kernel
theorem dX2_exchange_18 : decode cX2_exchange 18 = .ok (.getfield 43, 3) := by decide +kernel
theorem dX2_exchange_21 : decode cX2_exchange 21 = .ok (.if_icmp .ge 29, 3) := by decide +kernel
theorem dX2_exchange_24 : decode cX2_exchange 24 = .ok (.aload_n 0, 1) := by decide +kernel
theorem dX2_exchange_25 : decode cX2_exchange 25 = .ok (.getfield 18, 3) := by decide +kernel
theorem dX2_exchange_28 : decode cX2_exchange 28 = .ok (.iload_n 1, 1) := by decide +kernel
theorem dX2_exchange_29 : decode cX2_exchange 29 = .ok (.iaload, 1) := by decide +kernel
theorem dX2_exchange_30 : decode cX2_exchange 30 = .ok (.istore_n 3, 1) := by decide +kernel
theorem dX2_exchange_31 : decode cX2_exchange 31 = .ok (.aload_n 0, 1) := by decide +kernel
theorem dX2_exchange_32 : decode cX2_exchange 32 = .ok (.getfield 18, 3) := by decide +kernel
theorem dX2_exchange_35 : decode cX2_exchange 35 = .ok (.iload_n 1, 1) := by decide +kernel
theorem dX2_exchange_36 : decode cX2_exchange 36 = .ok (.aload_n 0, 1) := by decide +kernel
theorem dX2_exchange_37 : decode cX2_exchange 37 = .ok (.getfield 18, 3) := by decide +kernel
theorem dX2_exchange_40 : decode cX2_exchange 40 = .ok (.iload_n 2, 1) := by decide +kernel
theorem dX2_exchange_41 : decode cX2_exchange 41 = .ok (.iaload, 1) := by decide +kernel
theorem dX2_exchange_42 : decode cX2_exchange 42 = .ok (.iastore, 1) := by decide +kernel
theorem dX2_exchange_43 : decode cX2_exchange 43 = .ok (.aload_n 0, 1) := by decide +kernel
theorem dX2_exchange_44 : decode cX2_exchange 44 = .ok (.getfield 18, 3) := by decide +kernel
theorem dX2_exchange_47 : decode cX2_exchange 47 = .ok (.iload_n 2, 1) := by decide +kernel
theorem dX2_exchange_48 : decode cX2_exchange 48 = .ok (.iload_n 3, 1) := by decide +kernel
theorem dX2_exchange_49 : decode cX2_exchange 49 = .ok (.iastore, 1) := by decide +kernel
theorem dX2_exchange_50 : decode cX2_exchange 50 = .ok (.return_, 1) := by decide +kernel
theorem dX2_seekBest_0 : decode cX2_seekBest 0 = .ok (.aload_n 0, 1) := by decide +kernel
theorem dX2_seekBest_1 : decode cX2_seekBest 1 = .ok (.iconst 0, 1) := by decide +kernel
theorem dX2_seekBest_2 : decode cX2_seekBest 2 = .ok (.putfield 78, 3) := by decide +kernel
theorem dX2_seekBest_5 : decode cX2_seekBest 5 = .ok (.iconst 1, 1) := by decide +kernel
theorem dX2_seekBest_6 : decode cX2_seekBest 6 = .ok (.istore_n 2, 1) := by decide +kernel
theorem dX2_seekBest_7 : decode cX2_seekBest 7 = .ok (.iconst 0, 1) := by decide +kernel
theorem dX2_seekBest_8 : decode cX2_seekBest 8 = .ok (.istore_n 3, 1) := by decide +kernel
theorem dX2_seekBest_9 : decode cX2_seekBest 9 = .ok (.iload_n 3, 1) := by decide +kernel
theorem dX2_seekBest_10 : decode cX2_seekBest 10 = .ok (.sipush 5040, 3) := by decide +kernel
theorem dX2_seekBest_13 : decode cX2_seekBest 13 = .ok (.if_icmp .ge 123, 3) := by decide +kernel
theorem dX2_seekBest_16 : decode cX2_seekBest 16 = .ok (.iload_n 2, 1) := by decide +kernel
theorem dX2_seekBest_17 : decode cX2_seekBest 17 = .ok (.ifCond .eq 119, 3) := by decide +kernel
theorem dX2_seekBest_20 : decode cX2_seekBest 20 = .ok (.aload_n 0, 1) := by decide +kernel
theorem dX2_seekBest_21 : decode cX2_seekBest 21 = .ok (.iload_n 1, 1) := by decide +kernel
theorem dX2_seekBest_22 : decode cX2_seekBest 22 = .ok (.invokevirtual 81, 3) := by decide +kernel
theorem dX2_seekBest_25 : decode cX2_seekBest 25 = .ok (.istore 4, 2) := by decide +kernel
theorem dX2_seekBest_27 : decode cX2_seekBest 27 = .ok (.iload_n 1, 1) := by decide +kernel
theorem dX2_seekBest_28 : decode cX2_seekBest 28 = .ok (.iconst 1, 1) := by decide +kernel
theorem dX2_seekBest_29 : decode cX2_seekBest 29 = .ok (.if_icmp .ne 20, 3) := by decide +kernel
theorem dX2_seekBest_32 : decode cX2_seekBest 32 = .ok (.iload 4, 2) := by decide +kernel
theorem dX2_seekBest_34 : decode cX2_seekBest 34 = .ok (.aload_n 0, 1) := by decide +kernel
theorem dX2_seekBest_35 : decode cX2_seekBest 35 = .ok (.getfield 84, 3) := by decide +kernel
theorem dX2_seekBest_38 : decode cX2_seekBest 38 = .ok (.if_icmp .le 7, 3) := by decide +kernel
theorem dX2_seekBest_41 : decode cX2_seekBest 41 = .ok (.iconst 1, 1) := by decide +kernel
theorem dX2_seekBest_42 : decode cX2_seekBest 42 = .ok (.goto 21, 3) := by decide +kernel
theorem dX2_seekBest_45 : decode cX2_seekBest 45 = .ok (.iconst 0, 1) := by decide +kernel
theorem dX2_seekBest_46 : decode cX2_seekBest 46 = .ok (.goto 17, 3) := by decide +kernel
theorem dX2_seekBest_49 : decode cX2_seekBest 49 = .ok (.iload 4, 2) := by decide +kernel
theorem dX2_seekBest_51 : decode cX2_seekBest 51 = .ok (.aload_n 0, 1) := by decide +kernel
theorem dX2_seekBest_52 : decode cX2_seekBest 52 = .ok (.getfield 84, 3) := by decide +kernel
theorem dX2_seekBest_55 : decode cX2_seekBest 55 = .ok (.if_icmp .ge 7, 3) := by decide +kernel
theorem dX2_seekBest_58 : decode cX2_seekBest 58 = .ok (.iconst 1, 1) := by decide +kernel
theorem dX2_seekBest_59 : decode cX2_seekBest 59 = .ok (.goto 4, 3) := by decide +kernel
theorem dX2_seekBest_62 : decode cX2_seekBest 62 = .ok (.iconst 0, 1) := by decide +kernel
theorem dX2_seekBest_63 : decode cX2_seekBest 63 = .ok (.istore 5, 2) := by decide +kernel
theorem dX2_seekBest_65 : decode cX2_seekBest 65 = .ok (.aload_n 0, 1) := by decide +kernel
theorem dX2_seekBest_66 : decode cX2_seekBest 66 = .ok (.getfield 78, 3) := by decide +kernel
theorem dX2_seekBest_69 : decode cX2_seekBest 69 = .ok (.ifCond .eq 8, 3) := by decide +kernel
theorem dX2_seekBest_72 : decode cX2_seekBest 72 = .ok (.iload 5, 2) := by decide +kernel
theorem dX2_seekBest_74 : decode cX2_seekBest 74 = .ok (.ifCond .eq 32, 3) := by decide +kernel
theorem dX2_seekBest_77 : decode cX2_seekBest 77 = .ok (.aload_n 0, 1) := by decide +kernel
theorem dX2_seekBest_78 : decode cX2_seekBest 78 = .ok (.iload 4, 2) := by decide +kernel
theorem dX2_seekBest_80 : decode cX2_seekBest 80 = .ok (.putfield 84, 3) := by decide +kernel
theorem dX2_seekBest_83 : decode cX2_seekBest 83 = .ok (.aload_n 0, 1) := by decide +kernel
theorem dX2_seekBest_84 : decode cX2_seekBest 84 = .ok (.iconst 1, 1) := by decide +kernel
theorem dX2_seekBest_85 : decode cX2_seekBest 85 = .ok (.putfield 78, 3) := by decide +kernel
theorem dX2_seekBest_88 : decode cX2_seekBest 88 = .ok (.aload_n 0, 1) := by decide +kernel
theorem dX2_seekBest_89 : decode cX2_seekBest 89 = .ok (.getfield 18, 3) := by decide +kernel
theorem dX2_seekBest_92 : decode cX2_seekBest 92 = .ok (.iconst 0, 1) := by decide +kernel
theorem dX2_seekBest_93 : decode cX2_seekBest 93 = .ok (.aload_n 0, 1) := by decide +kernel
theorem dX2_seekBest_94 : decode cX2_seekBest 94 = .ok (.getfield 21, 3) := by decide +kernel
theorem dX2_seekBest_97 : decode cX2_seekBest 97 = .ok (.iconst 0, 1) := by decide +kernel
theorem dX2_seekBest_98 : decode cX2_seekBest 98 = .ok (.bipush 7, 2) := by decide +kernel
theorem dX2_seekBest_100 : decode cX2_seekBest 100 = .ok (.invokestatic 87, 3) := by decide +kernel
theorem dX2_seekBest_103 : decode cX2_seekBest 103 = .ok (.goto 22, 3) := by decide +kernel
theorem dX2_seekBest_106 : decode cX2_seekBest 106 = .ok (.iload 4, 2) := by decide +kernel
theorem dX2_seekBest_108 : decode cX2_seekBest 108 = .ok (.aload_n 0, 1) := by decide +kernel
theorem dX2_seekBest_109 : decode cX2_seekBest 109 = .ok (.getfield 84, 3) := by decide +kernel
theorem dX2_seekBest_112 : decode cX2_seekBest 112 = .ok (.if_icmp .ne 13, 3) := by decide +kernel
theorem dX2_seekBest_115 : decode cX2_seekBest 115 = .ok (.aload_n 0, 1) := by decide +kernel
theorem dX2_seekBest_116 : decode cX2_seekBest 116 = .ok (.dup, 1) := by decide +kernel
theorem dX2_seekBest_117 : decode cX2_seekBest 117 = .ok (.getfield 78, 3) := by decide +kernel
theorem dX2_seekBest_120 : decode cX2_seekBest 120 = .ok (.iconst 1, 1) := by decide +kernel
theorem dX2_seekBest_121 : decode cX2_seekBest 121 = .ok (.iadd, 1) := by decide +kernel
theorem dX2_seekBest_122 : decode cX2_seekBest 122 = .ok (.putfield 78, 3) := by decide +kernel
theorem dX2_seekBest_125 : decode cX2_seekBest 125 = .ok (.aload_n 0, 1) := by decide +kernel
theorem dX2_seekBest_126 : decode cX2_seekBest 126 = .ok (.invokevirtual 93, 3) := by decide +kernel
theorem dX2_seekBest_129 : decode cX2_seekBest 129 = .ok (.istore_n 2, 1) := by decide +kernel
theorem dX2_seekBest_130 : decode cX2_seekBest 130 = .ok (.iinc 3 1, 3) := by decide +kernel
theorem dX2_seekBest_133 : decode cX2_seekBest 133 = .ok (.goto (-124), 3) := by decide +kernel
theorem dX2_seekBest_136 : decode cX2_seekBest 136 = .ok (.return_, 1) := by decide +kernel
theorem dX2_muchFor_0 : decode cX2_muchFor 0 = .ok (.iconst 0, 1) := by decide +kernel
theorem dX2_muchFor_1 : decode cX2_muchFor 1 = .ok (.istore_n 2, 1) := by decide +kernel
theorem dX2_muchFor_2 : decode cX2_muchFor 2 = .ok (.iconst 0, 1) := by decide +kernel
theorem dX2_muchFor_3 : decode cX2_muchFor 3 = .ok (.istore_n 3, 1) := by decide +kernel
theorem dX2_muchFor_4 : decode cX2_muchFor 4 = .ok (.iload_n 3, 1) := by decide +kernel
theorem dX2_muchFor_5 : decode cX2_muchFor 5 = .ok (.aload_n 0, 1) := by decide +kernel
theorem dX2_muchFor_6 : decode cX2_muchFor 6 = .ok (.getfield 43, 3) := by decide +kernel
theorem dX2_muchFor_9 : decode cX2_muchFor 9 = .ok (.if_icmp .ge 55, 3) := by decide +kernel
theorem dX2_muchFor_12 : decode cX2_muchFor 12 = .ok (.aload_n 0, 1) := by decide +kernel
theorem dX2_muchFor_13 : decode cX2_muchFor 13 = .ok (.iload_n 3, 1) := by decide +kernel
theorem dX2_muchFor_14 : decode cX2_muchFor 14 = .ok (.invokevirtual 97, 3) := by decide +kernel
theorem dX2_muchFor_17 : decode cX2_muchFor 17 = .ok (.istore 4, 2) := by decide +kernel
theorem dX2_muchFor_19 : decode cX2_muchFor 19 = .ok (.iload_n 1, 1) := by decide +kernel
theorem dX2_muchFor_20 : decode cX2_muchFor 20 = .ok (.iconst 3, 1) := by decide +kernel
theorem dX2_muchFor_21 : decode cX2_muchFor 21 = .ok (.if_icmp .ne 13, 3) := by decide +kernel
theorem dX2_muchFor_24 : decode cX2_muchFor 24 = .ok (.iload_n 2, 1) := by decide +kernel
theorem dX2_muchFor_25 : decode cX2_muchFor 25 = .ok (.iload 4, 2) := by decide +kernel
theorem dX2_muchFor_27 : decode cX2_muchFor 27 = .ok (.invokestatic 40, 3) := by decide +kernel
theorem dX2_muchFor_30 : decode cX2_muchFor 30 = .ok (.istore_n 2, 1) := by decide +kernel
theorem dX2_muchFor_31 : decode cX2_muchFor 31 = .ok (.goto 27, 3) := by decide +kernel
theorem dX2_muchFor_34 : decode cX2_muchFor 34 = .ok (.iload_n 2, 1) := by decide +kernel
theorem dX2_muchFor_35 : decode cX2_muchFor 35 = .ok (.iload_n 1, 1) := by decide +kernel
theorem dX2_muchFor_36 : decode cX2_muchFor 36 = .ok (.iconst 2, 1) := by decide +kernel
theorem dX2_muchFor_37 : decode cX2_muchFor 37 = .ok (.if_icmp .ne 17, 3) := by decide +kernel
theorem dX2_muchFor_40 : decode cX2_muchFor 40 = .ok (.iload 4, 2) := by decide +kernel
theorem dX2_muchFor_42 : decode cX2_muchFor 42 = .ok (.aload_n 0, 1) := by decide +kernel
theorem dX2_muchFor_43 : decode cX2_muchFor 43 = .ok (.iload_n 3, 1) := by decide +kernel
theorem dX2_muchFor_44 : decode cX2_muchFor 44 = .ok (.invokevirtual 100, 3) := by decide +kernel
theorem dX2_muchFor_47 : decode cX2_muchFor 47 = .ok (.isub, 1) := by decide +kernel
theorem dX2_muchFor_48 : decode cX2_muchFor 48 = .ok (.invokestatic 103, 3) := by decide +kernel
theorem dX2_muchFor_51 : decode cX2_muchFor 51 = .ok (.goto 5, 3) := by decide +kernel
theorem dX2_muchFor_54 : decode cX2_muchFor 54 = .ok (.iload 4, 2) := by decide +kernel
theorem dX2_muchFor_56 : decode cX2_muchFor 56 = .ok (.iadd, 1) := by decide +kernel
theorem dX2_muchFor_57 : decode cX2_muchFor 57 = .ok (.istore_n 2, 1) := by decide +kernel
theorem dX2_muchFor_58 : decode cX2_muchFor 58 = .ok (.iinc 3 1, 3) := by decide +kernel
theorem dX2_muchFor_61 : decode cX2_muchFor 61 = .ok (.goto (-57), 3) := by decide +kernel
theorem dX2_muchFor_64 : decode cX2_muchFor 64 = .ok (.iload_n 2, 1) := by decide +kernel
theorem dX2_muchFor_65 : decode cX2_muchFor 65 = .ok (.ireturn, 1) := by decide +kernel
theorem dX2_bestAt_0 : decode cX2_bestAt 0 = .ok (.iload_n 1, 1) := by decide +kernel
theorem dX2_bestAt_1 : decode cX2_bestAt 1 = .ok (.ifCond .lt 20, 3) := by decide +kernel
theorem dX2_bestAt_4 : decode cX2_bestAt 4 = .ok (.iload_n 1, 1) := by decide +kernel
theorem dX2_bestAt_5 : decode cX2_bestAt 5 = .ok (.aload_n 0, 1) := by decide +kernel
theorem dX2_bestAt_6 : decode cX2_bestAt 6 = .ok (.getfield 43, 3) := by decide +kernel
theorem dX2_bestAt_9 : decode cX2_bestAt 9 = .ok (.if_icmp .ge 12, 3) := by decide +kernel
theorem dX2_bestAt_12 : decode cX2_bestAt 12 = .ok (.aload_n 0, 1) := by decide +kernel
theorem dX2_bestAt_13 : decode cX2_bestAt 13 = .ok (.getfield 21, 3) := by decide +kernel
theorem dX2_bestAt_16 : decode cX2_bestAt 16 = .ok (.iload_n 1, 1) := by decide +kernel
theorem dX2_bestAt_17 : decode cX2_bestAt 17 = .ok (.iaload, 1) := by decide +kernel
theorem dX2_bestAt_18 : decode cX2_bestAt 18 = .ok (.goto 4, 3) := by decide +kernel
theorem dX2_bestAt_21 : decode cX2_bestAt 21 = .ok (.iconst (-1), 1) := by decide +kernel
theorem dX2_bestAt_22 : decode cX2_bestAt 22 = .ok (.ireturn, 1) := by decide +kernel
theorem dX2_isTrade_0 : decode cX2_isTrade 0 = .ok (.aload_n 0, 1) := by decide +kernel
theorem dX2_isTrade_1 : decode cX2_isTrade 1 = .ok (.iload_n 1, 1) := by decide +kernel
theorem dX2_isTrade_2 : decode cX2_isTrade 2 = .ok (.invokevirtual 97, 3) := by decide +kernel
theorem dX2_isTrade_5 : decode cX2_isTrade 5 = .ok (.istore_n 3, 1) := by decide +kernel
theorem dX2_isTrade_6 : decode cX2_isTrade 6 = .ok (.aload_n 0, 1) := by decide +kernel
theorem dX2_isTrade_7 : decode cX2_isTrade 7 = .ok (.iload_n 2, 1) := by decide +kernel
theorem dX2_isTrade_8 : decode cX2_isTrade 8 = .ok (.invokevirtual 97, 3) := by decide +kernel
theorem dX2_isTrade_11 : decode cX2_isTrade 11 = .ok (.istore 4, 2) := by decide +kernel
theorem dX2_isTrade_13 : decode cX2_isTrade 13 = .ok (.aload_n 0, 1) := by decide +kernel
theorem dX2_isTrade_14 : decode cX2_isTrade 14 = .ok (.iload_n 1, 1) := by decide +kernel
theorem dX2_isTrade_15 : decode cX2_isTrade 15 = .ok (.iload_n 2, 1) := by decide +kernel
theorem dX2_isTrade_16 : decode cX2_isTrade 16 = .ok (.invokevirtual 74, 3) := by decide +kernel
theorem dX2_isTrade_19 : decode cX2_isTrade 19 = .ok (.aload_n 0, 1) := by decide +kernel
theorem dX2_isTrade_20 : decode cX2_isTrade 20 = .ok (.iload_n 2, 1) := by decide +kernel
theorem dX2_isTrade_21 : decode cX2_isTrade 21 = .ok (.invokevirtual 97, 3) := by decide +kernel
theorem dX2_isTrade_24 : decode cX2_isTrade 24 = .ok (.iload_n 3, 1) := by decide +kernel
theorem dX2_isTrade_25 : decode cX2_isTrade 25 = .ok (.if_icmp .ge 17, 3) := by decide +kernel
theorem dX2_isTrade_28 : decode cX2_isTrade 28 = .ok (.aload_n 0, 1) := by decide +kernel
theorem dX2_isTrade_29 : decode cX2_isTrade 29 = .ok (.iload_n 1, 1) := by decide +kernel
theorem dX2_isTrade_30 : decode cX2_isTrade 30 = .ok (.invokevirtual 97, 3) := by decide +kernel
theorem dX2_isTrade_33 : decode cX2_isTrade 33 = .ok (.iload 4, 2) := by decide +kernel
theorem dX2_isTrade_35 : decode cX2_isTrade 35 = .ok (.if_icmp .ge 7, 3) := by decide +kernel
theorem dX2_isTrade_38 : decode cX2_isTrade 38 = .ok (.iconst 1, 1) := by decide +kernel
theorem dX2_isTrade_39 : decode cX2_isTrade 39 = .ok (.goto 4, 3) := by decide +kernel
theorem dX2_isTrade_42 : decode cX2_isTrade 42 = .ok (.iconst 0, 1) := by decide +kernel
theorem dX2_isTrade_43 : decode cX2_isTrade 43 = .ok (.istore 5, 2) := by decide +kernel
theorem dX2_isTrade_45 : decode cX2_isTrade 45 = .ok (.aload_n 0, 1) := by decide +kernel
theorem dX2_isTrade_46 : decode cX2_isTrade 46 = .ok (.iload_n 1, 1) := by decide +kernel
theorem dX2_isTrade_47 : decode cX2_isTrade 47 = .ok (.iload_n 2, 1) := by decide +kernel
theorem dX2_isTrade_48 : decode cX2_isTrade 48 = .ok (.invokevirtual 74, 3) := by decide +kernel
theorem dX2_isTrade_51 : decode cX2_isTrade 51 = .ok (.iload 5, 2) := by decide +kernel
theorem dX2_isTrade_53 : decode cX2_isTrade 53 = .ok (.ireturn, 1) := by decide +kernel
theorem dX2_placeInRow_0 : decode cX2_placeInRow 0 = .ok (.iconst 0, 1) := by decide +kernel
theorem dX2_placeInRow_1 : decode cX2_placeInRow 1 = .ok (.istore_n 2, 1) := by decide +kernel
theorem dX2_placeInRow_2 : decode cX2_placeInRow 2 = .ok (.iload_n 2, 1) := by decide +kernel
theorem dX2_placeInRow_3 : decode cX2_placeInRow 3 = .ok (.aload_n 0, 1) := by decide +kernel
theorem dX2_placeInRow_4 : decode cX2_placeInRow 4 = .ok (.getfield 43, 3) := by decide +kernel
theorem dX2_placeInRow_7 : decode cX2_placeInRow 7 = .ok (.if_icmp .ge 21, 3) := by decide +kernel
theorem dX2_placeInRow_10 : decode cX2_placeInRow 10 = .ok (.aload_n 0, 1) := by decide +kernel
theorem dX2_placeInRow_11 : decode cX2_placeInRow 11 = .ok (.getfield 18, 3) := by decide +kernel
theorem dX2_placeInRow_14 : decode cX2_placeInRow 14 = .ok (.iload_n 2, 1) := by decide +kernel
theorem dX2_placeInRow_15 : decode cX2_placeInRow 15 = .ok (.iaload, 1) := by decide +kernel
theorem dX2_placeInRow_16 : decode cX2_placeInRow 16 = .ok (.iload_n 1, 1) := by decide +kernel
theorem dX2_placeInRow_17 : decode cX2_placeInRow 17 = .ok (.if_icmp .ne 5, 3) := by decide +kernel
theorem dX2_placeInRow_20 : decode cX2_placeInRow 20 = .ok (.iload_n 2, 1) := by decide +kernel
theorem dX2_placeInRow_21 : decode cX2_placeInRow 21 = .ok (.ireturn, 1) := by decide +kernel
theorem dX2_placeInRow_22 : decode cX2_placeInRow 22 = .ok (.iinc 2 1, 3) := by decide +kernel
theorem dX2_placeInRow_25 : decode cX2_placeInRow 25 = .ok (.goto (-23), 3) := by decide +kernel
theorem dX2_placeInRow_28 : decode cX2_placeInRow 28 = .ok (.iconst (-1), 1) := by decide +kernel
theorem dX2_placeInRow_29 : decode cX2_placeInRow 29 = .ok (.ireturn, 1) := by decide +kernel
theorem dX2_tradersOf_0 : decode cX2_tradersOf 0 = .ok (.aload_n 0, 1) := by decide +kernel
theorem dX2_tradersOf_1 : decode cX2_tradersOf 1 = .ok (.iload_n 1, 1) := by decide +kernel
theorem dX2_tradersOf_2 : decode cX2_tradersOf 2 = .ok (.invokevirtual 106, 3) := by decide +kernel
theorem dX2_tradersOf_5 : decode cX2_tradersOf 5 = .ok (.istore_n 2, 1) := by decide +kernel
theorem dX2_tradersOf_6 : decode cX2_tradersOf 6 = .ok (.iconst 0, 1) := by decide +kernel
theorem dX2_tradersOf_7 : decode cX2_tradersOf 7 = .ok (.istore_n 3, 1) := by decide +kernel
theorem dX2_tradersOf_8 : decode cX2_tradersOf 8 = .ok (.iconst 0, 1) := by decide +kernel
theorem dX2_tradersOf_9 : decode cX2_tradersOf 9 = .ok (.istore 4, 2) := by decide +kernel
theorem dX2_tradersOf_11 : decode cX2_tradersOf 11 = .ok (.iload 4, 2) := by decide +kernel
theorem dX2_tradersOf_13 : decode cX2_tradersOf 13 = .ok (.aload_n 0, 1) := by decide +kernel
theorem dX2_tradersOf_14 : decode cX2_tradersOf 14 = .ok (.getfield 43, 3) := by decide +kernel
theorem dX2_tradersOf_17 : decode cX2_tradersOf 17 = .ok (.if_icmp .ge 42, 3) := by decide +kernel
theorem dX2_tradersOf_20 : decode cX2_tradersOf 20 = .ok (.iload_n 2, 1) := by decide +kernel
theorem dX2_tradersOf_21 : decode cX2_tradersOf 21 = .ok (.iconst (-1), 1) := by decide +kernel
theorem dX2_tradersOf_22 : decode cX2_tradersOf 22 = .ok (.if_icmp .eq 37, 3) := by decide +kernel
theorem dX2_tradersOf_25 : decode cX2_tradersOf 25 = .ok (.iload 4, 2) := by decide +kernel
theorem dX2_tradersOf_27 : decode cX2_tradersOf 27 = .ok (.iload_n 2, 1) := by decide +kernel
theorem dX2_tradersOf_28 : decode cX2_tradersOf 28 = .ok (.if_icmp .eq 25, 3) := by decide +kernel
theorem dX2_tradersOf_31 : decode cX2_tradersOf 31 = .ok (.aload_n 0, 1) := by decide +kernel
theorem dX2_tradersOf_32 : decode cX2_tradersOf 32 = .ok (.iload_n 2, 1) := by decide +kernel
theorem dX2_tradersOf_33 : decode cX2_tradersOf 33 = .ok (.iload 4, 2) := by decide +kernel
theorem dX2_tradersOf_35 : decode cX2_tradersOf 35 = .ok (.invokevirtual 109, 3) := by decide +kernel
theorem dX2_tradersOf_38 : decode cX2_tradersOf 38 = .ok (.ifCond .eq 15, 3) := by decide +kernel
theorem dX2_tradersOf_41 : decode cX2_tradersOf 41 = .ok (.iload_n 3, 1) := by decide +kernel
theorem dX2_tradersOf_42 : decode cX2_tradersOf 42 = .ok (.iconst 1, 1) := by decide +kernel
theorem dX2_tradersOf_43 : decode cX2_tradersOf 43 = .ok (.aload_n 0, 1) := by decide +kernel
theorem dX2_tradersOf_44 : decode cX2_tradersOf 44 = .ok (.getfield 18, 3) := by decide +kernel
theorem dX2_tradersOf_47 : decode cX2_tradersOf 47 = .ok (.iload 4, 2) := by decide +kernel
theorem dX2_tradersOf_49 : decode cX2_tradersOf 49 = .ok (.iaload, 1) := by decide +kernel
theorem dX2_tradersOf_50 : decode cX2_tradersOf 50 = .ok (.ishl, 1) := by decide +kernel
theorem dX2_tradersOf_51 : decode cX2_tradersOf 51 = .ok (.ior, 1) := by decide +kernel
theorem dX2_tradersOf_52 : decode cX2_tradersOf 52 = .ok (.istore_n 3, 1) := by decide +kernel
theorem dX2_tradersOf_53 : decode cX2_tradersOf 53 = .ok (.iinc 4 1, 3) := by decide +kernel
theorem dX2_tradersOf_56 : decode cX2_tradersOf 56 = .ok (.goto (-45), 3) := by decide +kernel
theorem dX2_tradersOf_59 : decode cX2_tradersOf 59 = .ok (.iload_n 3, 1) := by decide +kernel
theorem dX2_tradersOf_60 : decode cX2_tradersOf 60 = .ok (.ireturn, 1) := by decide +kernel
theorem dX2_isResting_0 : decode cX2_isResting 0 = .ok (.iconst 0, 1) := by decide +kernel
theorem dX2_isResting_1 : decode cX2_isResting 1 = .ok (.istore_n 1, 1) := by decide +kernel
theorem dX2_isResting_2 : decode cX2_isResting 2 = .ok (.iload_n 1, 1) := by decide +kernel
theorem dX2_isResting_3 : decode cX2_isResting 3 = .ok (.aload_n 0, 1) := by decide +kernel
theorem dX2_isResting_4 : decode cX2_isResting 4 = .ok (.getfield 43, 3) := by decide +kernel
theorem dX2_isResting_7 : decode cX2_isResting 7 = .ok (.if_icmp .ge 38, 3) := by decide +kernel
theorem dX2_isResting_10 : decode cX2_isResting 10 = .ok (.iload_n 1, 1) := by decide +kernel
theorem dX2_isResting_11 : decode cX2_isResting 11 = .ok (.iconst 1, 1) := by decide +kernel
theorem dX2_isResting_12 : decode cX2_isResting 12 = .ok (.iadd, 1) := by decide +kernel
theorem dX2_isResting_13 : decode cX2_isResting 13 = .ok (.istore_n 2, 1) := by decide +kernel
theorem dX2_isResting_14 : decode cX2_isResting 14 = .ok (.iload_n 2, 1) := by decide +kernel
theorem dX2_isResting_15 : decode cX2_isResting 15 = .ok (.aload_n 0, 1) := by decide +kernel
theorem dX2_isResting_16 : decode cX2_isResting 16 = .ok (.getfield 43, 3) := by decide +kernel
theorem dX2_isResting_19 : decode cX2_isResting 19 = .ok (.if_icmp .ge 20, 3) := by decide +kernel
theorem dX2_isResting_22 : decode cX2_isResting 22 = .ok (.aload_n 0, 1) := by decide +kernel
theorem dX2_isResting_23 : decode cX2_isResting 23 = .ok (.iload_n 1, 1) := by decide +kernel
theorem dX2_isResting_24 : decode cX2_isResting 24 = .ok (.iload_n 2, 1) := by decide +kernel
theorem dX2_isResting_25 : decode cX2_isResting 25 = .ok (.invokevirtual 109, 3) := by decide +kernel
theorem dX2_isResting_28 : decode cX2_isResting 28 = .ok (.ifCond .eq 5, 3) := by decide +kernel
theorem dX2_isResting_31 : decode cX2_isResting 31 = .ok (.iconst 0, 1) := by decide +kernel
theorem dX2_isResting_32 : decode cX2_isResting 32 = .ok (.ireturn, 1) := by decide +kernel
theorem dX2_isResting_33 : decode cX2_isResting 33 = .ok (.iinc 2 1, 3) := by decide +kernel
theorem dX2_isResting_36 : decode cX2_isResting 36 = .ok (.goto (-22), 3) := by decide +kernel
theorem dX2_isResting_39 : decode cX2_isResting 39 = .ok (.iinc 1 1, 3) := by decide +kernel
theorem dX2_isResting_42 : decode cX2_isResting 42 = .ok (.goto (-40), 3) := by decide +kernel
theorem dX2_isResting_45 : decode cX2_isResting 45 = .ok (.iconst 1, 1) := by decide +kernel
theorem dX2_isResting_46 : decode cX2_isResting 46 = .ok (.ireturn, 1) := by decide +kernel
theorem dX2_countResting_0 : decode cX2_countResting 0 = .ok (.iconst 0, 1) := by decide +kernel
theorem dX2_countResting_1 : decode cX2_countResting 1 = .ok (.istore_n 1, 1) := by decide +kernel
theorem dX2_countResting_2 : decode cX2_countResting 2 = .ok (.iconst 1, 1) := by decide +kernel
theorem dX2_countResting_3 : decode cX2_countResting 3 = .ok (.istore_n 2, 1) := by decide +kernel
theorem dX2_countResting_4 : decode cX2_countResting 4 = .ok (.iconst 0, 1) := by decide +kernel
theorem dX2_countResting_5 : decode cX2_countResting 5 = .ok (.istore_n 3, 1) := by decide +kernel
theorem dX2_countResting_6 : decode cX2_countResting 6 = .ok (.iload_n 3, 1) := by decide +kernel
theorem dX2_countResting_7 : decode cX2_countResting 7 = .ok (.sipush 5040, 3) := by decide +kernel
theorem dX2_countResting_10 : decode cX2_countResting 10 = .ok (.if_icmp .ge 28, 3) := by decide +kernel
theorem dX2_countResting_13 : decode cX2_countResting 13 = .ok (.iload_n 2, 1) := by decide +kernel
theorem dX2_countResting_14 : decode cX2_countResting 14 = .ok (.ifCond .eq 24, 3) := by decide +kernel
theorem dX2_countResting_17 : decode cX2_countResting 17 = .ok (.aload_n 0, 1) := by decide +kernel
theorem dX2_countResting_18 : decode cX2_countResting 18 = .ok (.invokevirtual 113, 3) := by decide +kernel
theorem dX2_countResting_21 : decode cX2_countResting 21 = .ok (.ifCond .eq 6, 3) := by decide +kernel
theorem dX2_countResting_24 : decode cX2_countResting 24 = .ok (.iinc 1 1, 3) := by decide +kernel
theorem dX2_countResting_27 : decode cX2_countResting 27 = .ok (.aload_n 0, 1) := by decide +kernel
theorem dX2_countResting_28 : decode cX2_countResting 28 = .ok (.invokevirtual 93, 3) := by decide +kernel
theorem dX2_countResting_31 : decode cX2_countResting 31 = .ok (.istore_n 2, 1) := by decide +kernel
theorem dX2_countResting_32 : decode cX2_countResting 32 = .ok (.iinc 3 1, 3) := by decide +kernel
theorem dX2_countResting_35 : decode cX2_countResting 35 = .ok (.goto (-29), 3) := by decide +kernel
theorem dX2_countResting_38 : decode cX2_countResting 38 = .ok (.iload_n 1, 1) := by decide +kernel
theorem dX2_countResting_39 : decode cX2_countResting 39 = .ok (.ireturn, 1) := by decide +kernel
theorem dX2_countTrades_0 : decode cX2_countTrades 0 = .ok (.iconst 0, 1) := by decide +kernel
theorem dX2_countTrades_1 : decode cX2_countTrades 1 = .ok (.istore_n 1, 1) := by decide +kernel
theorem dX2_countTrades_2 : decode cX2_countTrades 2 = .ok (.iload_n 1, 1) := by decide +kernel
theorem dX2_countTrades_3 : decode cX2_countTrades 3 = .ok (.bipush 50, 2) := by decide +kernel
theorem dX2_countTrades_5 : decode cX2_countTrades 5 = .ok (.if_icmp .gt 18, 3) := by decide +kernel
theorem dX2_countTrades_8 : decode cX2_countTrades 8 = .ok (.aload_n 0, 1) := by decide +kernel
theorem dX2_countTrades_9 : decode cX2_countTrades 9 = .ok (.invokevirtual 116, 3) := by decide +kernel
theorem dX2_countTrades_12 : decode cX2_countTrades 12 = .ok (.ifCond .ne 5, 3) := by decide +kernel
theorem dX2_countTrades_15 : decode cX2_countTrades 15 = .ok (.iload_n 1, 1) := by decide +kernel
theorem dX2_countTrades_16 : decode cX2_countTrades 16 = .ok (.ireturn, 1) := by decide +kernel
theorem dX2_countTrades_17 : decode cX2_countTrades 17 = .ok (.iinc 1 1, 3) := by decide +kernel
theorem dX2_countTrades_20 : decode cX2_countTrades 20 = .ok (.goto (-18), 3) := by decide +kernel
theorem dX2_countTrades_23 : decode cX2_countTrades 23 = .ok (.bipush (-2), 2) := by decide +kernel
theorem dX2_countTrades_25 : decode cX2_countTrades 25 = .ok (.ireturn, 1) := by decide +kernel
theorem dX2_tradeLowest_0 : decode cX2_tradeLowest 0 = .ok (.iconst 0, 1) := by decide +kernel
theorem dX2_tradeLowest_1 : decode cX2_tradeLowest 1 = .ok (.istore_n 1, 1) := by decide +kernel
theorem dX2_tradeLowest_2 : decode cX2_tradeLowest 2 = .ok (.iload_n 1, 1) := by decide +kernel
theorem dX2_tradeLowest_3 : decode cX2_tradeLowest 3 = .ok (.bipush 7, 2) := by decide +kernel
theorem dX2_tradeLowest_5 : decode cX2_tradeLowest 5 = .ok (.if_icmp .ge 38, 3) := by decide +kernel
theorem dX2_tradeLowest_8 : decode cX2_tradeLowest 8 = .ok (.aload_n 0, 1) := by decide +kernel
theorem dX2_tradeLowest_9 : decode cX2_tradeLowest 9 = .ok (.iload_n 1, 1) := by decide +kernel
theorem dX2_tradeLowest_10 : decode cX2_tradeLowest 10 = .ok (.invokevirtual 119, 3) := by decide +kernel
theorem dX2_tradeLowest_13 : decode cX2_tradeLowest 13 = .ok (.istore_n 2, 1) := by decide +kernel
theorem dX2_tradeLowest_14 : decode cX2_tradeLowest 14 = .ok (.iload_n 2, 1) := by decide +kernel
theorem dX2_tradeLowest_15 : decode cX2_tradeLowest 15 = .ok (.ifCond .eq 22, 3) := by decide +kernel
theorem dX2_tradeLowest_18 : decode cX2_tradeLowest 18 = .ok (.aload_n 0, 1) := by decide +kernel
theorem dX2_tradeLowest_19 : decode cX2_tradeLowest 19 = .ok (.aload_n 0, 1) := by decide +kernel
theorem dX2_tradeLowest_20 : decode cX2_tradeLowest 20 = .ok (.iload_n 1, 1) := by decide +kernel
theorem dX2_tradeLowest_21 : decode cX2_tradeLowest 21 = .ok (.invokevirtual 106, 3) := by decide +kernel
theorem dX2_tradeLowest_24 : decode cX2_tradeLowest 24 = .ok (.aload_n 0, 1) := by decide +kernel
theorem dX2_tradeLowest_25 : decode cX2_tradeLowest 25 = .ok (.iload_n 2, 1) := by decide +kernel
theorem dX2_tradeLowest_26 : decode cX2_tradeLowest 26 = .ok (.invokestatic 122, 3) := by decide +kernel
theorem dX2_tradeLowest_29 : decode cX2_tradeLowest 29 = .ok (.invokevirtual 106, 3) := by decide +kernel
theorem dX2_tradeLowest_32 : decode cX2_tradeLowest 32 = .ok (.invokevirtual 74, 3) := by decide +kernel
theorem dX2_tradeLowest_35 : decode cX2_tradeLowest 35 = .ok (.iconst 1, 1) := by decide +kernel
theorem dX2_tradeLowest_36 : decode cX2_tradeLowest 36 = .ok (.ireturn, 1) := by decide +kernel
theorem dX2_tradeLowest_37 : decode cX2_tradeLowest 37 = .ok (.iinc 1 1, 3) := by decide +kernel
theorem dX2_tradeLowest_40 : decode cX2_tradeLowest 40 = .ok (.goto (-38), 3) := by decide +kernel
theorem dX2_tradeLowest_43 : decode cX2_tradeLowest 43 = .ok (.iconst 0, 1) := by decide +kernel
theorem dX2_tradeLowest_44 : decode cX2_tradeLowest 44 = .ok (.ireturn, 1) := by decide +kernel
theorem dX2_rowNumber_0 : decode cX2_rowNumber 0 = .ok (.iconst 0, 1) := by decide +kernel
theorem dX2_rowNumber_1 : decode cX2_rowNumber 1 = .ok (.istore_n 1, 1) := by decide +kernel
theorem dX2_rowNumber_2 : decode cX2_rowNumber 2 = .ok (.iconst 0, 1) := by decide +kernel
theorem dX2_rowNumber_3 : decode cX2_rowNumber 3 = .ok (.istore_n 2, 1) := by decide +kernel
theorem dX2_rowNumber_4 : decode cX2_rowNumber 4 = .ok (.iload_n 2, 1) := by decide +kernel
theorem dX2_rowNumber_5 : decode cX2_rowNumber 5 = .ok (.aload_n 0, 1) := by decide +kernel
theorem dX2_rowNumber_6 : decode cX2_rowNumber 6 = .ok (.getfield 43, 3) := by decide +kernel
theorem dX2_rowNumber_9 : decode cX2_rowNumber 9 = .ok (.if_icmp .ge 21, 3) := by decide +kernel
theorem dX2_rowNumber_12 : decode cX2_rowNumber 12 = .ok (.bipush 8, 2) := by decide +kernel
theorem dX2_rowNumber_14 : decode cX2_rowNumber 14 = .ok (.iload_n 1, 1) := by decide +kernel
theorem dX2_rowNumber_15 : decode cX2_rowNumber 15 = .ok (.imul, 1) := by decide +kernel
theorem dX2_rowNumber_16 : decode cX2_rowNumber 16 = .ok (.aload_n 0, 1) := by decide +kernel
theorem dX2_rowNumber_17 : decode cX2_rowNumber 17 = .ok (.getfield 18, 3) := by decide +kernel
theorem dX2_rowNumber_20 : decode cX2_rowNumber 20 = .ok (.iload_n 2, 1) := by decide +kernel
theorem dX2_rowNumber_21 : decode cX2_rowNumber 21 = .ok (.iaload, 1) := by decide +kernel
theorem dX2_rowNumber_22 : decode cX2_rowNumber 22 = .ok (.iadd, 1) := by decide +kernel
theorem dX2_rowNumber_23 : decode cX2_rowNumber 23 = .ok (.istore_n 1, 1) := by decide +kernel
theorem dX2_rowNumber_24 : decode cX2_rowNumber 24 = .ok (.iinc 2 1, 3) := by decide +kernel
theorem dX2_rowNumber_27 : decode cX2_rowNumber 27 = .ok (.goto (-23), 3) := by decide +kernel
theorem dX2_rowNumber_30 : decode cX2_rowNumber 30 = .ok (.iload_n 1, 1) := by decide +kernel
theorem dX2_rowNumber_31 : decode cX2_rowNumber 31 = .ok (.ireturn, 1) := by decide +kernel
theorem dX3_init_0 : decode cX3_init 0 = .ok (.aload_n 0, 1) := by decide +kernel
theorem dX3_init_1 : decode cX3_init 1 = .ok (.invokespecial 3, 3) := by decide +kernel
theorem dX3_init_4 : decode cX3_init 4 = .ok (.aload_n 0, 1) := by decide +kernel
theorem dX3_init_5 : decode cX3_init 5 = .ok (.new 9, 3) := by decide +kernel
theorem dX3_init_8 : decode cX3_init 8 = .ok (.dup, 1) := by decide +kernel
theorem dX3_init_9 : decode cX3_init 9 = .ok (.invokespecial 11, 3) := by decide +kernel
theorem dX3_init_12 : decode cX3_init 12 = .ok (.putfield 12, 3) := by decide +kernel
theorem dX3_init_15 : decode cX3_init 15 = .ok (.aload_n 0, 1) := by decide +kernel
theorem dX3_init_16 : decode cX3_init 16 = .ok (.aload_n 1, 1) := by decide +kernel
theorem dX3_init_17 : decode cX3_init 17 = .ok (.putfield 18, 3) := by decide +kernel
theorem dX3_init_20 : decode cX3_init 20 = .ok (.aload_n 0, 1) := by decide +kernel
theorem dX3_init_21 : decode cX3_init 21 = .ok (.aload_n 2, 1) := by decide +kernel
theorem dX3_init_22 : decode cX3_init 22 = .ok (.putfield 22, 3) := by decide +kernel
theorem dX3_init_25 : decode cX3_init 25 = .ok (.return_, 1) := by decide +kernel
theorem dX3_answer_0 : decode cX3_answer 0 = .ok (.iload_n 1, 1) := by decide +kernel
theorem dX3_answer_1 : decode cX3_answer 1 = .ok (.ifCond .eq 12, 3) := by decide +kernel
theorem dX3_answer_4 : decode cX3_answer 4 = .ok (.aload_n 0, 1) := by decide +kernel
theorem dX3_answer_5 : decode cX3_answer 5 = .ok (.getfield 26, 3) := by decide +kernel
theorem dX3_answer_8 : decode cX3_answer 8 = .ok (.bipush (-2), 2) := by decide +kernel
theorem dX3_answer_10 : decode cX3_answer 10 = .ok (.if_icmp .ne 10, 3) := by decide +kernel
theorem dX3_answer_13 : decode cX3_answer 13 = .ok (.aload_n 0, 1) := by decide +kernel
theorem dX3_answer_14 : decode cX3_answer 14 = .ok (.getfield 26, 3) := by decide +kernel
theorem dX3_answer_17 : decode cX3_answer 17 = .ok (.goto 7, 3) := by decide +kernel
theorem dX3_answer_20 : decode cX3_answer 20 = .ok (.aload_n 0, 1) := by decide +kernel
theorem dX3_answer_21 : decode cX3_answer 21 = .ok (.getfield 30, 3) := by decide +kernel
theorem dX3_answer_24 : decode cX3_answer 24 = .ok (.ireturn, 1) := by decide +kernel
theorem dX3_gainOfSwap_0 : decode cX3_gainOfSwap 0 = .ok (.aload_n 0, 1) := by decide +kernel
theorem dX3_gainOfSwap_1 : decode cX3_gainOfSwap 1 = .ok (.getfield 12, 3) := by decide +kernel
theorem dX3_gainOfSwap_4 : decode cX3_gainOfSwap 4 = .ok (.aload_n 1, 1) := by decide +kernel
theorem dX3_gainOfSwap_5 : decode cX3_gainOfSwap 5 = .ok (.invokevirtual 33, 3) := by decide +kernel
theorem dX3_gainOfSwap_8 : decode cX3_gainOfSwap 8 = .ok (.aload_n 0, 1) := by decide +kernel
theorem dX3_gainOfSwap_9 : decode cX3_gainOfSwap 9 = .ok (.getfield 12, 3) := by decide +kernel
theorem dX3_gainOfSwap_12 : decode cX3_gainOfSwap 12 = .ok (.iload_n 2, 1) := by decide +kernel
theorem dX3_gainOfSwap_13 : decode cX3_gainOfSwap 13 = .ok (.iload_n 3, 1) := by decide +kernel
theorem dX3_gainOfSwap_14 : decode cX3_gainOfSwap 14 = .ok (.invokevirtual 37, 3) := by decide +kernel
theorem dX3_gainOfSwap_17 : decode cX3_gainOfSwap 17 = .ok (.aload_n 0, 1) := by decide +kernel
theorem dX3_gainOfSwap_18 : decode cX3_gainOfSwap 18 = .ok (.getfield 22, 3) := by decide +kernel
theorem dX3_gainOfSwap_21 : decode cX3_gainOfSwap 21 = .ok (.aload_n 1, 1) := by decide +kernel
theorem dX3_gainOfSwap_22 : decode cX3_gainOfSwap 22 = .ok (.invokevirtual 41, 3) := by decide +kernel
theorem dX3_gainOfSwap_25 : decode cX3_gainOfSwap 25 = .ok (.aload_n 0, 1) := by decide +kernel
theorem dX3_gainOfSwap_26 : decode cX3_gainOfSwap 26 = .ok (.getfield 22, 3) := by decide +kernel
theorem dX3_gainOfSwap_29 : decode cX3_gainOfSwap 29 = .ok (.aload_n 0, 1) := by decide +kernel
theorem dX3_gainOfSwap_30 : decode cX3_gainOfSwap 30 = .ok (.getfield 12, 3) := by decide +kernel
theorem dX3_gainOfSwap_33 : decode cX3_gainOfSwap 33 = .ok (.invokevirtual 41, 3) := by decide +kernel
theorem dX3_gainOfSwap_36 : decode cX3_gainOfSwap 36 = .ok (.isub, 1) := by decide +kernel
theorem dX3_gainOfSwap_37 : decode cX3_gainOfSwap 37 = .ok (.ireturn, 1) := by decide +kernel
theorem dX3_seekShunned_0 : decode cX3_seekShunned 0 = .ok (.aload_n 0, 1) := by decide +kernel
theorem dX3_seekShunned_1 : decode cX3_seekShunned 1 = .ok (.bipush (-2), 2) := by decide +kernel
theorem dX3_seekShunned_3 : decode cX3_seekShunned 3 = .ok (.putfield 26, 3) := by decide +kernel
theorem dX3_seekShunned_6 : decode cX3_seekShunned 6 = .ok (.iconst 0, 1) := by decide +kernel
theorem dX3_seekShunned_7 : decode cX3_seekShunned 7 = .ok (.istore_n 2, 1) := by decide +kernel
theorem dX3_seekShunned_8 : decode cX3_seekShunned 8 = .ok (.iload_n 2, 1) := by decide +kernel
theorem dX3_seekShunned_9 : decode cX3_seekShunned 9 = .ok (.bipush 7, 2) := by decide +kernel
theorem dX3_seekShunned_11 : decode cX3_seekShunned 11 = .ok (.if_icmp .ge 51, 3) := by decide +kernel
theorem dX3_seekShunned_14 : decode cX3_seekShunned 14 = .ok (.aload_n 1, 1) := by decide +kernel
theorem dX3_seekShunned_15 : decode cX3_seekShunned 15 = .ok (.iload_n 2, 1) := by decide +kernel
theorem dX3_seekShunned_16 : decode cX3_seekShunned 16 = .ok (.invokevirtual 47, 3) := by decide +kernel
theorem dX3_seekShunned_19 : decode cX3_seekShunned 19 = .ok (.ifCond .eq 37, 3) := by decide +kernel
theorem dX3_seekShunned_22 : decode cX3_seekShunned 22 = .ok (.aload_n 0, 1) := by decide +kernel
theorem dX3_seekShunned_23 : decode cX3_seekShunned 23 = .ok (.aload_n 1, 1) := by decide +kernel
theorem dX3_seekShunned_24 : decode cX3_seekShunned 24 = .ok (.iload_n 2, 1) := by decide +kernel
theorem dX3_seekShunned_25 : decode cX3_seekShunned 25 = .ok (.invokevirtual 51, 3) := by decide +kernel
theorem dX3_seekShunned_28 : decode cX3_seekShunned 28 = .ok (.istore_n 3, 1) := by decide +kernel
theorem dX3_seekShunned_29 : decode cX3_seekShunned 29 = .ok (.aload_n 0, 1) := by decide +kernel
theorem dX3_seekShunned_30 : decode cX3_seekShunned 30 = .ok (.getfield 26, 3) := by decide +kernel
theorem dX3_seekShunned_33 : decode cX3_seekShunned 33 = .ok (.bipush (-2), 2) := by decide +kernel
theorem dX3_seekShunned_35 : decode cX3_seekShunned 35 = .ok (.if_icmp .eq 11, 3) := by decide +kernel
theorem dX3_seekShunned_38 : decode cX3_seekShunned 38 = .ok (.iload_n 3, 1) := by decide +kernel
theorem dX3_seekShunned_39 : decode cX3_seekShunned 39 = .ok (.aload_n 0, 1) := by decide +kernel
theorem dX3_seekShunned_40 : decode cX3_seekShunned 40 = .ok (.getfield 30, 3) := by decide +kernel
theorem dX3_seekShunned_43 : decode cX3_seekShunned 43 = .ok (.if_icmp .le 13, 3) := by decide +kernel
theorem dX3_seekShunned_46 : decode cX3_seekShunned 46 = .ok (.aload_n 0, 1) := by decide +kernel
theorem dX3_seekShunned_47 : decode cX3_seekShunned 47 = .ok (.iload_n 2, 1) := by decide +kernel
theorem dX3_seekShunned_48 : decode cX3_seekShunned 48 = .ok (.putfield 26, 3) := by decide +kernel
theorem dX3_seekShunned_51 : decode cX3_seekShunned 51 = .ok (.aload_n 0, 1) := by decide +kernel
theorem dX3_seekShunned_52 : decode cX3_seekShunned 52 = .ok (.iload_n 3, 1) := by decide +kernel
theorem dX3_seekShunned_53 : decode cX3_seekShunned 53 = .ok (.putfield 30, 3) := by decide +kernel
theorem dX3_seekShunned_56 : decode cX3_seekShunned 56 = .ok (.iinc 2 1, 3) := by decide +kernel
theorem dX3_seekShunned_59 : decode cX3_seekShunned 59 = .ok (.goto (-51), 3) := by decide +kernel
theorem dX3_seekShunned_62 : decode cX3_seekShunned 62 = .ok (.return_, 1) := by decide +kernel
theorem dX3_doomsBehind_0 : decode cX3_doomsBehind 0 = .ok (.iconst 0, 1) := by decide +kernel
theorem dX3_doomsBehind_1 : decode cX3_doomsBehind 1 = .ok (.istore_n 3, 1) := by decide +kernel
theorem dX3_doomsBehind_2 : decode cX3_doomsBehind 2 = .ok (.iconst 0, 1) := by decide +kernel
theorem dX3_doomsBehind_3 : decode cX3_doomsBehind 3 = .ok (.istore 4, 2) := by decide +kernel
theorem dX3_doomsBehind_5 : decode cX3_doomsBehind 5 = .ok (.iload 4, 2) := by decide +kernel
theorem dX3_doomsBehind_7 : decode cX3_doomsBehind 7 = .ok (.aload_n 1, 1) := by decide +kernel
theorem dX3_doomsBehind_8 : decode cX3_doomsBehind 8 = .ok (.getfield 55, 3) := by decide +kernel
theorem dX3_doomsBehind_11 : decode cX3_doomsBehind 11 = .ok (.if_icmp .ge 60, 3) := by decide +kernel
theorem dX3_doomsBehind_14 : decode cX3_doomsBehind 14 = .ok (.aload_n 1, 1) := by decide +kernel
theorem dX3_doomsBehind_15 : decode cX3_doomsBehind 15 = .ok (.iload 4, 2) := by decide +kernel
theorem dX3_doomsBehind_17 : decode cX3_doomsBehind 17 = .ok (.invokevirtual 58, 3) := by decide +kernel
theorem dX3_doomsBehind_20 : decode cX3_doomsBehind 20 = .ok (.istore 5, 2) := by decide +kernel
theorem dX3_doomsBehind_22 : decode cX3_doomsBehind 22 = .ok (.iload 5, 2) := by decide +kernel
theorem dX3_doomsBehind_24 : decode cX3_doomsBehind 24 = .ok (.iload_n 2, 1) := by decide +kernel
theorem dX3_doomsBehind_25 : decode cX3_doomsBehind 25 = .ok (.if_icmp .eq 40, 3) := by decide +kernel
theorem dX3_doomsBehind_28 : decode cX3_doomsBehind 28 = .ok (.aload_n 0, 1) := by decide +kernel
theorem dX3_doomsBehind_29 : decode cX3_doomsBehind 29 = .ok (.getfield 22, 3) := by decide +kernel
theorem dX3_doomsBehind_32 : decode cX3_doomsBehind 32 = .ok (.aload_n 1, 1) := by decide +kernel
theorem dX3_doomsBehind_33 : decode cX3_doomsBehind 33 = .ok (.iload 5, 2) := by decide +kernel
theorem dX3_doomsBehind_35 : decode cX3_doomsBehind 35 = .ok (.iload 4, 2) := by decide +kernel
theorem dX3_doomsBehind_37 : decode cX3_doomsBehind 37 = .ok (.aload_n 1, 1) := by decide +kernel
theorem dX3_doomsBehind_38 : decode cX3_doomsBehind 38 = .ok (.iload 4, 2) := by decide +kernel
theorem dX3_doomsBehind_40 : decode cX3_doomsBehind 40 = .ok (.invokevirtual 62, 3) := by decide +kernel
theorem dX3_doomsBehind_43 : decode cX3_doomsBehind 43 = .ok (.invokevirtual 65, 3) := by decide +kernel
theorem dX3_doomsBehind_46 : decode cX3_doomsBehind 46 = .ok (.iload_n 3, 1) := by decide +kernel
theorem dX3_doomsBehind_47 : decode cX3_doomsBehind 47 = .ok (.aload_n 0, 1) := by decide +kernel
theorem dX3_doomsBehind_48 : decode cX3_doomsBehind 48 = .ok (.getfield 22, 3) := by decide +kernel
theorem dX3_doomsBehind_51 : decode cX3_doomsBehind 51 = .ok (.iconst 0, 1) := by decide +kernel
theorem dX3_doomsBehind_52 : decode cX3_doomsBehind 52 = .ok (.aload_n 0, 1) := by decide +kernel
theorem dX3_doomsBehind_53 : decode cX3_doomsBehind 53 = .ok (.getfield 18, 3) := by decide +kernel
theorem dX3_doomsBehind_56 : decode cX3_doomsBehind 56 = .ok (.iload_n 2, 1) := by decide +kernel
theorem dX3_doomsBehind_57 : decode cX3_doomsBehind 57 = .ok (.invokevirtual 69, 3) := by decide +kernel
theorem dX3_doomsBehind_60 : decode cX3_doomsBehind 60 = .ok (.invokevirtual 74, 3) := by decide +kernel
theorem dX3_doomsBehind_63 : decode cX3_doomsBehind 63 = .ok (.iadd, 1) := by decide +kernel
theorem dX3_doomsBehind_64 : decode cX3_doomsBehind 64 = .ok (.istore_n 3, 1) := by decide +kernel
theorem dX3_doomsBehind_65 : decode cX3_doomsBehind 65 = .ok (.iinc 4 1, 3) := by decide +kernel
theorem dX3_doomsBehind_68 : decode cX3_doomsBehind 68 = .ok (.goto (-63), 3) := by decide +kernel
theorem dX3_doomsBehind_71 : decode cX3_doomsBehind 71 = .ok (.iload_n 3, 1) := by decide +kernel
theorem dX3_doomsBehind_72 : decode cX3_doomsBehind 72 = .ok (.ireturn, 1) := by decide +kernel
theorem dX3_buyersOf_0 : decode cX3_buyersOf 0 = .ok (.iconst 0, 1) := by decide +kernel
theorem dX3_buyersOf_1 : decode cX3_buyersOf 1 = .ok (.istore_n 2, 1) := by decide +kernel
theorem dX3_buyersOf_2 : decode cX3_buyersOf 2 = .ok (.iconst 1, 1) := by decide +kernel
theorem dX3_buyersOf_3 : decode cX3_buyersOf 3 = .ok (.istore_n 3, 1) := by decide +kernel
theorem dX3_buyersOf_4 : decode cX3_buyersOf 4 = .ok (.iload_n 3, 1) := by decide +kernel
theorem dX3_buyersOf_5 : decode cX3_buyersOf 5 = .ok (.aload_n 1, 1) := by decide +kernel
theorem dX3_buyersOf_6 : decode cX3_buyersOf 6 = .ok (.getfield 55, 3) := by decide +kernel
theorem dX3_buyersOf_9 : decode cX3_buyersOf 9 = .ok (.if_icmp .ge 40, 3) := by decide +kernel
theorem dX3_buyersOf_12 : decode cX3_buyersOf 12 = .ok (.aload_n 1, 1) := by decide +kernel
theorem dX3_buyersOf_13 : decode cX3_buyersOf 13 = .ok (.aload_n 1, 1) := by decide +kernel
theorem dX3_buyersOf_14 : decode cX3_buyersOf 14 = .ok (.iload_n 3, 1) := by decide +kernel
theorem dX3_buyersOf_15 : decode cX3_buyersOf 15 = .ok (.invokevirtual 62, 3) := by decide +kernel
theorem dX3_buyersOf_18 : decode cX3_buyersOf 18 = .ok (.invokevirtual 78, 3) := by decide +kernel
theorem dX3_buyersOf_21 : decode cX3_buyersOf 21 = .ok (.ifCond .ne 22, 3) := by decide +kernel
theorem dX3_buyersOf_24 : decode cX3_buyersOf 24 = .ok (.aload_n 0, 1) := by decide +kernel
theorem dX3_buyersOf_25 : decode cX3_buyersOf 25 = .ok (.aload_n 1, 1) := by decide +kernel
theorem dX3_buyersOf_26 : decode cX3_buyersOf 26 = .ok (.iload_n 3, 1) := by decide +kernel
theorem dX3_buyersOf_27 : decode cX3_buyersOf 27 = .ok (.invokevirtual 81, 3) := by decide +kernel
theorem dX3_buyersOf_30 : decode cX3_buyersOf 30 = .ok (.ifCond .eq 13, 3) := by decide +kernel
theorem dX3_buyersOf_33 : decode cX3_buyersOf 33 = .ok (.iload_n 2, 1) := by decide +kernel
theorem dX3_buyersOf_34 : decode cX3_buyersOf 34 = .ok (.iconst 1, 1) := by decide +kernel
theorem dX3_buyersOf_35 : decode cX3_buyersOf 35 = .ok (.aload_n 1, 1) := by decide +kernel
theorem dX3_buyersOf_36 : decode cX3_buyersOf 36 = .ok (.iload_n 3, 1) := by decide +kernel
theorem dX3_buyersOf_37 : decode cX3_buyersOf 37 = .ok (.invokevirtual 58, 3) := by decide +kernel
theorem dX3_buyersOf_40 : decode cX3_buyersOf 40 = .ok (.ishl, 1) := by decide +kernel
theorem dX3_buyersOf_41 : decode cX3_buyersOf 41 = .ok (.ior, 1) := by decide +kernel
theorem dX3_buyersOf_42 : decode cX3_buyersOf 42 = .ok (.istore_n 2, 1) := by decide +kernel
theorem dX3_buyersOf_43 : decode cX3_buyersOf 43 = .ok (.iinc 3 1, 3) := by decide +kernel
theorem dX3_buyersOf_46 : decode cX3_buyersOf 46 = .ok (.goto (-42), 3) := by decide +kernel
theorem dX3_buyersOf_49 : decode cX3_buyersOf 49 = .ok (.iload_n 2, 1) := by decide +kernel
theorem dX3_buyersOf_50 : decode cX3_buyersOf 50 = .ok (.ireturn, 1) := by decide +kernel
theorem dX3_isBuyer_0 : decode cX3_isBuyer 0 = .ok (.aload_n 1, 1) := by decide +kernel
theorem dX3_isBuyer_1 : decode cX3_isBuyer 1 = .ok (.iload_n 2, 1) := by decide +kernel
theorem dX3_isBuyer_2 : decode cX3_isBuyer 2 = .ok (.invokevirtual 58, 3) := by decide +kernel
theorem dX3_isBuyer_5 : decode cX3_isBuyer 5 = .ok (.istore_n 3, 1) := by decide +kernel
theorem dX3_isBuyer_6 : decode cX3_isBuyer 6 = .ok (.aload_n 1, 1) := by decide +kernel
theorem dX3_isBuyer_7 : decode cX3_isBuyer 7 = .ok (.iload_n 2, 1) := by decide +kernel
theorem dX3_isBuyer_8 : decode cX3_isBuyer 8 = .ok (.invokevirtual 62, 3) := by decide +kernel
theorem dX3_isBuyer_11 : decode cX3_isBuyer 11 = .ok (.istore 4, 2) := by decide +kernel
theorem dX3_isBuyer_13 : decode cX3_isBuyer 13 = .ok (.aload_n 0, 1) := by decide +kernel
theorem dX3_isBuyer_14 : decode cX3_isBuyer 14 = .ok (.getfield 22, 3) := by decide +kernel
theorem dX3_isBuyer_17 : decode cX3_isBuyer 17 = .ok (.aload_n 1, 1) := by decide +kernel
theorem dX3_isBuyer_18 : decode cX3_isBuyer 18 = .ok (.iload_n 3, 1) := by decide +kernel
theorem dX3_isBuyer_19 : decode cX3_isBuyer 19 = .ok (.iload_n 2, 1) := by decide +kernel
theorem dX3_isBuyer_20 : decode cX3_isBuyer 20 = .ok (.iload 4, 2) := by decide +kernel
theorem dX3_isBuyer_22 : decode cX3_isBuyer 22 = .ok (.invokevirtual 65, 3) := by decide +kernel
theorem dX3_isBuyer_25 : decode cX3_isBuyer 25 = .ok (.aload_n 0, 1) := by decide +kernel
theorem dX3_isBuyer_26 : decode cX3_isBuyer 26 = .ok (.getfield 22, 3) := by decide +kernel
theorem dX3_isBuyer_29 : decode cX3_isBuyer 29 = .ok (.iconst 2, 1) := by decide +kernel
theorem dX3_isBuyer_30 : decode cX3_isBuyer 30 = .ok (.aload_n 0, 1) := by decide +kernel
theorem dX3_isBuyer_31 : decode cX3_isBuyer 31 = .ok (.getfield 18, 3) := by decide +kernel
theorem dX3_isBuyer_34 : decode cX3_isBuyer 34 = .ok (.iload 4, 2) := by decide +kernel
theorem dX3_isBuyer_36 : decode cX3_isBuyer 36 = .ok (.invokevirtual 69, 3) := by decide +kernel
theorem dX3_isBuyer_39 : decode cX3_isBuyer 39 = .ok (.invokevirtual 74, 3) := by decide +kernel
theorem dX3_isBuyer_42 : decode cX3_isBuyer 42 = .ok (.istore 5, 2) := by decide +kernel
theorem dX3_isBuyer_44 : decode cX3_isBuyer 44 = .ok (.aload_n 0, 1) := by decide +kernel
theorem dX3_isBuyer_45 : decode cX3_isBuyer 45 = .ok (.getfield 12, 3) := by decide +kernel
theorem dX3_isBuyer_48 : decode cX3_isBuyer 48 = .ok (.aload_n 1, 1) := by decide +kernel
theorem dX3_isBuyer_49 : decode cX3_isBuyer 49 = .ok (.invokevirtual 33, 3) := by decide +kernel
theorem dX3_isBuyer_52 : decode cX3_isBuyer 52 = .ok (.aload_n 0, 1) := by decide +kernel
theorem dX3_isBuyer_53 : decode cX3_isBuyer 53 = .ok (.getfield 12, 3) := by decide +kernel
theorem dX3_isBuyer_56 : decode cX3_isBuyer 56 = .ok (.iload 4, 2) := by decide +kernel
theorem dX3_isBuyer_58 : decode cX3_isBuyer 58 = .ok (.invokevirtual 85, 3) := by decide +kernel
theorem dX3_isBuyer_61 : decode cX3_isBuyer 61 = .ok (.aload_n 0, 1) := by decide +kernel
theorem dX3_isBuyer_62 : decode cX3_isBuyer 62 = .ok (.getfield 22, 3) := by decide +kernel
theorem dX3_isBuyer_65 : decode cX3_isBuyer 65 = .ok (.aload_n 1, 1) := by decide +kernel
theorem dX3_isBuyer_66 : decode cX3_isBuyer 66 = .ok (.iload_n 2, 1) := by decide +kernel
theorem dX3_isBuyer_67 : decode cX3_isBuyer 67 = .ok (.invokevirtual 89, 3) := by decide +kernel
theorem dX3_isBuyer_70 : decode cX3_isBuyer 70 = .ok (.aload_n 0, 1) := by decide +kernel
theorem dX3_isBuyer_71 : decode cX3_isBuyer 71 = .ok (.getfield 22, 3) := by decide +kernel
theorem dX3_isBuyer_74 : decode cX3_isBuyer 74 = .ok (.aload_n 0, 1) := by decide +kernel
theorem dX3_isBuyer_75 : decode cX3_isBuyer 75 = .ok (.getfield 12, 3) := by decide +kernel
theorem dX3_isBuyer_78 : decode cX3_isBuyer 78 = .ok (.iload_n 2, 1) := by decide +kernel
theorem dX3_isBuyer_79 : decode cX3_isBuyer 79 = .ok (.invokevirtual 89, 3) := by decide +kernel
theorem dX3_isBuyer_82 : decode cX3_isBuyer 82 = .ok (.isub, 1) := by decide +kernel
theorem dX3_isBuyer_83 : decode cX3_isBuyer 83 = .ok (.istore 6, 2) := by decide +kernel
theorem dX3_isBuyer_85 : decode cX3_isBuyer 85 = .ok (.iload 6, 2) := by decide +kernel
theorem dX3_isBuyer_87 : decode cX3_isBuyer 87 = .ok (.iload 5, 2) := by decide +kernel
theorem dX3_isBuyer_89 : decode cX3_isBuyer 89 = .ok (.if_icmp .le 29, 3) := by decide +kernel
theorem dX3_isBuyer_92 : decode cX3_isBuyer 92 = .ok (.aload_n 0, 1) := by decide +kernel
theorem dX3_isBuyer_93 : decode cX3_isBuyer 93 = .ok (.getfield 18, 3) := by decide +kernel
theorem dX3_isBuyer_96 : decode cX3_isBuyer 96 = .ok (.iload_n 3, 1) := by decide +kernel
theorem dX3_isBuyer_97 : decode cX3_isBuyer 97 = .ok (.invokevirtual 92, 3) := by decide +kernel
theorem dX3_isBuyer_100 : decode cX3_isBuyer 100 = .ok (.ifCond .eq 18, 3) := by decide +kernel
theorem dX3_isBuyer_103 : decode cX3_isBuyer 103 = .ok (.aload_n 1, 1) := by decide +kernel
theorem dX3_isBuyer_104 : decode cX3_isBuyer 104 = .ok (.getfield 95, 3) := by decide +kernel
theorem dX3_isBuyer_107 : decode cX3_isBuyer 107 = .ok (.iload_n 3, 1) := by decide +kernel
theorem dX3_isBuyer_108 : decode cX3_isBuyer 108 = .ok (.iaload, 1) := by decide +kernel
theorem dX3_isBuyer_109 : decode cX3_isBuyer 109 = .ok (.iload 5, 2) := by decide +kernel
theorem dX3_isBuyer_111 : decode cX3_isBuyer 111 = .ok (.if_icmp .lt 7, 3) := by decide +kernel
theorem dX3_isBuyer_114 : decode cX3_isBuyer 114 = .ok (.iconst 1, 1) := by decide +kernel
theorem dX3_isBuyer_115 : decode cX3_isBuyer 115 = .ok (.goto 4, 3) := by decide +kernel
theorem dX3_isBuyer_118 : decode cX3_isBuyer 118 = .ok (.iconst 0, 1) := by decide +kernel
theorem dX3_isBuyer_119 : decode cX3_isBuyer 119 = .ok (.ireturn, 1) := by decide +kernel
theorem dX3_seekLighter_0 : decode cX3_seekLighter 0 = .ok (.aload_n 0, 1) := by decide +kernel
theorem dX3_seekLighter_1 : decode cX3_seekLighter 1 = .ok (.bipush (-2), 2) := by decide +kernel
theorem dX3_seekLighter_3 : decode cX3_seekLighter 3 = .ok (.putfield 26, 3) := by decide +kernel
theorem dX3_seekLighter_6 : decode cX3_seekLighter 6 = .ok (.iconst 0, 1) := by decide +kernel
theorem dX3_seekLighter_7 : decode cX3_seekLighter 7 = .ok (.istore_n 2, 1) := by decide +kernel
theorem dX3_seekLighter_8 : decode cX3_seekLighter 8 = .ok (.iload_n 2, 1) := by decide +kernel
theorem dX3_seekLighter_9 : decode cX3_seekLighter 9 = .ok (.bipush 7, 2) := by decide +kernel
theorem dX3_seekLighter_11 : decode cX3_seekLighter 11 = .ok (.if_icmp .ge 72, 3) := by decide +kernel
theorem dX3_seekLighter_14 : decode cX3_seekLighter 14 = .ok (.aload_n 1, 1) := by decide +kernel
theorem dX3_seekLighter_15 : decode cX3_seekLighter 15 = .ok (.iload_n 2, 1) := by decide +kernel
theorem dX3_seekLighter_16 : decode cX3_seekLighter 16 = .ok (.invokevirtual 47, 3) := by decide +kernel
theorem dX3_seekLighter_19 : decode cX3_seekLighter 19 = .ok (.ifCond .eq 58, 3) := by decide +kernel
theorem dX3_seekLighter_22 : decode cX3_seekLighter 22 = .ok (.aload_n 0, 1) := by decide +kernel
theorem dX3_seekLighter_23 : decode cX3_seekLighter 23 = .ok (.getfield 12, 3) := by decide +kernel
theorem dX3_seekLighter_26 : decode cX3_seekLighter 26 = .ok (.aload_n 1, 1) := by decide +kernel
theorem dX3_seekLighter_27 : decode cX3_seekLighter 27 = .ok (.invokevirtual 33, 3) := by decide +kernel
theorem dX3_seekLighter_30 : decode cX3_seekLighter 30 = .ok (.aload_n 0, 1) := by decide +kernel
theorem dX3_seekLighter_31 : decode cX3_seekLighter 31 = .ok (.getfield 12, 3) := by decide +kernel
theorem dX3_seekLighter_34 : decode cX3_seekLighter 34 = .ok (.iload_n 2, 1) := by decide +kernel
theorem dX3_seekLighter_35 : decode cX3_seekLighter 35 = .ok (.invokevirtual 99, 3) := by decide +kernel
theorem dX3_seekLighter_38 : decode cX3_seekLighter 38 = .ok (.aload_n 0, 1) := by decide +kernel
theorem dX3_seekLighter_39 : decode cX3_seekLighter 39 = .ok (.getfield 22, 3) := by decide +kernel
theorem dX3_seekLighter_42 : decode cX3_seekLighter 42 = .ok (.aload_n 0, 1) := by decide +kernel
theorem dX3_seekLighter_43 : decode cX3_seekLighter 43 = .ok (.getfield 12, 3) := by decide +kernel
theorem dX3_seekLighter_46 : decode cX3_seekLighter 46 = .ok (.invokevirtual 41, 3) := by decide +kernel
theorem dX3_seekLighter_49 : decode cX3_seekLighter 49 = .ok (.istore_n 3, 1) := by decide +kernel
theorem dX3_seekLighter_50 : decode cX3_seekLighter 50 = .ok (.aload_n 0, 1) := by decide +kernel
theorem dX3_seekLighter_51 : decode cX3_seekLighter 51 = .ok (.getfield 26, 3) := by decide +kernel
theorem dX3_seekLighter_54 : decode cX3_seekLighter 54 = .ok (.bipush (-2), 2) := by decide +kernel
theorem dX3_seekLighter_56 : decode cX3_seekLighter 56 = .ok (.if_icmp .eq 11, 3) := by decide +kernel
theorem dX3_seekLighter_59 : decode cX3_seekLighter 59 = .ok (.iload_n 3, 1) := by decide +kernel
theorem dX3_seekLighter_60 : decode cX3_seekLighter 60 = .ok (.aload_n 0, 1) := by decide +kernel
theorem dX3_seekLighter_61 : decode cX3_seekLighter 61 = .ok (.getfield 30, 3) := by decide +kernel
theorem dX3_seekLighter_64 : decode cX3_seekLighter 64 = .ok (.if_icmp .ge 13, 3) := by decide +kernel
theorem dX3_seekLighter_67 : decode cX3_seekLighter 67 = .ok (.aload_n 0, 1) := by decide +kernel
theorem dX3_seekLighter_68 : decode cX3_seekLighter 68 = .ok (.iload_n 2, 1) := by decide +kernel
theorem dX3_seekLighter_69 : decode cX3_seekLighter 69 = .ok (.putfield 26, 3) := by decide +kernel
theorem dX3_seekLighter_72 : decode cX3_seekLighter 72 = .ok (.aload_n 0, 1) := by decide +kernel
theorem dX3_seekLighter_73 : decode cX3_seekLighter 73 = .ok (.iload_n 3, 1) := by decide +kernel
theorem dX3_seekLighter_74 : decode cX3_seekLighter 74 = .ok (.putfield 30, 3) := by decide +kernel
theorem dX3_seekLighter_77 : decode cX3_seekLighter 77 = .ok (.iinc 2 1, 3) := by decide +kernel
theorem dX3_seekLighter_80 : decode cX3_seekLighter 80 = .ok (.goto (-72), 3) := by decide +kernel
theorem dX3_seekLighter_83 : decode cX3_seekLighter 83 = .ok (.return_, 1) := by decide +kernel
theorem dX3_seekFurthest_0 : decode cX3_seekFurthest 0 = .ok (.aload_n 0, 1) := by decide +kernel
theorem dX3_seekFurthest_1 : decode cX3_seekFurthest 1 = .ok (.bipush (-2), 2) := by decide +kernel
theorem dX3_seekFurthest_3 : decode cX3_seekFurthest 3 = .ok (.putfield 26, 3) := by decide +kernel
theorem dX3_seekFurthest_6 : decode cX3_seekFurthest 6 = .ok (.iconst 0, 1) := by decide +kernel
theorem dX3_seekFurthest_7 : decode cX3_seekFurthest 7 = .ok (.istore_n 3, 1) := by decide +kernel
theorem dX3_seekFurthest_8 : decode cX3_seekFurthest 8 = .ok (.iload_n 3, 1) := by decide +kernel
theorem dX3_seekFurthest_9 : decode cX3_seekFurthest 9 = .ok (.aload_n 1, 1) := by decide +kernel
theorem dX3_seekFurthest_10 : decode cX3_seekFurthest 10 = .ok (.getfield 55, 3) := by decide +kernel
theorem dX3_seekFurthest_13 : decode cX3_seekFurthest 13 = .ok (.if_icmp .ge 69, 3) := by decide +kernel
theorem dX3_seekFurthest_16 : decode cX3_seekFurthest 16 = .ok (.aload_n 0, 1) := by decide +kernel
theorem dX3_seekFurthest_17 : decode cX3_seekFurthest 17 = .ok (.getfield 12, 3) := by decide +kernel
theorem dX3_seekFurthest_20 : decode cX3_seekFurthest 20 = .ok (.aload_n 1, 1) := by decide +kernel
theorem dX3_seekFurthest_21 : decode cX3_seekFurthest 21 = .ok (.invokevirtual 33, 3) := by decide +kernel
theorem dX3_seekFurthest_24 : decode cX3_seekFurthest 24 = .ok (.aload_n 0, 1) := by decide +kernel
theorem dX3_seekFurthest_25 : decode cX3_seekFurthest 25 = .ok (.getfield 12, 3) := by decide +kernel
theorem dX3_seekFurthest_28 : decode cX3_seekFurthest 28 = .ok (.iload_n 2, 1) := by decide +kernel
theorem dX3_seekFurthest_29 : decode cX3_seekFurthest 29 = .ok (.iload_n 3, 1) := by decide +kernel
theorem dX3_seekFurthest_30 : decode cX3_seekFurthest 30 = .ok (.invokevirtual 102, 3) := by decide +kernel
theorem dX3_seekFurthest_33 : decode cX3_seekFurthest 33 = .ok (.aload_n 0, 1) := by decide +kernel
theorem dX3_seekFurthest_34 : decode cX3_seekFurthest 34 = .ok (.getfield 22, 3) := by decide +kernel
theorem dX3_seekFurthest_37 : decode cX3_seekFurthest 37 = .ok (.aload_n 0, 1) := by decide +kernel
theorem dX3_seekFurthest_38 : decode cX3_seekFurthest 38 = .ok (.getfield 12, 3) := by decide +kernel
theorem dX3_seekFurthest_41 : decode cX3_seekFurthest 41 = .ok (.iload_n 3, 1) := by decide +kernel
theorem dX3_seekFurthest_42 : decode cX3_seekFurthest 42 = .ok (.invokevirtual 89, 3) := by decide +kernel
theorem dX3_seekFurthest_45 : decode cX3_seekFurthest 45 = .ok (.istore 4, 2) := by decide +kernel
theorem dX3_seekFurthest_47 : decode cX3_seekFurthest 47 = .ok (.aload_n 0, 1) := by decide +kernel
theorem dX3_seekFurthest_48 : decode cX3_seekFurthest 48 = .ok (.getfield 26, 3) := by decide +kernel
theorem dX3_seekFurthest_51 : decode cX3_seekFurthest 51 = .ok (.bipush (-2), 2) := by decide +kernel
theorem dX3_seekFurthest_53 : decode cX3_seekFurthest 53 = .ok (.if_icmp .eq 12, 3) := by decide +kernel
theorem dX3_seekFurthest_56 : decode cX3_seekFurthest 56 = .ok (.iload 4, 2) := by decide +kernel
theorem dX3_seekFurthest_58 : decode cX3_seekFurthest 58 = .ok (.aload_n 0, 1) := by decide +kernel
theorem dX3_seekFurthest_59 : decode cX3_seekFurthest 59 = .ok (.getfield 30, 3) := by decide +kernel
theorem dX3_seekFurthest_62 : decode cX3_seekFurthest 62 = .ok (.if_icmp .ge 14, 3) := by decide +kernel
theorem dX3_seekFurthest_65 : decode cX3_seekFurthest 65 = .ok (.aload_n 0, 1) := by decide +kernel
theorem dX3_seekFurthest_66 : decode cX3_seekFurthest 66 = .ok (.iload_n 3, 1) := by decide +kernel
theorem dX3_seekFurthest_67 : decode cX3_seekFurthest 67 = .ok (.putfield 26, 3) := by decide +kernel
theorem dX3_seekFurthest_70 : decode cX3_seekFurthest 70 = .ok (.aload_n 0, 1) := by decide +kernel
theorem dX3_seekFurthest_71 : decode cX3_seekFurthest 71 = .ok (.iload 4, 2) := by decide +kernel
theorem dX3_seekFurthest_73 : decode cX3_seekFurthest 73 = .ok (.putfield 30, 3) := by decide +kernel
theorem dX3_seekFurthest_76 : decode cX3_seekFurthest 76 = .ok (.iinc 3 1, 3) := by decide +kernel
theorem dX3_seekFurthest_79 : decode cX3_seekFurthest 79 = .ok (.goto (-71), 3) := by decide +kernel
theorem dX3_seekFurthest_82 : decode cX3_seekFurthest 82 = .ok (.return_, 1) := by decide +kernel
theorem dX3_inSessions_0 : decode cX3_inSessions 0 = .ok (.aload_n 0, 1) := by decide +kernel
theorem dX3_inSessions_1 : decode cX3_inSessions 1 = .ok (.getfield 12, 3) := by decide +kernel
theorem dX3_inSessions_4 : decode cX3_inSessions 4 = .ok (.aload_n 1, 1) := by decide +kernel
theorem dX3_inSessions_5 : decode cX3_inSessions 5 = .ok (.invokevirtual 33, 3) := by decide +kernel
theorem dX3_inSessions_8 : decode cX3_inSessions 8 = .ok (.aload_n 0, 1) := by decide +kernel
theorem dX3_inSessions_9 : decode cX3_inSessions 9 = .ok (.getfield 22, 3) := by decide +kernel
theorem dX3_inSessions_12 : decode cX3_inSessions 12 = .ok (.aload_n 0, 1) := by decide +kernel
theorem dX3_inSessions_13 : decode cX3_inSessions 13 = .ok (.getfield 12, 3) := by decide +kernel
theorem dX3_inSessions_16 : decode cX3_inSessions 16 = .ok (.iload_n 2, 1) := by decide +kernel
theorem dX3_inSessions_17 : decode cX3_inSessions 17 = .ok (.aload_n 0, 1) := by decide +kernel
theorem dX3_inSessions_18 : decode cX3_inSessions 18 = .ok (.getfield 18, 3) := by decide +kernel
theorem dX3_inSessions_21 : decode cX3_inSessions 21 = .ok (.getfield 105, 3) := by decide +kernel
theorem dX3_inSessions_24 : decode cX3_inSessions 24 = .ok (.invokevirtual 108, 3) := by decide +kernel
theorem dX3_inSessions_27 : decode cX3_inSessions 27 = .ok (.aload_n 0, 1) := by decide +kernel
theorem dX3_inSessions_28 : decode cX3_inSessions 28 = .ok (.getfield 12, 3) := by decide +kernel
theorem dX3_inSessions_31 : decode cX3_inSessions 31 = .ok (.areturn, 1) := by decide +kernel
theorem dX3_seedsThatKeep_0 : decode cX3_seedsThatKeep 0 = .ok (.iconst 0, 1) := by decide +kernel
theorem dX3_seedsThatKeep_1 : decode cX3_seedsThatKeep 1 = .ok (.istore 5, 2) := by decide +kernel
theorem dX3_seedsThatKeep_3 : decode cX3_seedsThatKeep 3 = .ok (.iconst 0, 1) := by decide +kernel
theorem dX3_seedsThatKeep_4 : decode cX3_seedsThatKeep 4 = .ok (.istore 6, 2) := by decide +kernel
theorem dX3_seedsThatKeep_6 : decode cX3_seedsThatKeep 6 = .ok (.iload 6, 2) := by decide +kernel
theorem dX3_seedsThatKeep_8 : decode cX3_seedsThatKeep 8 = .ok (.iload 4, 2) := by decide +kernel
theorem dX3_seedsThatKeep_10 : decode cX3_seedsThatKeep 10 = .ok (.if_icmp .ge 53, 3) := by decide +kernel
theorem dX3_seedsThatKeep_13 : decode cX3_seedsThatKeep 13 = .ok (.aload_n 0, 1) := by decide +kernel
theorem dX3_seedsThatKeep_14 : decode cX3_seedsThatKeep 14 = .ok (.getfield 12, 3) := by decide +kernel
theorem dX3_seedsThatKeep_17 : decode cX3_seedsThatKeep 17 = .ok (.aload_n 1, 1) := by decide +kernel
theorem dX3_seedsThatKeep_18 : decode cX3_seedsThatKeep 18 = .ok (.invokevirtual 33, 3) := by decide +kernel
theorem dX3_seedsThatKeep_21 : decode cX3_seedsThatKeep 21 = .ok (.aload_n 0, 1) := by decide +kernel
theorem dX3_seedsThatKeep_22 : decode cX3_seedsThatKeep 22 = .ok (.getfield 22, 3) := by decide +kernel
theorem dX3_seedsThatKeep_25 : decode cX3_seedsThatKeep 25 = .ok (.aload_n 0, 1) := by decide +kernel
theorem dX3_seedsThatKeep_26 : decode cX3_seedsThatKeep 26 = .ok (.getfield 12, 3) := by decide +kernel
theorem dX3_seedsThatKeep_29 : decode cX3_seedsThatKeep 29 = .ok (.iload_n 3, 1) := by decide +kernel
theorem dX3_seedsThatKeep_30 : decode cX3_seedsThatKeep 30 = .ok (.aload_n 0, 1) := by decide +kernel
theorem dX3_seedsThatKeep_31 : decode cX3_seedsThatKeep 31 = .ok (.getfield 18, 3) := by decide +kernel
theorem dX3_seedsThatKeep_34 : decode cX3_seedsThatKeep 34 = .ok (.getfield 105, 3) := by decide +kernel
theorem dX3_seedsThatKeep_37 : decode cX3_seedsThatKeep 37 = .ok (.iload 6, 2) := by decide +kernel
theorem dX3_seedsThatKeep_39 : decode cX3_seedsThatKeep 39 = .ok (.iadd, 1) := by decide +kernel
theorem dX3_seedsThatKeep_40 : decode cX3_seedsThatKeep 40 = .ok (.invokevirtual 108, 3) := by decide +kernel
theorem dX3_seedsThatKeep_43 : decode cX3_seedsThatKeep 43 = .ok (.aload_n 0, 1) := by decide +kernel
theorem dX3_seedsThatKeep_44 : decode cX3_seedsThatKeep 44 = .ok (.getfield 12, 3) := by decide +kernel
theorem dX3_seedsThatKeep_47 : decode cX3_seedsThatKeep 47 = .ok (.iload_n 2, 1) := by decide +kernel
theorem dX3_seedsThatKeep_48 : decode cX3_seedsThatKeep 48 = .ok (.invokevirtual 47, 3) := by decide +kernel
theorem dX3_seedsThatKeep_51 : decode cX3_seedsThatKeep 51 = .ok (.ifCond .eq 6, 3) := by decide +kernel
theorem dX3_seedsThatKeep_54 : decode cX3_seedsThatKeep 54 = .ok (.iinc 5 1, 3) := by decide +kernel
theorem dX3_seedsThatKeep_57 : decode cX3_seedsThatKeep 57 = .ok (.iinc 6 1, 3) := by decide +kernel
theorem dX3_seedsThatKeep_60 : decode cX3_seedsThatKeep 60 = .ok (.goto (-54), 3) := by decide +kernel
theorem dX3_seedsThatKeep_63 : decode cX3_seedsThatKeep 63 = .ok (.iload 5, 2) := by decide +kernel
theorem dX3_seedsThatKeep_65 : decode cX3_seedsThatKeep 65 = .ok (.ireturn, 1) := by decide +kernel
theorem dX4_init_0 : decode cX4_init 0 = .ok (.aload_n 0, 1) := by decide +kernel
theorem dX4_init_1 : decode cX4_init 1 = .ok (.invokespecial 3, 3) := by decide +kernel
theorem dX4_init_4 : decode cX4_init 4 = .ok (.aload_n 0, 1) := by decide +kernel
theorem dX4_init_5 : decode cX4_init 5 = .ok (.new 9, 3) := by decide +kernel
theorem dX4_init_8 : decode cX4_init 8 = .ok (.dup, 1) := by decide +kernel
theorem dX4_init_9 : decode cX4_init 9 = .ok (.invokespecial 11, 3) := by decide +kernel
theorem dX4_init_12 : decode cX4_init 12 = .ok (.putfield 12, 3) := by decide +kernel
theorem dX4_init_15 : decode cX4_init 15 = .ok (.aload_n 0, 1) := by decide +kernel
theorem dX4_init_16 : decode cX4_init 16 = .ok (.new 18, 3) := by decide +kernel
theorem dX4_init_19 : decode cX4_init 19 = .ok (.dup, 1) := by decide +kernel
theorem dX4_init_20 : decode cX4_init 20 = .ok (.aload_n 1, 1) := by decide +kernel
theorem dX4_init_21 : decode cX4_init 21 = .ok (.invokespecial 20, 3) := by decide +kernel
theorem dX4_init_24 : decode cX4_init 24 = .ok (.putfield 23, 3) := by decide +kernel
theorem dX4_init_27 : decode cX4_init 27 = .ok (.return_, 1) := by decide +kernel
theorem dX4_readTape_0 : decode cX4_readTape 0 = .ok (.aload_n 0, 1) := by decide +kernel
theorem dX4_readTape_1 : decode cX4_readTape 1 = .ok (.getfield 23, 3) := by decide +kernel
theorem dX4_readTape_4 : decode cX4_readTape 4 = .ok (.invokevirtual 27, 3) := by decide +kernel
theorem dX4_readTape_7 : decode cX4_readTape 7 = .ok (.aload_n 0, 1) := by decide +kernel
theorem dX4_readTape_8 : decode cX4_readTape 8 = .ok (.invokevirtual 30, 3) := by decide +kernel
theorem dX4_readTape_11 : decode cX4_readTape 11 = .ok (.iconst 0, 1) := by decide +kernel
theorem dX4_readTape_12 : decode cX4_readTape 12 = .ok (.istore_n 1, 1) := by decide +kernel
theorem dX4_readTape_13 : decode cX4_readTape 13 = .ok (.iload_n 1, 1) := by decide +kernel
theorem dX4_readTape_14 : decode cX4_readTape 14 = .ok (.sipush 400, 3) := by decide +kernel
theorem dX4_readTape_17 : decode cX4_readTape 17 = .ok (.if_icmp .gt 138, 3) := by decide +kernel
theorem dX4_readTape_20 : decode cX4_readTape 20 = .ok (.aload_n 0, 1) := by decide +kernel
theorem dX4_readTape_21 : decode cX4_readTape 21 = .ok (.getfield 33, 3) := by decide +kernel
theorem dX4_readTape_24 : decode cX4_readTape 24 = .ok (.ifCond .ne 131, 3) := by decide +kernel
theorem dX4_readTape_27 : decode cX4_readTape 27 = .ok (.aload_n 0, 1) := by decide +kernel
theorem dX4_readTape_28 : decode cX4_readTape 28 = .ok (.iconst 0, 1) := by decide +kernel
theorem dX4_readTape_29 : decode cX4_readTape 29 = .ok (.invokevirtual 37, 3) := by decide +kernel
theorem dX4_readTape_32 : decode cX4_readTape 32 = .ok (.ifCond .ne 123, 3) := by decide +kernel
theorem dX4_readTape_35 : decode cX4_readTape 35 = .ok (.aload_n 0, 1) := by decide +kernel
theorem dX4_readTape_36 : decode cX4_readTape 36 = .ok (.invokevirtual 41, 3) := by decide +kernel
theorem dX4_readTape_39 : decode cX4_readTape 39 = .ok (.bipush 15, 2) := by decide +kernel
theorem dX4_readTape_41 : decode cX4_readTape 41 = .ok (.isub, 1) := by decide +kernel
theorem dX4_readTape_42 : decode cX4_readTape 42 = .ok (.istore_n 2, 1) := by decide +kernel
theorem dX4_readTape_43 : decode cX4_readTape 43 = .ok (.aload_n 0, 1) := by decide +kernel
theorem dX4_readTape_44 : decode cX4_readTape 44 = .ok (.bipush 13, 2) := by decide +kernel
theorem dX4_readTape_46 : decode cX4_readTape 46 = .ok (.invokevirtual 37, 3) := by decide +kernel
theorem dX4_readTape_49 : decode cX4_readTape 49 = .ok (.ifCond .eq 10, 3) := by decide +kernel
theorem dX4_readTape_52 : decode cX4_readTape 52 = .ok (.aload_n 0, 1) := by decide +kernel
theorem dX4_readTape_53 : decode cX4_readTape 53 = .ok (.invokevirtual 45, 3) := by decide +kernel
theorem dX4_readTape_56 : decode cX4_readTape 56 = .ok (.goto 88, 3) := by decide +kernel
theorem dX4_readTape_59 : decode cX4_readTape 59 = .ok (.aload_n 0, 1) := by decide +kernel
theorem dX4_readTape_60 : decode cX4_readTape 60 = .ok (.bipush 14, 2) := by decide +kernel
theorem dX4_readTape_62 : decode cX4_readTape 62 = .ok (.invokevirtual 37, 3) := by decide +kernel
theorem dX4_readTape_65 : decode cX4_readTape 65 = .ok (.ifCond .eq 23, 3) := by decide +kernel
theorem dX4_readTape_68 : decode cX4_readTape 68 = .ok (.aload_n 0, 1) := by decide +kernel
theorem dX4_readTape_69 : decode cX4_readTape 69 = .ok (.invokevirtual 48, 3) := by decide +kernel
theorem dX4_readTape_72 : decode cX4_readTape 72 = .ok (.aload_n 0, 1) := by decide +kernel
theorem dX4_readTape_73 : decode cX4_readTape 73 = .ok (.getfield 12, 3) := by decide +kernel
theorem dX4_readTape_76 : decode cX4_readTape 76 = .ok (.aload_n 0, 1) := by decide +kernel
theorem dX4_readTape_77 : decode cX4_readTape 77 = .ok (.bipush 99, 2) := by decide +kernel
theorem dX4_readTape_79 : decode cX4_readTape 79 = .ok (.invokevirtual 51, 3) := by decide +kernel
theorem dX4_readTape_82 : decode cX4_readTape 82 = .ok (.putfield 55, 3) := by decide +kernel
theorem dX4_readTape_85 : decode cX4_readTape 85 = .ok (.goto 59, 3) := by decide +kernel
theorem dX4_readTape_88 : decode cX4_readTape 88 = .ok (.aload_n 0, 1) := by decide +kernel
theorem dX4_readTape_89 : decode cX4_readTape 89 = .ok (.bipush 19, 2) := by decide +kernel
theorem dX4_readTape_91 : decode cX4_readTape 91 = .ok (.invokevirtual 37, 3) := by decide +kernel
theorem dX4_readTape_94 : decode cX4_readTape 94 = .ok (.ifCond .eq 24, 3) := by decide +kernel
theorem dX4_readTape_97 : decode cX4_readTape 97 = .ok (.aload_n 0, 1) := by decide +kernel
theorem dX4_readTape_98 : decode cX4_readTape 98 = .ok (.invokevirtual 48, 3) := by decide +kernel
theorem dX4_readTape_101 : decode cX4_readTape 101 = .ok (.aload_n 0, 1) := by decide +kernel
theorem dX4_readTape_102 : decode cX4_readTape 102 = .ok (.getfield 12, 3) := by decide +kernel
theorem dX4_readTape_105 : decode cX4_readTape 105 = .ok (.aload_n 0, 1) := by decide +kernel
theorem dX4_readTape_106 : decode cX4_readTape 106 = .ok (.sipush 9999, 3) := by decide +kernel
theorem dX4_readTape_109 : decode cX4_readTape 109 = .ok (.invokevirtual 51, 3) := by decide +kernel
theorem dX4_readTape_112 : decode cX4_readTape 112 = .ok (.putfield 58, 3) := by decide +kernel
theorem dX4_readTape_115 : decode cX4_readTape 115 = .ok (.goto 29, 3) := by decide +kernel
theorem dX4_readTape_118 : decode cX4_readTape 118 = .ok (.iload_n 2, 1) := by decide +kernel
theorem dX4_readTape_119 : decode cX4_readTape 119 = .ok (.ifCond .lt 20, 3) := by decide +kernel
theorem dX4_readTape_122 : decode cX4_readTape 122 = .ok (.iload_n 2, 1) := by decide +kernel
theorem dX4_readTape_123 : decode cX4_readTape 123 = .ok (.iconst 3, 1) := by decide +kernel
theorem dX4_readTape_124 : decode cX4_readTape 124 = .ok (.if_icmp .gt 15, 3) := by decide +kernel
theorem dX4_readTape_127 : decode cX4_readTape 127 = .ok (.aload_n 0, 1) := by decide +kernel
theorem dX4_readTape_128 : decode cX4_readTape 128 = .ok (.invokevirtual 48, 3) := by decide +kernel
theorem dX4_readTape_131 : decode cX4_readTape 131 = .ok (.aload_n 0, 1) := by decide +kernel
theorem dX4_readTape_132 : decode cX4_readTape 132 = .ok (.iload_n 2, 1) := by decide +kernel
theorem dX4_readTape_133 : decode cX4_readTape 133 = .ok (.invokevirtual 61, 3) := by decide +kernel
theorem dX4_readTape_136 : decode cX4_readTape 136 = .ok (.goto 8, 3) := by decide +kernel
theorem dX4_readTape_139 : decode cX4_readTape 139 = .ok (.aload_n 0, 1) := by decide +kernel
theorem dX4_readTape_140 : decode cX4_readTape 140 = .ok (.iconst 1, 1) := by decide +kernel
theorem dX4_readTape_141 : decode cX4_readTape 141 = .ok (.invokevirtual 65, 3) := by decide +kernel
theorem dX4_readTape_144 : decode cX4_readTape 144 = .ok (.aload_n 0, 1) := by decide +kernel
theorem dX4_readTape_145 : decode cX4_readTape 145 = .ok (.iconst 4, 1) := by decide +kernel
theorem dX4_readTape_146 : decode cX4_readTape 146 = .ok (.invokevirtual 68, 3) := by decide +kernel
theorem dX4_readTape_149 : decode cX4_readTape 149 = .ok (.iinc 1 1, 3) := by decide +kernel
theorem dX4_readTape_152 : decode cX4_readTape 152 = .ok (.goto (-139), 3) := by decide +kernel
theorem dX4_readTape_155 : decode cX4_readTape 155 = .ok (.aload_n 0, 1) := by decide +kernel
theorem dX4_readTape_156 : decode cX4_readTape 156 = .ok (.invokevirtual 71, 3) := by decide +kernel
theorem dX4_readTape_159 : decode cX4_readTape 159 = .ok (.aload_n 0, 1) := by decide +kernel
theorem dX4_readTape_160 : decode cX4_readTape 160 = .ok (.getfield 33, 3) := by decide +kernel
theorem dX4_readTape_163 : decode cX4_readTape 163 = .ok (.ireturn, 1) := by decide +kernel
theorem dX4_begin_0 : decode cX4_begin 0 = .ok (.aload_n 0, 1) := by decide +kernel
theorem dX4_begin_1 : decode cX4_begin 1 = .ok (.getfield 12, 3) := by decide +kernel
theorem dX4_begin_4 : decode cX4_begin 4 = .ok (.invokevirtual 74, 3) := by decide +kernel
theorem dX4_begin_7 : decode cX4_begin 7 = .ok (.aload_n 0, 1) := by decide +kernel
theorem dX4_begin_8 : decode cX4_begin 8 = .ok (.iconst 0, 1) := by decide +kernel
theorem dX4_begin_9 : decode cX4_begin 9 = .ok (.putfield 77, 3) := by decide +kernel
theorem dX4_begin_12 : decode cX4_begin 12 = .ok (.aload_n 0, 1) := by decide +kernel
theorem dX4_begin_13 : decode cX4_begin 13 = .ok (.iconst 0, 1) := by decide +kernel
theorem dX4_begin_14 : decode cX4_begin 14 = .ok (.putfield 33, 3) := by decide +kernel
theorem dX4_begin_17 : decode cX4_begin 17 = .ok (.aload_n 0, 1) := by decide +kernel
theorem dX4_begin_18 : decode cX4_begin 18 = .ok (.iconst 0, 1) := by decide +kernel
theorem dX4_begin_19 : decode cX4_begin 19 = .ok (.putfield 80, 3) := by decide +kernel
theorem dX4_begin_22 : decode cX4_begin 22 = .ok (.return_, 1) := by decide +kernel
theorem dX4_findFirstFault_0 : decode cX4_findFirstFault 0 = .ok (.aload_n 0, 1) := by decide +kernel
theorem dX4_findFirstFault_1 : decode cX4_findFirstFault 1 = .ok (.getfield 77, 3) := by decide +kernel
theorem dX4_findFirstFault_4 : decode cX4_findFirstFault 4 = .ok (.sipush 400, 3) := by decide +kernel
theorem dX4_findFirstFault_7 : decode cX4_findFirstFault 7 = .ok (.if_icmp .le 26, 3) := by decide +kernel
theorem dX4_findFirstFault_10 : decode cX4_findFirstFault 10 = .ok (.aload_n 0, 1) := by decide +kernel
theorem dX4_findFirstFault_11 : decode cX4_findFirstFault 11 = .ok (.iconst 2, 1) := by decide +kernel
theorem dX4_findFirstFault_12 : decode cX4_findFirstFault 12 = .ok (.putfield 33, 3) := by decide +kernel
theorem dX4_findFirstFault_15 : decode cX4_findFirstFault 15 = .ok (.aload_n 0, 1) := by decide +kernel
theorem dX4_findFirstFault_16 : decode cX4_findFirstFault 16 = .ok (.aload_n 0, 1) := by decide +kernel
theorem dX4_findFirstFault_17 : decode cX4_findFirstFault 17 = .ok (.getfield 23, 3) := by decide +kernel
theorem dX4_findFirstFault_20 : decode cX4_findFirstFault 20 = .ok (.getfield 83, 3) := by decide +kernel
theorem dX4_findFirstFault_23 : decode cX4_findFirstFault 23 = .ok (.sipush 400, 3) := by decide +kernel
theorem dX4_findFirstFault_26 : decode cX4_findFirstFault 26 = .ok (.iaload, 1) := by decide +kernel
theorem dX4_findFirstFault_27 : decode cX4_findFirstFault 27 = .ok (.putfield 87, 3) := by decide +kernel
theorem dX4_findFirstFault_30 : decode cX4_findFirstFault 30 = .ok (.goto 26, 3) := by decide +kernel
theorem dX4_findFirstFault_33 : decode cX4_findFirstFault 33 = .ok (.aload_n 0, 1) := by decide +kernel
theorem dX4_findFirstFault_34 : decode cX4_findFirstFault 34 = .ok (.getfield 33, 3) := by decide +kernel
theorem dX4_findFirstFault_37 : decode cX4_findFirstFault 37 = .ok (.ifCond .ne 19, 3) := by decide +kernel
theorem dX4_findFirstFault_40 : decode cX4_findFirstFault 40 = .ok (.aload_n 0, 1) := by decide +kernel
theorem dX4_findFirstFault_41 : decode cX4_findFirstFault 41 = .ok (.aload_n 0, 1) := by decide +kernel
theorem dX4_findFirstFault_42 : decode cX4_findFirstFault 42 = .ok (.getfield 80, 3) := by decide +kernel
theorem dX4_findFirstFault_45 : decode cX4_findFirstFault 45 = .ok (.putfield 33, 3) := by decide +kernel
theorem dX4_findFirstFault_48 : decode cX4_findFirstFault 48 = .ok (.aload_n 0, 1) := by decide +kernel
theorem dX4_findFirstFault_49 : decode cX4_findFirstFault 49 = .ok (.aload_n 0, 1) := by decide +kernel
theorem dX4_findFirstFault_50 : decode cX4_findFirstFault 50 = .ok (.getfield 90, 3) := by decide +kernel
theorem dX4_findFirstFault_53 : decode cX4_findFirstFault 53 = .ok (.putfield 87, 3) := by decide +kernel
theorem dX4_findFirstFault_56 : decode cX4_findFirstFault 56 = .ok (.return_, 1) := by decide +kernel
theorem dX4_kind_0 : decode cX4_kind 0 = .ok (.aload_n 0, 1) := by decide +kernel
theorem dX4_kind_1 : decode cX4_kind 1 = .ok (.getfield 77, 3) := by decide +kernel
theorem dX4_kind_4 : decode cX4_kind 4 = .ok (.ifCond .lt 33, 3) := by decide +kernel
theorem dX4_kind_7 : decode cX4_kind 7 = .ok (.aload_n 0, 1) := by decide +kernel
theorem dX4_kind_8 : decode cX4_kind 8 = .ok (.getfield 77, 3) := by decide +kernel
theorem dX4_kind_11 : decode cX4_kind 11 = .ok (.aload_n 0, 1) := by decide +kernel
theorem dX4_kind_12 : decode cX4_kind 12 = .ok (.getfield 23, 3) := by decide +kernel
theorem dX4_kind_15 : decode cX4_kind 15 = .ok (.getfield 93, 3) := by decide +kernel
theorem dX4_kind_18 : decode cX4_kind 18 = .ok (.arraylength, 1) := by decide +kernel
theorem dX4_kind_19 : decode cX4_kind 19 = .ok (.if_icmp .ge 18, 3) := by decide +kernel
theorem dX4_kind_22 : decode cX4_kind 22 = .ok (.aload_n 0, 1) := by decide +kernel
theorem dX4_kind_23 : decode cX4_kind 23 = .ok (.getfield 23, 3) := by decide +kernel
theorem dX4_kind_26 : decode cX4_kind 26 = .ok (.getfield 93, 3) := by decide +kernel
theorem dX4_kind_29 : decode cX4_kind 29 = .ok (.aload_n 0, 1) := by decide +kernel
theorem dX4_kind_30 : decode cX4_kind 30 = .ok (.getfield 77, 3) := by decide +kernel
theorem dX4_kind_33 : decode cX4_kind 33 = .ok (.iaload, 1) := by decide +kernel
theorem dX4_kind_34 : decode cX4_kind 34 = .ok (.goto 4, 3) := by decide +kernel
theorem dX4_kind_37 : decode cX4_kind 37 = .ok (.iconst 0, 1) := by decide +kernel
theorem dX4_kind_38 : decode cX4_kind 38 = .ok (.ireturn, 1) := by decide +kernel
theorem dX4_value_0 : decode cX4_value 0 = .ok (.aload_n 0, 1) := by decide +kernel
theorem dX4_value_1 : decode cX4_value 1 = .ok (.getfield 77, 3) := by decide +kernel
theorem dX4_value_4 : decode cX4_value 4 = .ok (.ifCond .lt 33, 3) := by decide +kernel
theorem dX4_value_7 : decode cX4_value 7 = .ok (.aload_n 0, 1) := by decide +kernel
theorem dX4_value_8 : decode cX4_value 8 = .ok (.getfield 77, 3) := by decide +kernel
theorem dX4_value_11 : decode cX4_value 11 = .ok (.aload_n 0, 1) := by decide +kernel
theorem dX4_value_12 : decode cX4_value 12 = .ok (.getfield 23, 3) := by decide +kernel
theorem dX4_value_15 : decode cX4_value 15 = .ok (.getfield 96, 3) := by decide +kernel
theorem dX4_value_18 : decode cX4_value 18 = .ok (.arraylength, 1) := by decide +kernel
theorem dX4_value_19 : decode cX4_value 19 = .ok (.if_icmp .ge 18, 3) := by decide +kernel
theorem dX4_value_22 : decode cX4_value 22 = .ok (.aload_n 0, 1) := by decide +kernel
theorem dX4_value_23 : decode cX4_value 23 = .ok (.getfield 23, 3) := by decide +kernel
theorem dX4_value_26 : decode cX4_value 26 = .ok (.getfield 96, 3) := by decide +kernel
theorem dX4_value_29 : decode cX4_value 29 = .ok (.aload_n 0, 1) := by decide +kernel
theorem dX4_value_30 : decode cX4_value 30 = .ok (.getfield 77, 3) := by decide +kernel
theorem dX4_value_33 : decode cX4_value 33 = .ok (.laload, 1) := by decide +kernel
theorem dX4_value_34 : decode cX4_value 34 = .ok (.goto 4, 3) := by decide +kernel
theorem dX4_value_37 : decode cX4_value 37 = .ok (.lconst 0, 1) := by decide +kernel
theorem dX4_value_38 : decode cX4_value 38 = .ok (.lreturn, 1) := by decide +kernel
theorem dX4_fail_0 : decode cX4_fail 0 = .ok (.aload_n 0, 1) := by decide +kernel
theorem dX4_fail_1 : decode cX4_fail 1 = .ok (.getfield 33, 3) := by decide +kernel
theorem dX4_fail_4 : decode cX4_fail 4 = .ok (.ifCond .ne 46, 3) := by decide +kernel
theorem dX4_fail_7 : decode cX4_fail 7 = .ok (.aload_n 0, 1) := by decide +kernel
theorem dX4_fail_8 : decode cX4_fail 8 = .ok (.getfield 77, 3) := by decide +kernel
theorem dX4_fail_11 : decode cX4_fail 11 = .ok (.ifCond .lt 39, 3) := by decide +kernel
theorem dX4_fail_14 : decode cX4_fail 14 = .ok (.aload_n 0, 1) := by decide +kernel
theorem dX4_fail_15 : decode cX4_fail 15 = .ok (.getfield 77, 3) := by decide +kernel
theorem dX4_fail_18 : decode cX4_fail 18 = .ok (.aload_n 0, 1) := by decide +kernel
theorem dX4_fail_19 : decode cX4_fail 19 = .ok (.getfield 23, 3) := by decide +kernel
theorem dX4_fail_22 : decode cX4_fail 22 = .ok (.getfield 83, 3) := by decide +kernel
theorem dX4_fail_25 : decode cX4_fail 25 = .ok (.arraylength, 1) := by decide +kernel
theorem dX4_fail_26 : decode cX4_fail 26 = .ok (.if_icmp .ge 24, 3) := by decide +kernel
theorem dX4_fail_29 : decode cX4_fail 29 = .ok (.aload_n 0, 1) := by decide +kernel
theorem dX4_fail_30 : decode cX4_fail 30 = .ok (.iload_n 1, 1) := by decide +kernel
theorem dX4_fail_31 : decode cX4_fail 31 = .ok (.putfield 33, 3) := by decide +kernel
theorem dX4_fail_34 : decode cX4_fail 34 = .ok (.aload_n 0, 1) := by decide +kernel
theorem dX4_fail_35 : decode cX4_fail 35 = .ok (.aload_n 0, 1) := by decide +kernel
theorem dX4_fail_36 : decode cX4_fail 36 = .ok (.getfield 23, 3) := by decide +kernel
theorem dX4_fail_39 : decode cX4_fail 39 = .ok (.getfield 83, 3) := by decide +kernel
theorem dX4_fail_42 : decode cX4_fail 42 = .ok (.aload_n 0, 1) := by decide +kernel
theorem dX4_fail_43 : decode cX4_fail 43 = .ok (.getfield 77, 3) := by decide +kernel
theorem dX4_fail_46 : decode cX4_fail 46 = .ok (.iaload, 1) := by decide +kernel
theorem dX4_fail_47 : decode cX4_fail 47 = .ok (.putfield 87, 3) := by decide +kernel
theorem dX4_fail_50 : decode cX4_fail 50 = .ok (.return_, 1) := by decide +kernel
theorem dX4_failLate_0 : decode cX4_failLate 0 = .ok (.aload_n 0, 1) := by decide +kernel
theorem dX4_failLate_1 : decode cX4_failLate 1 = .ok (.getfield 80, 3) := by decide +kernel
theorem dX4_failLate_4 : decode cX4_failLate 4 = .ok (.ifCond .ne 46, 3) := by decide +kernel
theorem dX4_failLate_7 : decode cX4_failLate 7 = .ok (.aload_n 0, 1) := by decide +kernel
theorem dX4_failLate_8 : decode cX4_failLate 8 = .ok (.getfield 77, 3) := by decide +kernel
theorem dX4_failLate_11 : decode cX4_failLate 11 = .ok (.ifCond .lt 39, 3) := by decide +kernel
theorem dX4_failLate_14 : decode cX4_failLate 14 = .ok (.aload_n 0, 1) := by decide +kernel
theorem dX4_failLate_15 : decode cX4_failLate 15 = .ok (.getfield 77, 3) := by decide +kernel
theorem dX4_failLate_18 : decode cX4_failLate 18 = .ok (.aload_n 0, 1) := by decide +kernel
theorem dX4_failLate_19 : decode cX4_failLate 19 = .ok (.getfield 23, 3) := by decide +kernel
theorem dX4_failLate_22 : decode cX4_failLate 22 = .ok (.getfield 83, 3) := by decide +kernel
theorem dX4_failLate_25 : decode cX4_failLate 25 = .ok (.arraylength, 1) := by decide +kernel
theorem dX4_failLate_26 : decode cX4_failLate 26 = .ok (.if_icmp .ge 24, 3) := by decide +kernel
theorem dX4_failLate_29 : decode cX4_failLate 29 = .ok (.aload_n 0, 1) := by decide +kernel
theorem dX4_failLate_30 : decode cX4_failLate 30 = .ok (.iload_n 1, 1) := by decide +kernel
theorem dX4_failLate_31 : decode cX4_failLate 31 = .ok (.putfield 80, 3) := by decide +kernel
theorem dX4_failLate_34 : decode cX4_failLate 34 = .ok (.aload_n 0, 1) := by decide +kernel
theorem dX4_failLate_35 : decode cX4_failLate 35 = .ok (.aload_n 0, 1) := by decide +kernel
theorem dX4_failLate_36 : decode cX4_failLate 36 = .ok (.getfield 23, 3) := by decide +kernel
theorem dX4_failLate_39 : decode cX4_failLate 39 = .ok (.getfield 83, 3) := by decide +kernel
theorem dX4_failLate_42 : decode cX4_failLate 42 = .ok (.aload_n 0, 1) := by decide +kernel
theorem dX4_failLate_43 : decode cX4_failLate 43 = .ok (.getfield 77, 3) := by decide +kernel
theorem dX4_failLate_46 : decode cX4_failLate 46 = .ok (.iaload, 1) := by decide +kernel
theorem dX4_failLate_47 : decode cX4_failLate 47 = .ok (.putfield 90, 3) := by decide +kernel
theorem dX4_failLate_50 : decode cX4_failLate 50 = .ok (.return_, 1) := by decide +kernel
theorem dX4_isNext_0 : decode cX4_isNext 0 = .ok (.aload_n 0, 1) := by decide +kernel
theorem dX4_isNext_1 : decode cX4_isNext 1 = .ok (.getfield 33, 3) := by decide +kernel
theorem dX4_isNext_4 : decode cX4_isNext 4 = .ok (.ifCond .ne 45, 3) := by decide +kernel
theorem dX4_isNext_7 : decode cX4_isNext 7 = .ok (.aload_n 0, 1) := by decide +kernel
theorem dX4_isNext_8 : decode cX4_isNext 8 = .ok (.getfield 77, 3) := by decide +kernel
theorem dX4_isNext_11 : decode cX4_isNext 11 = .ok (.ifCond .lt 38, 3) := by decide +kernel
theorem dX4_isNext_14 : decode cX4_isNext 14 = .ok (.aload_n 0, 1) := by decide +kernel
theorem dX4_isNext_15 : decode cX4_isNext 15 = .ok (.getfield 77, 3) := by decide +kernel
theorem dX4_isNext_18 : decode cX4_isNext 18 = .ok (.aload_n 0, 1) := by decide +kernel
theorem dX4_isNext_19 : decode cX4_isNext 19 = .ok (.getfield 23, 3) := by decide +kernel
theorem dX4_isNext_22 : decode cX4_isNext 22 = .ok (.getfield 93, 3) := by decide +kernel
theorem dX4_isNext_25 : decode cX4_isNext 25 = .ok (.arraylength, 1) := by decide +kernel
theorem dX4_isNext_26 : decode cX4_isNext 26 = .ok (.if_icmp .ge 23, 3) := by decide +kernel
theorem dX4_isNext_29 : decode cX4_isNext 29 = .ok (.aload_n 0, 1) := by decide +kernel
theorem dX4_isNext_30 : decode cX4_isNext 30 = .ok (.getfield 23, 3) := by decide +kernel
theorem dX4_isNext_33 : decode cX4_isNext 33 = .ok (.getfield 93, 3) := by decide +kernel
theorem dX4_isNext_36 : decode cX4_isNext 36 = .ok (.aload_n 0, 1) := by decide +kernel
theorem dX4_isNext_37 : decode cX4_isNext 37 = .ok (.getfield 77, 3) := by decide +kernel
theorem dX4_isNext_40 : decode cX4_isNext 40 = .ok (.iaload, 1) := by decide +kernel
theorem dX4_isNext_41 : decode cX4_isNext 41 = .ok (.iload_n 1, 1) := by decide +kernel
theorem dX4_isNext_42 : decode cX4_isNext 42 = .ok (.if_icmp .ne 7, 3) := by decide +kernel
theorem dX4_isNext_45 : decode cX4_isNext 45 = .ok (.iconst 1, 1) := by decide +kernel
theorem dX4_isNext_46 : decode cX4_isNext 46 = .ok (.goto 4, 3) := by decide +kernel
theorem dX4_isNext_49 : decode cX4_isNext 49 = .ok (.iconst 0, 1) := by decide +kernel
theorem dX4_isNext_50 : decode cX4_isNext 50 = .ok (.ireturn, 1) := by decide +kernel
theorem dX4_take_0 : decode cX4_take 0 = .ok (.aload_n 0, 1) := by decide +kernel
theorem dX4_take_1 : decode cX4_take 1 = .ok (.getfield 33, 3) := by decide +kernel
theorem dX4_take_4 : decode cX4_take 4 = .ok (.ifCond .ne 23, 3) := by decide +kernel
theorem dX4_take_7 : decode cX4_take 7 = .ok (.aload_n 0, 1) := by decide +kernel
theorem dX4_take_8 : decode cX4_take 8 = .ok (.getfield 77, 3) := by decide +kernel
theorem dX4_take_11 : decode cX4_take 11 = .ok (.sipush 400, 3) := by decide +kernel
theorem dX4_take_14 : decode cX4_take 14 = .ok (.if_icmp .gt 13, 3) := by decide +kernel
theorem dX4_take_17 : decode cX4_take 17 = .ok (.aload_n 0, 1) := by decide +kernel
theorem dX4_take_18 : decode cX4_take 18 = .ok (.dup, 1) := by decide +kernel
theorem dX4_take_19 : decode cX4_take 19 = .ok (.getfield 77, 3) := by decide +kernel
theorem dX4_take_22 : decode cX4_take 22 = .ok (.iconst 1, 1) := by decide +kernel
theorem dX4_take_23 : decode cX4_take 23 = .ok (.iadd, 1) := by decide +kernel
theorem dX4_take_24 : decode cX4_take 24 = .ok (.putfield 77, 3) := by decide +kernel
theorem dX4_take_27 : decode cX4_take 27 = .ok (.return_, 1) := by decide +kernel
theorem dX4_expect_0 : decode cX4_expect 0 = .ok (.aload_n 0, 1) := by decide +kernel
theorem dX4_expect_1 : decode cX4_expect 1 = .ok (.iload_n 1, 1) := by decide +kernel
theorem dX4_expect_2 : decode cX4_expect 2 = .ok (.invokevirtual 37, 3) := by decide +kernel
theorem dX4_expect_5 : decode cX4_expect 5 = .ok (.ifCond .eq 10, 3) := by decide +kernel
theorem dX4_expect_8 : decode cX4_expect 8 = .ok (.aload_n 0, 1) := by decide +kernel
theorem dX4_expect_9 : decode cX4_expect 9 = .ok (.invokevirtual 48, 3) := by decide +kernel
theorem dX4_expect_12 : decode cX4_expect 12 = .ok (.goto 8, 3) := by decide +kernel
theorem dX4_expect_15 : decode cX4_expect 15 = .ok (.aload_n 0, 1) := by decide +kernel
theorem dX4_expect_16 : decode cX4_expect 16 = .ok (.iconst 1, 1) := by decide +kernel
theorem dX4_expect_17 : decode cX4_expect 17 = .ok (.invokevirtual 65, 3) := by decide +kernel
theorem dX4_expect_20 : decode cX4_expect 20 = .ok (.return_, 1) := by decide +kernel
theorem dX4_readCase_0 : decode cX4_readCase 0 = .ok (.aload_n 0, 1) := by decide +kernel
theorem dX4_readCase_1 : decode cX4_readCase 1 = .ok (.getfield 12, 3) := by decide +kernel
theorem dX4_readCase_4 : decode cX4_readCase 4 = .ok (.getfield 100, 3) := by decide +kernel
theorem dX4_readCase_7 : decode cX4_readCase 7 = .ok (.bipush 7, 2) := by decide +kernel
theorem dX4_readCase_9 : decode cX4_readCase 9 = .ok (.if_icmp .lt 9, 3) := by decide +kernel
theorem dX4_readCase_12 : decode cX4_readCase 12 = .ok (.aload_n 0, 1) := by decide +kernel
theorem dX4_readCase_13 : decode cX4_readCase 13 = .ok (.iconst 2, 1) := by decide +kernel
theorem dX4_readCase_14 : decode cX4_readCase 14 = .ok (.invokevirtual 65, 3) := by decide +kernel
theorem dX4_readCase_17 : decode cX4_readCase 17 = .ok (.return_, 1) := by decide +kernel
theorem dX4_readCase_18 : decode cX4_readCase 18 = .ok (.aload_n 0, 1) := by decide +kernel
theorem dX4_readCase_19 : decode cX4_readCase 19 = .ok (.invokevirtual 48, 3) := by decide +kernel
theorem dX4_readCase_22 : decode cX4_readCase 22 = .ok (.aload_n 0, 1) := by decide +kernel
theorem dX4_readCase_23 : decode cX4_readCase 23 = .ok (.invokevirtual 103, 3) := by decide +kernel
theorem dX4_readCase_26 : decode cX4_readCase 26 = .ok (.lstore_n 1, 1) := by decide +kernel
theorem dX4_readCase_27 : decode cX4_readCase 27 = .ok (.aload_n 0, 1) := by decide +kernel
theorem dX4_readCase_28 : decode cX4_readCase 28 = .ok (.iconst 2, 1) := by decide +kernel
theorem dX4_readCase_29 : decode cX4_readCase 29 = .ok (.invokevirtual 37, 3) := by decide +kernel
theorem dX4_readCase_32 : decode cX4_readCase 32 = .ok (.ifCond .eq 19, 3) := by decide +kernel
theorem dX4_readCase_35 : decode cX4_readCase 35 = .ok (.aload_n 0, 1) := by decide +kernel
theorem dX4_readCase_36 : decode cX4_readCase 36 = .ok (.getfield 12, 3) := by decide +kernel
theorem dX4_readCase_39 : decode cX4_readCase 39 = .ok (.lload_n 1, 1) := by decide +kernel
theorem dX4_readCase_40 : decode cX4_readCase 40 = .ok (.invokevirtual 107, 3) := by decide +kernel
theorem dX4_readCase_43 : decode cX4_readCase 43 = .ok (.ifCond .eq 8, 3) := by decide +kernel
theorem dX4_readCase_46 : decode cX4_readCase 46 = .ok (.aload_n 0, 1) := by decide +kernel
theorem dX4_readCase_47 : decode cX4_readCase 47 = .ok (.iconst 3, 1) := by decide +kernel
theorem dX4_readCase_48 : decode cX4_readCase 48 = .ok (.invokevirtual 111, 3) := by decide +kernel
theorem dX4_readCase_51 : decode cX4_readCase 51 = .ok (.aload_n 0, 1) := by decide +kernel
theorem dX4_readCase_52 : decode cX4_readCase 52 = .ok (.iconst 2, 1) := by decide +kernel
theorem dX4_readCase_53 : decode cX4_readCase 53 = .ok (.invokevirtual 68, 3) := by decide +kernel
theorem dX4_readCase_56 : decode cX4_readCase 56 = .ok (.aload_n 0, 1) := by decide +kernel
theorem dX4_readCase_57 : decode cX4_readCase 57 = .ok (.bipush 99, 2) := by decide +kernel
theorem dX4_readCase_59 : decode cX4_readCase 59 = .ok (.invokevirtual 51, 3) := by decide +kernel
theorem dX4_readCase_62 : decode cX4_readCase 62 = .ok (.istore_n 3, 1) := by decide +kernel
theorem dX4_readCase_63 : decode cX4_readCase 63 = .ok (.aload_n 0, 1) := by decide +kernel
theorem dX4_readCase_64 : decode cX4_readCase 64 = .ok (.bipush 99, 2) := by decide +kernel
theorem dX4_readCase_66 : decode cX4_readCase 66 = .ok (.invokevirtual 51, 3) := by decide +kernel
theorem dX4_readCase_69 : decode cX4_readCase 69 = .ok (.istore 4, 2) := by decide +kernel
theorem dX4_readCase_71 : decode cX4_readCase 71 = .ok (.aload_n 0, 1) := by decide +kernel
theorem dX4_readCase_72 : decode cX4_readCase 72 = .ok (.getfield 12, 3) := by decide +kernel
theorem dX4_readCase_75 : decode cX4_readCase 75 = .ok (.lload_n 1, 1) := by decide +kernel
theorem dX4_readCase_76 : decode cX4_readCase 76 = .ok (.iload_n 3, 1) := by decide +kernel
theorem dX4_readCase_77 : decode cX4_readCase 77 = .ok (.iload 4, 2) := by decide +kernel
theorem dX4_readCase_79 : decode cX4_readCase 79 = .ok (.invokevirtual 114, 3) := by decide +kernel
theorem dX4_readCase_82 : decode cX4_readCase 82 = .ok (.return_, 1) := by decide +kernel
theorem dX4_readNumber_0 : decode cX4_readNumber 0 = .ok (.aload_n 0, 1) := by decide +kernel
theorem dX4_readNumber_1 : decode cX4_readNumber 1 = .ok (.invokevirtual 103, 3) := by decide +kernel
theorem dX4_readNumber_4 : decode cX4_readNumber 4 = .ok (.lstore_n 2, 1) := by decide +kernel
theorem dX4_readNumber_5 : decode cX4_readNumber 5 = .ok (.aload_n 0, 1) := by decide +kernel
theorem dX4_readNumber_6 : decode cX4_readNumber 6 = .ok (.iconst 3, 1) := by decide +kernel
theorem dX4_readNumber_7 : decode cX4_readNumber 7 = .ok (.invokevirtual 37, 3) := by decide +kernel
theorem dX4_readNumber_10 : decode cX4_readNumber 10 = .ok (.ifCond .eq 15, 3) := by decide +kernel
theorem dX4_readNumber_13 : decode cX4_readNumber 13 = .ok (.lload_n 2, 1) := by decide +kernel
theorem dX4_readNumber_14 : decode cX4_readNumber 14 = .ok (.iload_n 1, 1) := by decide +kernel
theorem dX4_readNumber_15 : decode cX4_readNumber 15 = .ok (.i2l, 1) := by decide +kernel
theorem dX4_readNumber_16 : decode cX4_readNumber 16 = .ok (.lcmp, 1) := by decide +kernel
theorem dX4_readNumber_17 : decode cX4_readNumber 17 = .ok (.ifCond .le 8, 3) := by decide +kernel
theorem dX4_readNumber_20 : decode cX4_readNumber 20 = .ok (.aload_n 0, 1) := by decide +kernel
theorem dX4_readNumber_21 : decode cX4_readNumber 21 = .ok (.iconst 5, 1) := by decide +kernel
theorem dX4_readNumber_22 : decode cX4_readNumber 22 = .ok (.invokevirtual 111, 3) := by decide +kernel
theorem dX4_readNumber_25 : decode cX4_readNumber 25 = .ok (.aload_n 0, 1) := by decide +kernel
theorem dX4_readNumber_26 : decode cX4_readNumber 26 = .ok (.iconst 3, 1) := by decide +kernel
theorem dX4_readNumber_27 : decode cX4_readNumber 27 = .ok (.invokevirtual 68, 3) := by decide +kernel
theorem dX4_readNumber_30 : decode cX4_readNumber 30 = .ok (.lload_n 2, 1) := by decide +kernel
theorem dX4_readNumber_31 : decode cX4_readNumber 31 = .ok (.l2i, 1) := by decide +kernel
theorem dX4_readNumber_32 : decode cX4_readNumber 32 = .ok (.ireturn, 1) := by decide +kernel
theorem dX4_readLaw_0 : decode cX4_readLaw 0 = .ok (.aload_n 0, 1) := by decide +kernel
theorem dX4_readLaw_1 : decode cX4_readLaw 1 = .ok (.iconst 5, 1) := by decide +kernel
theorem dX4_readLaw_2 : decode cX4_readLaw 2 = .ok (.invokevirtual 68, 3) := by decide +kernel
theorem dX4_readLaw_5 : decode cX4_readLaw 5 = .ok (.aload_n 0, 1) := by decide +kernel
theorem dX4_readLaw_6 : decode cX4_readLaw 6 = .ok (.getfield 12, 3) := by decide +kernel
theorem dX4_readLaw_9 : decode cX4_readLaw 9 = .ok (.iload_n 1, 1) := by decide +kernel
theorem dX4_readLaw_10 : decode cX4_readLaw 10 = .ok (.invokevirtual 118, 3) := by decide +kernel
theorem dX4_readLaw_13 : decode cX4_readLaw 13 = .ok (.iconst 0, 1) := by decide +kernel
theorem dX4_readLaw_14 : decode cX4_readLaw 14 = .ok (.istore_n 2, 1) := by decide +kernel
theorem dX4_readLaw_15 : decode cX4_readLaw 15 = .ok (.iload_n 2, 1) := by decide +kernel
theorem dX4_readLaw_16 : decode cX4_readLaw 16 = .ok (.iconst 4, 1) := by decide +kernel
theorem dX4_readLaw_17 : decode cX4_readLaw 17 = .ok (.if_icmp .ge 85, 3) := by decide +kernel
theorem dX4_readLaw_20 : decode cX4_readLaw 20 = .ok (.aload_n 0, 1) := by decide +kernel
theorem dX4_readLaw_21 : decode cX4_readLaw 21 = .ok (.bipush 20, 2) := by decide +kernel
theorem dX4_readLaw_23 : decode cX4_readLaw 23 = .ok (.invokevirtual 37, 3) := by decide +kernel
theorem dX4_readLaw_26 : decode cX4_readLaw 26 = .ok (.ifCond .eq 76, 3) := by decide +kernel
theorem dX4_readLaw_29 : decode cX4_readLaw 29 = .ok (.aload_n 0, 1) := by decide +kernel
theorem dX4_readLaw_30 : decode cX4_readLaw 30 = .ok (.invokevirtual 48, 3) := by decide +kernel
theorem dX4_readLaw_33 : decode cX4_readLaw 33 = .ok (.aload_n 0, 1) := by decide +kernel
theorem dX4_readLaw_34 : decode cX4_readLaw 34 = .ok (.iconst 0, 1) := by decide +kernel
theorem dX4_readLaw_35 : decode cX4_readLaw 35 = .ok (.invokevirtual 121, 3) := by decide +kernel
theorem dX4_readLaw_38 : decode cX4_readLaw 38 = .ok (.aload_n 0, 1) := by decide +kernel
theorem dX4_readLaw_39 : decode cX4_readLaw 39 = .ok (.bipush 10, 2) := by decide +kernel
theorem dX4_readLaw_41 : decode cX4_readLaw 41 = .ok (.invokevirtual 68, 3) := by decide +kernel
theorem dX4_readLaw_44 : decode cX4_readLaw 44 = .ok (.aload_n 0, 1) := by decide +kernel
theorem dX4_readLaw_45 : decode cX4_readLaw 45 = .ok (.iconst 0, 1) := by decide +kernel
theorem dX4_readLaw_46 : decode cX4_readLaw 46 = .ok (.invokevirtual 121, 3) := by decide +kernel
theorem dX4_readLaw_49 : decode cX4_readLaw 49 = .ok (.aload_n 0, 1) := by decide +kernel
theorem dX4_readLaw_50 : decode cX4_readLaw 50 = .ok (.bipush 21, 2) := by decide +kernel
theorem dX4_readLaw_52 : decode cX4_readLaw 52 = .ok (.invokevirtual 68, 3) := by decide +kernel
theorem dX4_readLaw_55 : decode cX4_readLaw 55 = .ok (.aload_n 0, 1) := by decide +kernel
theorem dX4_readLaw_56 : decode cX4_readLaw 56 = .ok (.getfield 12, 3) := by decide +kernel
theorem dX4_readLaw_59 : decode cX4_readLaw 59 = .ok (.bipush 6, 2) := by decide +kernel
theorem dX4_readLaw_61 : decode cX4_readLaw 61 = .ok (.iconst 0, 1) := by decide +kernel
theorem dX4_readLaw_62 : decode cX4_readLaw 62 = .ok (.invokevirtual 124, 3) := by decide +kernel
theorem dX4_readLaw_65 : decode cX4_readLaw 65 = .ok (.istore_n 3, 1) := by decide +kernel
theorem dX4_readLaw_66 : decode cX4_readLaw 66 = .ok (.aload_n 0, 1) := by decide +kernel
theorem dX4_readLaw_67 : decode cX4_readLaw 67 = .ok (.iconst 0, 1) := by decide +kernel
theorem dX4_readLaw_68 : decode cX4_readLaw 68 = .ok (.invokevirtual 121, 3) := by decide +kernel
theorem dX4_readLaw_71 : decode cX4_readLaw 71 = .ok (.aload_n 0, 1) := by decide +kernel
theorem dX4_readLaw_72 : decode cX4_readLaw 72 = .ok (.bipush 22, 2) := by decide +kernel
theorem dX4_readLaw_74 : decode cX4_readLaw 74 = .ok (.invokevirtual 68, 3) := by decide +kernel
theorem dX4_readLaw_77 : decode cX4_readLaw 77 = .ok (.aload_n 0, 1) := by decide +kernel
theorem dX4_readLaw_78 : decode cX4_readLaw 78 = .ok (.getfield 12, 3) := by decide +kernel
theorem dX4_readLaw_81 : decode cX4_readLaw 81 = .ok (.bipush 7, 2) := by decide +kernel
theorem dX4_readLaw_83 : decode cX4_readLaw 83 = .ok (.iconst 0, 1) := by decide +kernel
theorem dX4_readLaw_84 : decode cX4_readLaw 84 = .ok (.invokevirtual 124, 3) := by decide +kernel
theorem dX4_readLaw_87 : decode cX4_readLaw 87 = .ok (.pop, 1) := by decide +kernel
theorem dX4_readLaw_88 : decode cX4_readLaw 88 = .ok (.aload_n 0, 1) := by decide +kernel
theorem dX4_readLaw_89 : decode cX4_readLaw 89 = .ok (.getfield 12, 3) := by decide +kernel
theorem dX4_readLaw_92 : decode cX4_readLaw 92 = .ok (.iload_n 3, 1) := by decide +kernel
theorem dX4_readLaw_93 : decode cX4_readLaw 93 = .ok (.invokevirtual 128, 3) := by decide +kernel
theorem dX4_readLaw_96 : decode cX4_readLaw 96 = .ok (.iinc 2 1, 3) := by decide +kernel
theorem dX4_readLaw_99 : decode cX4_readLaw 99 = .ok (.goto (-84), 3) := by decide +kernel
theorem dX4_readLaw_102 : decode cX4_readLaw 102 = .ok (.aload_n 0, 1) := by decide +kernel
theorem dX4_readLaw_103 : decode cX4_readLaw 103 = .ok (.bipush 20, 2) := by decide +kernel
theorem dX4_readLaw_105 : decode cX4_readLaw 105 = .ok (.invokevirtual 37, 3) := by decide +kernel
theorem dX4_readLaw_108 : decode cX4_readLaw 108 = .ok (.ifCond .eq 8, 3) := by decide +kernel
theorem dX4_readLaw_111 : decode cX4_readLaw 111 = .ok (.aload_n 0, 1) := by decide +kernel
theorem dX4_readLaw_112 : decode cX4_readLaw 112 = .ok (.iconst 2, 1) := by decide +kernel
theorem dX4_readLaw_113 : decode cX4_readLaw 113 = .ok (.invokevirtual 65, 3) := by decide +kernel
theorem dX4_readLaw_116 : decode cX4_readLaw 116 = .ok (.aload_n 0, 1) := by decide +kernel
theorem dX4_readLaw_117 : decode cX4_readLaw 117 = .ok (.iconst 0, 1) := by decide +kernel
theorem dX4_readLaw_118 : decode cX4_readLaw 118 = .ok (.invokevirtual 121, 3) := by decide +kernel
theorem dX4_readLaw_121 : decode cX4_readLaw 121 = .ok (.aload_n 0, 1) := by decide +kernel
theorem dX4_readLaw_122 : decode cX4_readLaw 122 = .ok (.getfield 12, 3) := by decide +kernel
theorem dX4_readLaw_125 : decode cX4_readLaw 125 = .ok (.bipush 7, 2) := by decide +kernel
theorem dX4_readLaw_127 : decode cX4_readLaw 127 = .ok (.iconst 0, 1) := by decide +kernel
theorem dX4_readLaw_128 : decode cX4_readLaw 128 = .ok (.invokevirtual 124, 3) := by decide +kernel
theorem dX4_readLaw_131 : decode cX4_readLaw 131 = .ok (.pop, 1) := by decide +kernel
theorem dX4_readLaw_132 : decode cX4_readLaw 132 = .ok (.return_, 1) := by decide +kernel
theorem dX4_readSum_0 : decode cX4_readSum 0 = .ok (.aload_n 0, 1) := by decide +kernel
theorem dX4_readSum_1 : decode cX4_readSum 1 = .ok (.iload_n 1, 1) := by decide +kernel
theorem dX4_readSum_2 : decode cX4_readSum 2 = .ok (.invokevirtual 131, 3) := by decide +kernel
theorem dX4_readSum_5 : decode cX4_readSum 5 = .ok (.iconst 0, 1) := by decide +kernel
theorem dX4_readSum_6 : decode cX4_readSum 6 = .ok (.istore_n 2, 1) := by decide +kernel
theorem dX4_readSum_7 : decode cX4_readSum 7 = .ok (.iload_n 2, 1) := by decide +kernel
theorem dX4_readSum_8 : decode cX4_readSum 8 = .ok (.sipush 400, 3) := by decide +kernel
theorem dX4_readSum_11 : decode cX4_readSum 11 = .ok (.if_icmp .ge 61, 3) := by decide +kernel
theorem dX4_readSum_14 : decode cX4_readSum 14 = .ok (.aload_n 0, 1) := by decide +kernel
theorem dX4_readSum_15 : decode cX4_readSum 15 = .ok (.bipush 6, 2) := by decide +kernel
theorem dX4_readSum_17 : decode cX4_readSum 17 = .ok (.invokevirtual 37, 3) := by decide +kernel
theorem dX4_readSum_20 : decode cX4_readSum 20 = .ok (.ifCond .ne 12, 3) := by decide +kernel
theorem dX4_readSum_23 : decode cX4_readSum 23 = .ok (.aload_n 0, 1) := by decide +kernel
theorem dX4_readSum_24 : decode cX4_readSum 24 = .ok (.bipush 7, 2) := by decide +kernel
theorem dX4_readSum_26 : decode cX4_readSum 26 = .ok (.invokevirtual 37, 3) := by decide +kernel
theorem dX4_readSum_29 : decode cX4_readSum 29 = .ok (.ifCond .eq 43, 3) := by decide +kernel
theorem dX4_readSum_32 : decode cX4_readSum 32 = .ok (.aload_n 0, 1) := by decide +kernel
theorem dX4_readSum_33 : decode cX4_readSum 33 = .ok (.bipush 6, 2) := by decide +kernel
theorem dX4_readSum_35 : decode cX4_readSum 35 = .ok (.invokevirtual 37, 3) := by decide +kernel
theorem dX4_readSum_38 : decode cX4_readSum 38 = .ok (.ifCond .eq 7, 3) := by decide +kernel
theorem dX4_readSum_41 : decode cX4_readSum 41 = .ok (.iconst 2, 1) := by decide +kernel
theorem dX4_readSum_42 : decode cX4_readSum 42 = .ok (.goto 4, 3) := by decide +kernel
theorem dX4_readSum_45 : decode cX4_readSum 45 = .ok (.iconst 3, 1) := by decide +kernel
theorem dX4_readSum_46 : decode cX4_readSum 46 = .ok (.istore_n 3, 1) := by decide +kernel
theorem dX4_readSum_47 : decode cX4_readSum 47 = .ok (.aload_n 0, 1) := by decide +kernel
theorem dX4_readSum_48 : decode cX4_readSum 48 = .ok (.invokevirtual 48, 3) := by decide +kernel
theorem dX4_readSum_51 : decode cX4_readSum 51 = .ok (.aload_n 0, 1) := by decide +kernel
theorem dX4_readSum_52 : decode cX4_readSum 52 = .ok (.iload_n 1, 1) := by decide +kernel
theorem dX4_readSum_53 : decode cX4_readSum 53 = .ok (.invokevirtual 131, 3) := by decide +kernel
theorem dX4_readSum_56 : decode cX4_readSum 56 = .ok (.aload_n 0, 1) := by decide +kernel
theorem dX4_readSum_57 : decode cX4_readSum 57 = .ok (.getfield 12, 3) := by decide +kernel
theorem dX4_readSum_60 : decode cX4_readSum 60 = .ok (.iload_n 3, 1) := by decide +kernel
theorem dX4_readSum_61 : decode cX4_readSum 61 = .ok (.iconst 0, 1) := by decide +kernel
theorem dX4_readSum_62 : decode cX4_readSum 62 = .ok (.invokevirtual 124, 3) := by decide +kernel
theorem dX4_readSum_65 : decode cX4_readSum 65 = .ok (.pop, 1) := by decide +kernel
theorem dX4_readSum_66 : decode cX4_readSum 66 = .ok (.iinc 2 1, 3) := by decide +kernel
theorem dX4_readSum_69 : decode cX4_readSum 69 = .ok (.goto (-62), 3) := by decide +kernel
theorem dX4_readSum_72 : decode cX4_readSum 72 = .ok (.return_, 1) := by decide +kernel
theorem dX4_readProduct_0 : decode cX4_readProduct 0 = .ok (.aload_n 0, 1) := by decide +kernel
theorem dX4_readProduct_1 : decode cX4_readProduct 1 = .ok (.iload_n 1, 1) := by decide +kernel
theorem dX4_readProduct_2 : decode cX4_readProduct 2 = .ok (.invokevirtual 134, 3) := by decide +kernel
theorem dX4_readProduct_5 : decode cX4_readProduct 5 = .ok (.iconst 0, 1) := by decide +kernel
theorem dX4_readProduct_6 : decode cX4_readProduct 6 = .ok (.istore_n 2, 1) := by decide +kernel
theorem dX4_readProduct_7 : decode cX4_readProduct 7 = .ok (.iload_n 2, 1) := by decide +kernel
theorem dX4_readProduct_8 : decode cX4_readProduct 8 = .ok (.sipush 400, 3) := by decide +kernel
theorem dX4_readProduct_11 : decode cX4_readProduct 11 = .ok (.if_icmp .ge 61, 3) := by decide +kernel
theorem dX4_readProduct_14 : decode cX4_readProduct 14 = .ok (.aload_n 0, 1) := by decide +kernel
theorem dX4_readProduct_15 : decode cX4_readProduct 15 = .ok (.bipush 8, 2) := by decide +kernel
theorem dX4_readProduct_17 : decode cX4_readProduct 17 = .ok (.invokevirtual 37, 3) := by decide +kernel
theorem dX4_readProduct_20 : decode cX4_readProduct 20 = .ok (.ifCond .ne 12, 3) := by decide +kernel
theorem dX4_readProduct_23 : decode cX4_readProduct 23 = .ok (.aload_n 0, 1) := by decide +kernel
theorem dX4_readProduct_24 : decode cX4_readProduct 24 = .ok (.bipush 9, 2) := by decide +kernel
theorem dX4_readProduct_26 : decode cX4_readProduct 26 = .ok (.invokevirtual 37, 3) := by decide +kernel
theorem dX4_readProduct_29 : decode cX4_readProduct 29 = .ok (.ifCond .eq 43, 3) := by decide +kernel
theorem dX4_readProduct_32 : decode cX4_readProduct 32 = .ok (.aload_n 0, 1) := by decide +kernel
theorem dX4_readProduct_33 : decode cX4_readProduct 33 = .ok (.bipush 8, 2) := by decide +kernel
theorem dX4_readProduct_35 : decode cX4_readProduct 35 = .ok (.invokevirtual 37, 3) := by decide +kernel
theorem dX4_readProduct_38 : decode cX4_readProduct 38 = .ok (.ifCond .eq 7, 3) := by decide +kernel
theorem dX4_readProduct_41 : decode cX4_readProduct 41 = .ok (.iconst 4, 1) := by decide +kernel
theorem dX4_readProduct_42 : decode cX4_readProduct 42 = .ok (.goto 4, 3) := by decide +kernel
theorem dX4_readProduct_45 : decode cX4_readProduct 45 = .ok (.iconst 5, 1) := by decide +kernel
theorem dX4_readProduct_46 : decode cX4_readProduct 46 = .ok (.istore_n 3, 1) := by decide +kernel
theorem dX4_readProduct_47 : decode cX4_readProduct 47 = .ok (.aload_n 0, 1) := by decide +kernel
theorem dX4_readProduct_48 : decode cX4_readProduct 48 = .ok (.invokevirtual 48, 3) := by decide +kernel
theorem dX4_readProduct_51 : decode cX4_readProduct 51 = .ok (.aload_n 0, 1) := by decide +kernel
theorem dX4_readProduct_52 : decode cX4_readProduct 52 = .ok (.iload_n 1, 1) := by decide +kernel
theorem dX4_readProduct_53 : decode cX4_readProduct 53 = .ok (.invokevirtual 134, 3) := by decide +kernel
theorem dX4_readProduct_56 : decode cX4_readProduct 56 = .ok (.aload_n 0, 1) := by decide +kernel
theorem dX4_readProduct_57 : decode cX4_readProduct 57 = .ok (.getfield 12, 3) := by decide +kernel
theorem dX4_readProduct_60 : decode cX4_readProduct 60 = .ok (.iload_n 3, 1) := by decide +kernel
theorem dX4_readProduct_61 : decode cX4_readProduct 61 = .ok (.iconst 0, 1) := by decide +kernel
theorem dX4_readProduct_62 : decode cX4_readProduct 62 = .ok (.invokevirtual 124, 3) := by decide +kernel
theorem dX4_readProduct_65 : decode cX4_readProduct 65 = .ok (.pop, 1) := by decide +kernel
theorem dX4_readProduct_66 : decode cX4_readProduct 66 = .ok (.iinc 2 1, 3) := by decide +kernel
theorem dX4_readProduct_69 : decode cX4_readProduct 69 = .ok (.goto (-62), 3) := by decide +kernel
theorem dX4_readProduct_72 : decode cX4_readProduct 72 = .ok (.return_, 1) := by decide +kernel
theorem dX4_readUnit_0 : decode cX4_readUnit 0 = .ok (.aload_n 0, 1) := by decide +kernel
theorem dX4_readUnit_1 : decode cX4_readUnit 1 = .ok (.invokevirtual 41, 3) := by decide +kernel
theorem dX4_readUnit_4 : decode cX4_readUnit 4 = .ok (.bipush 23, 2) := by decide +kernel
theorem dX4_readUnit_6 : decode cX4_readUnit 6 = .ok (.isub, 1) := by decide +kernel
theorem dX4_readUnit_7 : decode cX4_readUnit 7 = .ok (.istore_n 2, 1) := by decide +kernel
theorem dX4_readUnit_8 : decode cX4_readUnit 8 = .ok (.aload_n 0, 1) := by decide +kernel
theorem dX4_readUnit_9 : decode cX4_readUnit 9 = .ok (.iconst 3, 1) := by decide +kernel
theorem dX4_readUnit_10 : decode cX4_readUnit 10 = .ok (.invokevirtual 37, 3) := by decide +kernel
theorem dX4_readUnit_13 : decode cX4_readUnit 13 = .ok (.ifCond .eq 24, 3) := by decide +kernel
theorem dX4_readUnit_16 : decode cX4_readUnit 16 = .ok (.aload_n 0, 1) := by decide +kernel
theorem dX4_readUnit_17 : decode cX4_readUnit 17 = .ok (.getfield 12, 3) := by decide +kernel
theorem dX4_readUnit_20 : decode cX4_readUnit 20 = .ok (.iconst 0, 1) := by decide +kernel
theorem dX4_readUnit_21 : decode cX4_readUnit 21 = .ok (.aload_n 0, 1) := by decide +kernel
theorem dX4_readUnit_22 : decode cX4_readUnit 22 = .ok (.invokevirtual 103, 3) := by decide +kernel
theorem dX4_readUnit_25 : decode cX4_readUnit 25 = .ok (.l2i, 1) := by decide +kernel
theorem dX4_readUnit_26 : decode cX4_readUnit 26 = .ok (.invokevirtual 124, 3) := by decide +kernel
theorem dX4_readUnit_29 : decode cX4_readUnit 29 = .ok (.pop, 1) := by decide +kernel
theorem dX4_readUnit_30 : decode cX4_readUnit 30 = .ok (.aload_n 0, 1) := by decide +kernel
theorem dX4_readUnit_31 : decode cX4_readUnit 31 = .ok (.invokevirtual 48, 3) := by decide +kernel
theorem dX4_readUnit_34 : decode cX4_readUnit 34 = .ok (.goto 78, 3) := by decide +kernel
theorem dX4_readUnit_37 : decode cX4_readUnit 37 = .ok (.iload_n 2, 1) := by decide +kernel
theorem dX4_readUnit_38 : decode cX4_readUnit 38 = .ok (.ifCond .lt 26, 3) := by decide +kernel
theorem dX4_readUnit_41 : decode cX4_readUnit 41 = .ok (.iload_n 2, 1) := by decide +kernel
theorem dX4_readUnit_42 : decode cX4_readUnit 42 = .ok (.bipush 9, 2) := by decide +kernel
theorem dX4_readUnit_44 : decode cX4_readUnit 44 = .ok (.if_icmp .ge 20, 3) := by decide +kernel
theorem dX4_readUnit_47 : decode cX4_readUnit 47 = .ok (.aload_n 0, 1) := by decide +kernel
theorem dX4_readUnit_48 : decode cX4_readUnit 48 = .ok (.getfield 12, 3) := by decide +kernel
theorem dX4_readUnit_51 : decode cX4_readUnit 51 = .ok (.iconst 1, 1) := by decide +kernel
theorem dX4_readUnit_52 : decode cX4_readUnit 52 = .ok (.iload_n 2, 1) := by decide +kernel
theorem dX4_readUnit_53 : decode cX4_readUnit 53 = .ok (.invokevirtual 124, 3) := by decide +kernel
theorem dX4_readUnit_56 : decode cX4_readUnit 56 = .ok (.pop, 1) := by decide +kernel
theorem dX4_readUnit_57 : decode cX4_readUnit 57 = .ok (.aload_n 0, 1) := by decide +kernel
theorem dX4_readUnit_58 : decode cX4_readUnit 58 = .ok (.invokevirtual 48, 3) := by decide +kernel
theorem dX4_readUnit_61 : decode cX4_readUnit 61 = .ok (.goto 51, 3) := by decide +kernel
theorem dX4_readUnit_64 : decode cX4_readUnit 64 = .ok (.aload_n 0, 1) := by decide +kernel
theorem dX4_readUnit_65 : decode cX4_readUnit 65 = .ok (.bipush 11, 2) := by decide +kernel
theorem dX4_readUnit_67 : decode cX4_readUnit 67 = .ok (.invokevirtual 37, 3) := by decide +kernel
theorem dX4_readUnit_70 : decode cX4_readUnit 70 = .ok (.ifCond .ne 11, 3) := by decide +kernel
theorem dX4_readUnit_73 : decode cX4_readUnit 73 = .ok (.aload_n 0, 1) := by decide +kernel
theorem dX4_readUnit_74 : decode cX4_readUnit 74 = .ok (.iconst 1, 1) := by decide +kernel
theorem dX4_readUnit_75 : decode cX4_readUnit 75 = .ok (.invokevirtual 65, 3) := by decide +kernel
theorem dX4_readUnit_78 : decode cX4_readUnit 78 = .ok (.goto 34, 3) := by decide +kernel
theorem dX4_readUnit_81 : decode cX4_readUnit 81 = .ok (.iload_n 1, 1) := by decide +kernel
theorem dX4_readUnit_82 : decode cX4_readUnit 82 = .ok (.bipush 6, 2) := by decide +kernel
theorem dX4_readUnit_84 : decode cX4_readUnit 84 = .ok (.if_icmp .lt 11, 3) := by decide +kernel
theorem dX4_readUnit_87 : decode cX4_readUnit 87 = .ok (.aload_n 0, 1) := by decide +kernel
theorem dX4_readUnit_88 : decode cX4_readUnit 88 = .ok (.iconst 2, 1) := by decide +kernel
theorem dX4_readUnit_89 : decode cX4_readUnit 89 = .ok (.invokevirtual 65, 3) := by decide +kernel
theorem dX4_readUnit_92 : decode cX4_readUnit 92 = .ok (.goto 20, 3) := by decide +kernel
theorem dX4_readUnit_95 : decode cX4_readUnit 95 = .ok (.aload_n 0, 1) := by decide +kernel
theorem dX4_readUnit_96 : decode cX4_readUnit 96 = .ok (.invokevirtual 48, 3) := by decide +kernel
theorem dX4_readUnit_99 : decode cX4_readUnit 99 = .ok (.aload_n 0, 1) := by decide +kernel
theorem dX4_readUnit_100 : decode cX4_readUnit 100 = .ok (.iload_n 1, 1) := by decide +kernel
theorem dX4_readUnit_101 : decode cX4_readUnit 101 = .ok (.iconst 1, 1) := by decide +kernel
theorem dX4_readUnit_102 : decode cX4_readUnit 102 = .ok (.iadd, 1) := by decide +kernel
theorem dX4_readUnit_103 : decode cX4_readUnit 103 = .ok (.invokevirtual 121, 3) := by decide +kernel
theorem dX4_readUnit_106 : decode cX4_readUnit 106 = .ok (.aload_n 0, 1) := by decide +kernel
theorem dX4_readUnit_107 : decode cX4_readUnit 107 = .ok (.bipush 12, 2) := by decide +kernel
theorem dX4_readUnit_109 : decode cX4_readUnit 109 = .ok (.invokevirtual 68, 3) := by decide +kernel
theorem dX4_readUnit_112 : decode cX4_readUnit 112 = .ok (.return_, 1) := by decide +kernel
theorem dX5_init_0 : decode cX5_init 0 = .ok (.aload_n 0, 1) := by decide +kernel
theorem dX5_init_1 : decode cX5_init 1 = .ok (.invokespecial 3, 3) := by decide +kernel
theorem dX5_init_4 : decode cX5_init 4 = .ok (.aload_n 0, 1) := by decide +kernel
theorem dX5_init_5 : decode cX5_init 5 = .ok (.sipush 402, 3) := by decide +kernel
theorem dX5_init_8 : decode cX5_init 8 = .ok (.newarray .int, 2) := by decide +kernel
theorem dX5_init_10 : decode cX5_init 10 = .ok (.putfield 9, 3) := by decide +kernel
theorem dX5_init_13 : decode cX5_init 13 = .ok (.aload_n 0, 1) := by decide +kernel
theorem dX5_init_14 : decode cX5_init 14 = .ok (.sipush 402, 3) := by decide +kernel
theorem dX5_init_17 : decode cX5_init 17 = .ok (.newarray .int, 2) := by decide +kernel
theorem dX5_init_19 : decode cX5_init 19 = .ok (.putfield 15, 3) := by decide +kernel
theorem dX5_init_22 : decode cX5_init 22 = .ok (.aload_n 0, 1) := by decide +kernel
theorem dX5_init_23 : decode cX5_init 23 = .ok (.sipush 402, 3) := by decide +kernel
theorem dX5_init_26 : decode cX5_init 26 = .ok (.newarray .long, 2) := by decide +kernel
theorem dX5_init_28 : decode cX5_init 28 = .ok (.putfield 18, 3) := by decide +kernel
theorem dX5_init_31 : decode cX5_init 31 = .ok (.aload_n 0, 1) := by decide +kernel
theorem dX5_init_32 : decode cX5_init 32 = .ok (.aload_n 1, 1) := by decide +kernel
theorem dX5_init_33 : decode cX5_init 33 = .ok (.putfield 22, 3) := by decide +kernel
theorem dX5_init_36 : decode cX5_init 36 = .ok (.return_, 1) := by decide +kernel
theorem dX5_scanTape_0 : decode cX5_scanTape 0 = .ok (.aload_n 0, 1) := by decide +kernel
theorem dX5_scanTape_1 : decode cX5_scanTape 1 = .ok (.iconst 0, 1) := by decide +kernel
theorem dX5_scanTape_2 : decode cX5_scanTape 2 = .ok (.putfield 26, 3) := by decide +kernel
theorem dX5_scanTape_5 : decode cX5_scanTape 5 = .ok (.iconst 0, 1) := by decide +kernel
theorem dX5_scanTape_6 : decode cX5_scanTape 6 = .ok (.istore_n 1, 1) := by decide +kernel
theorem dX5_scanTape_7 : decode cX5_scanTape 7 = .ok (.iload_n 1, 1) := by decide +kernel
theorem dX5_scanTape_8 : decode cX5_scanTape 8 = .ok (.aload_n 0, 1) := by decide +kernel
theorem dX5_scanTape_9 : decode cX5_scanTape 9 = .ok (.getfield 9, 3) := by decide +kernel
theorem dX5_scanTape_12 : decode cX5_scanTape 12 = .ok (.arraylength, 1) := by decide +kernel
theorem dX5_scanTape_13 : decode cX5_scanTape 13 = .ok (.if_icmp .ge 59, 3) := by decide +kernel
theorem dX5_scanTape_16 : decode cX5_scanTape 16 = .ok (.aload_n 0, 1) := by decide +kernel
theorem dX5_scanTape_17 : decode cX5_scanTape 17 = .ok (.invokevirtual 30, 3) := by decide +kernel
theorem dX5_scanTape_20 : decode cX5_scanTape 20 = .ok (.aload_n 0, 1) := by decide +kernel
theorem dX5_scanTape_21 : decode cX5_scanTape 21 = .ok (.getfield 15, 3) := by decide +kernel
theorem dX5_scanTape_24 : decode cX5_scanTape 24 = .ok (.iload_n 1, 1) := by decide +kernel
theorem dX5_scanTape_25 : decode cX5_scanTape 25 = .ok (.aload_n 0, 1) := by decide +kernel
theorem dX5_scanTape_26 : decode cX5_scanTape 26 = .ok (.getfield 26, 3) := by decide +kernel
theorem dX5_scanTape_29 : decode cX5_scanTape 29 = .ok (.iastore, 1) := by decide +kernel
theorem dX5_scanTape_30 : decode cX5_scanTape 30 = .ok (.aload_n 0, 1) := by decide +kernel
theorem dX5_scanTape_31 : decode cX5_scanTape 31 = .ok (.lconst 0, 1) := by decide +kernel
theorem dX5_scanTape_32 : decode cX5_scanTape 32 = .ok (.putfield 33, 3) := by decide +kernel
theorem dX5_scanTape_35 : decode cX5_scanTape 35 = .ok (.aload_n 0, 1) := by decide +kernel
theorem dX5_scanTape_36 : decode cX5_scanTape 36 = .ok (.getfield 9, 3) := by decide +kernel
theorem dX5_scanTape_39 : decode cX5_scanTape 39 = .ok (.iload_n 1, 1) := by decide +kernel
theorem dX5_scanTape_40 : decode cX5_scanTape 40 = .ok (.iload_n 1, 1) := by decide +kernel
theorem dX5_scanTape_41 : decode cX5_scanTape 41 = .ok (.sipush 400, 3) := by decide +kernel
theorem dX5_scanTape_44 : decode cX5_scanTape 44 = .ok (.if_icmp .gt 10, 3) := by decide +kernel
theorem dX5_scanTape_47 : decode cX5_scanTape 47 = .ok (.aload_n 0, 1) := by decide +kernel
theorem dX5_scanTape_48 : decode cX5_scanTape 48 = .ok (.invokevirtual 37, 3) := by decide +kernel
theorem dX5_scanTape_51 : decode cX5_scanTape 51 = .ok (.goto 4, 3) := by decide +kernel
theorem dX5_scanTape_54 : decode cX5_scanTape 54 = .ok (.iconst 0, 1) := by decide +kernel
theorem dX5_scanTape_55 : decode cX5_scanTape 55 = .ok (.iastore, 1) := by decide +kernel
theorem dX5_scanTape_56 : decode cX5_scanTape 56 = .ok (.aload_n 0, 1) := by decide +kernel
theorem dX5_scanTape_57 : decode cX5_scanTape 57 = .ok (.getfield 18, 3) := by decide +kernel
theorem dX5_scanTape_60 : decode cX5_scanTape 60 = .ok (.iload_n 1, 1) := by decide +kernel
theorem dX5_scanTape_61 : decode cX5_scanTape 61 = .ok (.aload_n 0, 1) := by decide +kernel
theorem dX5_scanTape_62 : decode cX5_scanTape 62 = .ok (.getfield 33, 3) := by decide +kernel
theorem dX5_scanTape_65 : decode cX5_scanTape 65 = .ok (.lastore, 1) := by decide +kernel
theorem dX5_scanTape_66 : decode cX5_scanTape 66 = .ok (.iinc 1 1, 3) := by decide +kernel
theorem dX5_scanTape_69 : decode cX5_scanTape 69 = .ok (.goto (-62), 3) := by decide +kernel
theorem dX5_scanTape_72 : decode cX5_scanTape 72 = .ok (.return_, 1) := by decide +kernel
theorem dX5_passBlanks_0 : decode cX5_passBlanks 0 = .ok (.aload_n 0, 1) := by decide +kernel
theorem dX5_passBlanks_1 : decode cX5_passBlanks 1 = .ok (.getfield 26, 3) := by decide +kernel
theorem dX5_passBlanks_4 : decode cX5_passBlanks 4 = .ok (.aload_n 0, 1) := by decide +kernel
theorem dX5_passBlanks_5 : decode cX5_passBlanks 5 = .ok (.getfield 22, 3) := by decide +kernel
theorem dX5_passBlanks_8 : decode cX5_passBlanks 8 = .ok (.getfield 41, 3) := by decide +kernel
theorem dX5_passBlanks_11 : decode cX5_passBlanks 11 = .ok (.if_icmp .ge 33, 3) := by decide +kernel
theorem dX5_passBlanks_14 : decode cX5_passBlanks 14 = .ok (.aload_n 0, 1) := by decide +kernel
theorem dX5_passBlanks_15 : decode cX5_passBlanks 15 = .ok (.getfield 22, 3) := by decide +kernel
theorem dX5_passBlanks_18 : decode cX5_passBlanks 18 = .ok (.aload_n 0, 1) := by decide +kernel
theorem dX5_passBlanks_19 : decode cX5_passBlanks 19 = .ok (.getfield 26, 3) := by decide +kernel
theorem dX5_passBlanks_22 : decode cX5_passBlanks 22 = .ok (.invokevirtual 46, 3) := by decide +kernel
theorem dX5_passBlanks_25 : decode cX5_passBlanks 25 = .ok (.invokestatic 50, 3) := by decide +kernel
theorem dX5_passBlanks_28 : decode cX5_passBlanks 28 = .ok (.ifCond .eq 16, 3) := by decide +kernel
theorem dX5_passBlanks_31 : decode cX5_passBlanks 31 = .ok (.aload_n 0, 1) := by decide +kernel
theorem dX5_passBlanks_32 : decode cX5_passBlanks 32 = .ok (.dup, 1) := by decide +kernel
theorem dX5_passBlanks_33 : decode cX5_passBlanks 33 = .ok (.getfield 26, 3) := by decide +kernel
theorem dX5_passBlanks_36 : decode cX5_passBlanks 36 = .ok (.iconst 1, 1) := by decide +kernel
theorem dX5_passBlanks_37 : decode cX5_passBlanks 37 = .ok (.iadd, 1) := by decide +kernel
theorem dX5_passBlanks_38 : decode cX5_passBlanks 38 = .ok (.putfield 26, 3) := by decide +kernel
theorem dX5_passBlanks_41 : decode cX5_passBlanks 41 = .ok (.goto (-41), 3) := by decide +kernel
theorem dX5_passBlanks_44 : decode cX5_passBlanks 44 = .ok (.return_, 1) := by decide +kernel
theorem dX5_scanToken_0 : decode cX5_scanToken 0 = .ok (.aload_n 0, 1) := by decide +kernel
theorem dX5_scanToken_1 : decode cX5_scanToken 1 = .ok (.getfield 22, 3) := by decide +kernel
theorem dX5_scanToken_4 : decode cX5_scanToken 4 = .ok (.aload_n 0, 1) := by decide +kernel
theorem dX5_scanToken_5 : decode cX5_scanToken 5 = .ok (.getfield 26, 3) := by decide +kernel
theorem dX5_scanToken_8 : decode cX5_scanToken 8 = .ok (.invokevirtual 46, 3) := by decide +kernel
theorem dX5_scanToken_11 : decode cX5_scanToken 11 = .ok (.istore_n 1, 1) := by decide +kernel
theorem dX5_scanToken_12 : decode cX5_scanToken 12 = .ok (.iload_n 1, 1) := by decide +kernel
theorem dX5_scanToken_13 : decode cX5_scanToken 13 = .ok (.iconst (-1), 1) := by decide +kernel
theorem dX5_scanToken_14 : decode cX5_scanToken 14 = .ok (.if_icmp .ne 5, 3) := by decide +kernel
theorem dX5_scanToken_17 : decode cX5_scanToken 17 = .ok (.iconst 0, 1) := by decide +kernel
theorem dX5_scanToken_18 : decode cX5_scanToken 18 = .ok (.ireturn, 1) := by decide +kernel
theorem dX5_scanToken_19 : decode cX5_scanToken 19 = .ok (.iload_n 1, 1) := by decide +kernel
theorem dX5_scanToken_20 : decode cX5_scanToken 20 = .ok (.invokestatic 54, 3) := by decide +kernel
theorem dX5_scanToken_23 : decode cX5_scanToken 23 = .ok (.ifCond .eq 8, 3) := by decide +kernel
theorem dX5_scanToken_26 : decode cX5_scanToken 26 = .ok (.aload_n 0, 1) := by decide +kernel
theorem dX5_scanToken_27 : decode cX5_scanToken 27 = .ok (.invokevirtual 57, 3) := by decide +kernel
theorem dX5_scanToken_30 : decode cX5_scanToken 30 = .ok (.ireturn, 1) := by decide +kernel
theorem dX5_scanToken_31 : decode cX5_scanToken 31 = .ok (.iload_n 1, 1) := by decide +kernel
theorem dX5_scanToken_32 : decode cX5_scanToken 32 = .ok (.invokestatic 60, 3) := by decide +kernel
theorem dX5_scanToken_35 : decode cX5_scanToken 35 = .ok (.ifCond .eq 8, 3) := by decide +kernel
theorem dX5_scanToken_38 : decode cX5_scanToken 38 = .ok (.aload_n 0, 1) := by decide +kernel
theorem dX5_scanToken_39 : decode cX5_scanToken 39 = .ok (.invokevirtual 63, 3) := by decide +kernel
theorem dX5_scanToken_42 : decode cX5_scanToken 42 = .ok (.ireturn, 1) := by decide +kernel
theorem dX5_scanToken_43 : decode cX5_scanToken 43 = .ok (.aload_n 0, 1) := by decide +kernel
theorem dX5_scanToken_44 : decode cX5_scanToken 44 = .ok (.dup, 1) := by decide +kernel
theorem dX5_scanToken_45 : decode cX5_scanToken 45 = .ok (.getfield 26, 3) := by decide +kernel
theorem dX5_scanToken_48 : decode cX5_scanToken 48 = .ok (.iconst 1, 1) := by decide +kernel
theorem dX5_scanToken_49 : decode cX5_scanToken 49 = .ok (.iadd, 1) := by decide +kernel
theorem dX5_scanToken_50 : decode cX5_scanToken 50 = .ok (.putfield 26, 3) := by decide +kernel
theorem dX5_scanToken_53 : decode cX5_scanToken 53 = .ok (.ldc 66, 2) := by decide +kernel
theorem dX5_scanToken_55 : decode cX5_scanToken 55 = .ok (.iload_n 1, 1) := by decide +kernel
theorem dX5_scanToken_56 : decode cX5_scanToken 56 = .ok (.i2c, 1) := by decide +kernel
theorem dX5_scanToken_57 : decode cX5_scanToken 57 = .ok (.invokevirtual 68, 3) := by decide +kernel
theorem dX5_scanToken_60 : decode cX5_scanToken 60 = .ok (.istore_n 2, 1) := by decide +kernel
theorem dX5_scanToken_61 : decode cX5_scanToken 61 = .ok (.iload_n 2, 1) := by decide +kernel
theorem dX5_scanToken_62 : decode cX5_scanToken 62 = .ok (.ifCond .ge 7, 3) := by decide +kernel
theorem dX5_scanToken_65 : decode cX5_scanToken 65 = .ok (.iconst 1, 1) := by decide +kernel
theorem dX5_scanToken_66 : decode cX5_scanToken 66 = .ok (.goto 6, 3) := by decide +kernel
theorem dX5_scanToken_69 : decode cX5_scanToken 69 = .ok (.iconst 4, 1) := by decide +kernel
theorem dX5_scanToken_70 : decode cX5_scanToken 70 = .ok (.iload_n 2, 1) := by decide +kernel
theorem dX5_scanToken_71 : decode cX5_scanToken 71 = .ok (.iadd, 1) := by decide +kernel
theorem dX5_scanToken_72 : decode cX5_scanToken 72 = .ok (.ireturn, 1) := by decide +kernel
theorem dX5_scanLetters_0 : decode cX5_scanLetters 0 = .ok (.aload_n 0, 1) := by decide +kernel
theorem dX5_scanLetters_1 : decode cX5_scanLetters 1 = .ok (.getfield 26, 3) := by decide +kernel
theorem dX5_scanLetters_4 : decode cX5_scanLetters 4 = .ok (.istore_n 1, 1) := by decide +kernel
theorem dX5_scanLetters_5 : decode cX5_scanLetters 5 = .ok (.aload_n 0, 1) := by decide +kernel
theorem dX5_scanLetters_6 : decode cX5_scanLetters 6 = .ok (.getfield 26, 3) := by decide +kernel
theorem dX5_scanLetters_9 : decode cX5_scanLetters 9 = .ok (.aload_n 0, 1) := by decide +kernel
theorem dX5_scanLetters_10 : decode cX5_scanLetters 10 = .ok (.getfield 22, 3) := by decide +kernel
theorem dX5_scanLetters_13 : decode cX5_scanLetters 13 = .ok (.getfield 41, 3) := by decide +kernel
theorem dX5_scanLetters_16 : decode cX5_scanLetters 16 = .ok (.if_icmp .ge 63, 3) := by decide +kernel
theorem dX5_scanLetters_19 : decode cX5_scanLetters 19 = .ok (.aload_n 0, 1) := by decide +kernel
theorem dX5_scanLetters_20 : decode cX5_scanLetters 20 = .ok (.getfield 22, 3) := by decide +kernel
theorem dX5_scanLetters_23 : decode cX5_scanLetters 23 = .ok (.aload_n 0, 1) := by decide +kernel
theorem dX5_scanLetters_24 : decode cX5_scanLetters 24 = .ok (.getfield 26, 3) := by decide +kernel
theorem dX5_scanLetters_27 : decode cX5_scanLetters 27 = .ok (.invokevirtual 46, 3) := by decide +kernel
theorem dX5_scanLetters_30 : decode cX5_scanLetters 30 = .ok (.invokestatic 54, 3) := by decide +kernel
theorem dX5_scanLetters_33 : decode cX5_scanLetters 33 = .ok (.ifCond .eq 46, 3) := by decide +kernel
theorem dX5_scanLetters_36 : decode cX5_scanLetters 36 = .ok (.aload_n 0, 1) := by decide +kernel
theorem dX5_scanLetters_37 : decode cX5_scanLetters 37 = .ok (.aload_n 0, 1) := by decide +kernel
theorem dX5_scanLetters_38 : decode cX5_scanLetters 38 = .ok (.getfield 33, 3) := by decide +kernel
theorem dX5_scanLetters_41 : decode cX5_scanLetters 41 = .ok (.ldc2_w 73, 3) := by decide +kernel
theorem dX5_scanLetters_44 : decode cX5_scanLetters 44 = .ok (.lmul, 1) := by decide +kernel
theorem dX5_scanLetters_45 : decode cX5_scanLetters 45 = .ok (.aload_n 0, 1) := by decide +kernel
theorem dX5_scanLetters_46 : decode cX5_scanLetters 46 = .ok (.getfield 22, 3) := by decide +kernel
theorem dX5_scanLetters_49 : decode cX5_scanLetters 49 = .ok (.aload_n 0, 1) := by decide +kernel
theorem dX5_scanLetters_50 : decode cX5_scanLetters 50 = .ok (.getfield 26, 3) := by decide +kernel
theorem dX5_scanLetters_53 : decode cX5_scanLetters 53 = .ok (.invokevirtual 46, 3) := by decide +kernel
theorem dX5_scanLetters_56 : decode cX5_scanLetters 56 = .ok (.bipush 97, 2) := by decide +kernel
theorem dX5_scanLetters_58 : decode cX5_scanLetters 58 = .ok (.isub, 1) := by decide +kernel
theorem dX5_scanLetters_59 : decode cX5_scanLetters 59 = .ok (.iconst 1, 1) := by decide +kernel
theorem dX5_scanLetters_60 : decode cX5_scanLetters 60 = .ok (.iadd, 1) := by decide +kernel
theorem dX5_scanLetters_61 : decode cX5_scanLetters 61 = .ok (.i2l, 1) := by decide +kernel
theorem dX5_scanLetters_62 : decode cX5_scanLetters 62 = .ok (.ladd, 1) := by decide +kernel
theorem dX5_scanLetters_63 : decode cX5_scanLetters 63 = .ok (.putfield 33, 3) := by decide +kernel
theorem dX5_scanLetters_66 : decode cX5_scanLetters 66 = .ok (.aload_n 0, 1) := by decide +kernel
theorem dX5_scanLetters_67 : decode cX5_scanLetters 67 = .ok (.dup, 1) := by decide +kernel
theorem dX5_scanLetters_68 : decode cX5_scanLetters 68 = .ok (.getfield 26, 3) := by decide +kernel
theorem dX5_scanLetters_71 : decode cX5_scanLetters 71 = .ok (.iconst 1, 1) := by decide +kernel
theorem dX5_scanLetters_72 : decode cX5_scanLetters 72 = .ok (.iadd, 1) := by decide +kernel
theorem dX5_scanLetters_73 : decode cX5_scanLetters 73 = .ok (.putfield 26, 3) := by decide +kernel
theorem dX5_scanLetters_76 : decode cX5_scanLetters 76 = .ok (.goto (-71), 3) := by decide +kernel
theorem dX5_scanLetters_79 : decode cX5_scanLetters 79 = .ok (.aload_n 0, 1) := by decide +kernel
theorem dX5_scanLetters_80 : decode cX5_scanLetters 80 = .ok (.getfield 26, 3) := by decide +kernel
theorem dX5_scanLetters_83 : decode cX5_scanLetters 83 = .ok (.iload_n 1, 1) := by decide +kernel
theorem dX5_scanLetters_84 : decode cX5_scanLetters 84 = .ok (.isub, 1) := by decide +kernel
theorem dX5_scanLetters_85 : decode cX5_scanLetters 85 = .ok (.bipush 8, 2) := by decide +kernel
theorem dX5_scanLetters_87 : decode cX5_scanLetters 87 = .ok (.if_icmp .le 7, 3) := by decide +kernel
theorem dX5_scanLetters_90 : decode cX5_scanLetters 90 = .ok (.iconst 1, 1) := by decide +kernel
theorem dX5_scanLetters_91 : decode cX5_scanLetters 91 = .ok (.goto 8, 3) := by decide +kernel
theorem dX5_scanLetters_94 : decode cX5_scanLetters 94 = .ok (.aload_n 0, 1) := by decide +kernel
theorem dX5_scanLetters_95 : decode cX5_scanLetters 95 = .ok (.iload_n 1, 1) := by decide +kernel
theorem dX5_scanLetters_96 : decode cX5_scanLetters 96 = .ok (.invokevirtual 75, 3) := by decide +kernel
theorem dX5_scanLetters_99 : decode cX5_scanLetters 99 = .ok (.ireturn, 1) := by decide +kernel
theorem dX5_scanDigits_0 : decode cX5_scanDigits 0 = .ok (.aload_n 0, 1) := by decide +kernel
theorem dX5_scanDigits_1 : decode cX5_scanDigits 1 = .ok (.getfield 26, 3) := by decide +kernel
theorem dX5_scanDigits_4 : decode cX5_scanDigits 4 = .ok (.istore_n 1, 1) := by decide +kernel
theorem dX5_scanDigits_5 : decode cX5_scanDigits 5 = .ok (.aload_n 0, 1) := by decide +kernel
theorem dX5_scanDigits_6 : decode cX5_scanDigits 6 = .ok (.getfield 26, 3) := by decide +kernel
theorem dX5_scanDigits_9 : decode cX5_scanDigits 9 = .ok (.aload_n 0, 1) := by decide +kernel
theorem dX5_scanDigits_10 : decode cX5_scanDigits 10 = .ok (.getfield 22, 3) := by decide +kernel
theorem dX5_scanDigits_13 : decode cX5_scanDigits 13 = .ok (.getfield 41, 3) := by decide +kernel
theorem dX5_scanDigits_16 : decode cX5_scanDigits 16 = .ok (.if_icmp .ge 61, 3) := by decide +kernel
theorem dX5_scanDigits_19 : decode cX5_scanDigits 19 = .ok (.aload_n 0, 1) := by decide +kernel
theorem dX5_scanDigits_20 : decode cX5_scanDigits 20 = .ok (.getfield 22, 3) := by decide +kernel
theorem dX5_scanDigits_23 : decode cX5_scanDigits 23 = .ok (.aload_n 0, 1) := by decide +kernel
theorem dX5_scanDigits_24 : decode cX5_scanDigits 24 = .ok (.getfield 26, 3) := by decide +kernel
theorem dX5_scanDigits_27 : decode cX5_scanDigits 27 = .ok (.invokevirtual 46, 3) := by decide +kernel
theorem dX5_scanDigits_30 : decode cX5_scanDigits 30 = .ok (.invokestatic 60, 3) := by decide +kernel
theorem dX5_scanDigits_33 : decode cX5_scanDigits 33 = .ok (.ifCond .eq 44, 3) := by decide +kernel
theorem dX5_scanDigits_36 : decode cX5_scanDigits 36 = .ok (.aload_n 0, 1) := by decide +kernel
theorem dX5_scanDigits_37 : decode cX5_scanDigits 37 = .ok (.aload_n 0, 1) := by decide +kernel
theorem dX5_scanDigits_38 : decode cX5_scanDigits 38 = .ok (.getfield 33, 3) := by decide +kernel
theorem dX5_scanDigits_41 : decode cX5_scanDigits 41 = .ok (.ldc2_w 78, 3) := by decide +kernel
theorem dX5_scanDigits_44 : decode cX5_scanDigits 44 = .ok (.lmul, 1) := by decide +kernel
theorem dX5_scanDigits_45 : decode cX5_scanDigits 45 = .ok (.aload_n 0, 1) := by decide +kernel
theorem dX5_scanDigits_46 : decode cX5_scanDigits 46 = .ok (.getfield 22, 3) := by decide +kernel
theorem dX5_scanDigits_49 : decode cX5_scanDigits 49 = .ok (.aload_n 0, 1) := by decide +kernel
theorem dX5_scanDigits_50 : decode cX5_scanDigits 50 = .ok (.getfield 26, 3) := by decide +kernel
theorem dX5_scanDigits_53 : decode cX5_scanDigits 53 = .ok (.invokevirtual 46, 3) := by decide +kernel
theorem dX5_scanDigits_56 : decode cX5_scanDigits 56 = .ok (.bipush 48, 2) := by decide +kernel
theorem dX5_scanDigits_58 : decode cX5_scanDigits 58 = .ok (.isub, 1) := by decide +kernel
theorem dX5_scanDigits_59 : decode cX5_scanDigits 59 = .ok (.i2l, 1) := by decide +kernel
theorem dX5_scanDigits_60 : decode cX5_scanDigits 60 = .ok (.ladd, 1) := by decide +kernel
theorem dX5_scanDigits_61 : decode cX5_scanDigits 61 = .ok (.putfield 33, 3) := by decide +kernel
theorem dX5_scanDigits_64 : decode cX5_scanDigits 64 = .ok (.aload_n 0, 1) := by decide +kernel
theorem dX5_scanDigits_65 : decode cX5_scanDigits 65 = .ok (.dup, 1) := by decide +kernel
theorem dX5_scanDigits_66 : decode cX5_scanDigits 66 = .ok (.getfield 26, 3) := by decide +kernel
theorem dX5_scanDigits_69 : decode cX5_scanDigits 69 = .ok (.iconst 1, 1) := by decide +kernel
theorem dX5_scanDigits_70 : decode cX5_scanDigits 70 = .ok (.iadd, 1) := by decide +kernel
theorem dX5_scanDigits_71 : decode cX5_scanDigits 71 = .ok (.putfield 26, 3) := by decide +kernel
theorem dX5_scanDigits_74 : decode cX5_scanDigits 74 = .ok (.goto (-69), 3) := by decide +kernel
theorem dX5_scanDigits_77 : decode cX5_scanDigits 77 = .ok (.aload_n 0, 1) := by decide +kernel
theorem dX5_scanDigits_78 : decode cX5_scanDigits 78 = .ok (.getfield 26, 3) := by decide +kernel
theorem dX5_scanDigits_81 : decode cX5_scanDigits 81 = .ok (.iload_n 1, 1) := by decide +kernel
theorem dX5_scanDigits_82 : decode cX5_scanDigits 82 = .ok (.isub, 1) := by decide +kernel
theorem dX5_scanDigits_83 : decode cX5_scanDigits 83 = .ok (.iconst 4, 1) := by decide +kernel
theorem dX5_scanDigits_84 : decode cX5_scanDigits 84 = .ok (.if_icmp .le 7, 3) := by decide +kernel
theorem dX5_scanDigits_87 : decode cX5_scanDigits 87 = .ok (.iconst 1, 1) := by decide +kernel
theorem dX5_scanDigits_88 : decode cX5_scanDigits 88 = .ok (.goto 4, 3) := by decide +kernel
theorem dX5_scanDigits_91 : decode cX5_scanDigits 91 = .ok (.iconst 3, 1) := by decide +kernel
theorem dX5_scanDigits_92 : decode cX5_scanDigits 92 = .ok (.ireturn, 1) := by decide +kernel
theorem dX5_kindOfWord_0 : decode cX5_kindOfWord 0 = .ok (.bipush 13, 2) := by decide +kernel
theorem dX5_kindOfWord_2 : decode cX5_kindOfWord 2 = .ok (.istore_n 2, 1) := by decide +kernel
theorem dX5_kindOfWord_3 : decode cX5_kindOfWord 3 = .ok (.iload_n 2, 1) := by decide +kernel
theorem dX5_kindOfWord_4 : decode cX5_kindOfWord 4 = .ok (.bipush 31, 2) := by decide +kernel
theorem dX5_kindOfWord_6 : decode cX5_kindOfWord 6 = .ok (.if_icmp .gt 26, 3) := by decide +kernel
theorem dX5_kindOfWord_9 : decode cX5_kindOfWord 9 = .ok (.aload_n 0, 1) := by decide +kernel
theorem dX5_kindOfWord_10 : decode cX5_kindOfWord 10 = .ok (.iload_n 1, 1) := by decide +kernel
theorem dX5_kindOfWord_11 : decode cX5_kindOfWord 11 = .ok (.iload_n 2, 1) := by decide +kernel
theorem dX5_kindOfWord_12 : decode cX5_kindOfWord 12 = .ok (.bipush 13, 2) := by decide +kernel
theorem dX5_kindOfWord_14 : decode cX5_kindOfWord 14 = .ok (.isub, 1) := by decide +kernel
theorem dX5_kindOfWord_15 : decode cX5_kindOfWord 15 = .ok (.bipush 8, 2) := by decide +kernel
theorem dX5_kindOfWord_17 : decode cX5_kindOfWord 17 = .ok (.imul, 1) := by decide +kernel
theorem dX5_kindOfWord_18 : decode cX5_kindOfWord 18 = .ok (.invokevirtual 80, 3) := by decide +kernel
theorem dX5_kindOfWord_21 : decode cX5_kindOfWord 21 = .ok (.ifCond .eq 5, 3) := by decide +kernel
theorem dX5_kindOfWord_24 : decode cX5_kindOfWord 24 = .ok (.iload_n 2, 1) := by decide +kernel
theorem dX5_kindOfWord_25 : decode cX5_kindOfWord 25 = .ok (.ireturn, 1) := by decide +kernel
theorem dX5_kindOfWord_26 : decode cX5_kindOfWord 26 = .ok (.iinc 2 1, 3) := by decide +kernel
theorem dX5_kindOfWord_29 : decode cX5_kindOfWord 29 = .ok (.goto (-26), 3) := by decide +kernel
theorem dX5_kindOfWord_32 : decode cX5_kindOfWord 32 = .ok (.iconst 2, 1) := by decide +kernel
theorem dX5_kindOfWord_33 : decode cX5_kindOfWord 33 = .ok (.ireturn, 1) := by decide +kernel
theorem dX5_isWord_0 : decode cX5_isWord 0 = .ok (.iconst 0, 1) := by decide +kernel
theorem dX5_isWord_1 : decode cX5_isWord 1 = .ok (.istore_n 3, 1) := by decide +kernel
theorem dX5_isWord_2 : decode cX5_isWord 2 = .ok (.iload_n 3, 1) := by decide +kernel
theorem dX5_isWord_3 : decode cX5_isWord 3 = .ok (.bipush 8, 2) := by decide +kernel
theorem dX5_isWord_5 : decode cX5_isWord 5 = .ok (.if_icmp .ge 66, 3) := by decide +kernel
theorem dX5_isWord_8 : decode cX5_isWord 8 = .ok (.iload_n 1, 1) := by decide +kernel
theorem dX5_isWord_9 : decode cX5_isWord 9 = .ok (.iload_n 3, 1) := by decide +kernel
theorem dX5_isWord_10 : decode cX5_isWord 10 = .ok (.iadd, 1) := by decide +kernel
theorem dX5_isWord_11 : decode cX5_isWord 11 = .ok (.aload_n 0, 1) := by decide +kernel
theorem dX5_isWord_12 : decode cX5_isWord 12 = .ok (.getfield 26, 3) := by decide +kernel
theorem dX5_isWord_15 : decode cX5_isWord 15 = .ok (.if_icmp .ge 16, 3) := by decide +kernel
theorem dX5_isWord_18 : decode cX5_isWord 18 = .ok (.aload_n 0, 1) := by decide +kernel
theorem dX5_isWord_19 : decode cX5_isWord 19 = .ok (.getfield 22, 3) := by decide +kernel
theorem dX5_isWord_22 : decode cX5_isWord 22 = .ok (.iload_n 1, 1) := by decide +kernel
theorem dX5_isWord_23 : decode cX5_isWord 23 = .ok (.iload_n 3, 1) := by decide +kernel
theorem dX5_isWord_24 : decode cX5_isWord 24 = .ok (.iadd, 1) := by decide +kernel
theorem dX5_isWord_25 : decode cX5_isWord 25 = .ok (.invokevirtual 46, 3) := by decide +kernel
theorem dX5_isWord_28 : decode cX5_isWord 28 = .ok (.goto 5, 3) := by decide +kernel
theorem dX5_isWord_31 : decode cX5_isWord 31 = .ok (.bipush 32, 2) := by decide +kernel
theorem dX5_isWord_33 : decode cX5_isWord 33 = .ok (.istore 4, 2) := by decide +kernel
theorem dX5_isWord_35 : decode cX5_isWord 35 = .ok (.iload_n 2, 1) := by decide +kernel
theorem dX5_isWord_36 : decode cX5_isWord 36 = .ok (.ifCond .lt 27, 3) := by decide +kernel
theorem dX5_isWord_39 : decode cX5_isWord 39 = .ok (.iload_n 2, 1) := by decide +kernel
theorem dX5_isWord_40 : decode cX5_isWord 40 = .ok (.iload_n 3, 1) := by decide +kernel
theorem dX5_isWord_41 : decode cX5_isWord 41 = .ok (.iadd, 1) := by decide +kernel
theorem dX5_isWord_42 : decode cX5_isWord 42 = .ok (.ldc 84, 2) := by decide +kernel
theorem dX5_isWord_44 : decode cX5_isWord 44 = .ok (.invokevirtual 86, 3) := by decide +kernel
theorem dX5_isWord_47 : decode cX5_isWord 47 = .ok (.if_icmp .ge 16, 3) := by decide +kernel
theorem dX5_isWord_50 : decode cX5_isWord 50 = .ok (.ldc 84, 2) := by decide +kernel
theorem dX5_isWord_52 : decode cX5_isWord 52 = .ok (.iload_n 2, 1) := by decide +kernel
theorem dX5_isWord_53 : decode cX5_isWord 53 = .ok (.iload_n 3, 1) := by decide +kernel
theorem dX5_isWord_54 : decode cX5_isWord 54 = .ok (.iadd, 1) := by decide +kernel
theorem dX5_isWord_55 : decode cX5_isWord 55 = .ok (.invokevirtual 88, 3) := by decide +kernel
theorem dX5_isWord_58 : decode cX5_isWord 58 = .ok (.iload 4, 2) := by decide +kernel
theorem dX5_isWord_60 : decode cX5_isWord 60 = .ok (.if_icmp .eq 5, 3) := by decide +kernel
theorem dX5_isWord_63 : decode cX5_isWord 63 = .ok (.iconst 0, 1) := by decide +kernel
theorem dX5_isWord_64 : decode cX5_isWord 64 = .ok (.ireturn, 1) := by decide +kernel
theorem dX5_isWord_65 : decode cX5_isWord 65 = .ok (.iinc 3 1, 3) := by decide +kernel
theorem dX5_isWord_68 : decode cX5_isWord 68 = .ok (.goto (-66), 3) := by decide +kernel
theorem dX5_isWord_71 : decode cX5_isWord 71 = .ok (.iconst 1, 1) := by decide +kernel
theorem dX5_isWord_72 : decode cX5_isWord 72 = .ok (.ireturn, 1) := by decide +kernel
theorem dX5_isBlank_0 : decode cX5_isBlank 0 = .ok (.iload_n 0, 1) := by decide +kernel
theorem dX5_isBlank_1 : decode cX5_isBlank 1 = .ok (.bipush 9, 2) := by decide +kernel
theorem dX5_isBlank_3 : decode cX5_isBlank 3 = .ok (.if_icmp .eq 21, 3) := by decide +kernel
theorem dX5_isBlank_6 : decode cX5_isBlank 6 = .ok (.iload_n 0, 1) := by decide +kernel
theorem dX5_isBlank_7 : decode cX5_isBlank 7 = .ok (.bipush 10, 2) := by decide +kernel
theorem dX5_isBlank_9 : decode cX5_isBlank 9 = .ok (.if_icmp .eq 15, 3) := by decide +kernel
theorem dX5_isBlank_12 : decode cX5_isBlank 12 = .ok (.iload_n 0, 1) := by decide +kernel
theorem dX5_isBlank_13 : decode cX5_isBlank 13 = .ok (.bipush 13, 2) := by decide +kernel
theorem dX5_isBlank_15 : decode cX5_isBlank 15 = .ok (.if_icmp .eq 9, 3) := by decide +kernel
theorem dX5_isBlank_18 : decode cX5_isBlank 18 = .ok (.iload_n 0, 1) := by decide +kernel
theorem dX5_isBlank_19 : decode cX5_isBlank 19 = .ok (.bipush 32, 2) := by decide +kernel
theorem dX5_isBlank_21 : decode cX5_isBlank 21 = .ok (.if_icmp .ne 7, 3) := by decide +kernel
theorem dX5_isBlank_24 : decode cX5_isBlank 24 = .ok (.iconst 1, 1) := by decide +kernel
theorem dX5_isBlank_25 : decode cX5_isBlank 25 = .ok (.goto 4, 3) := by decide +kernel
theorem dX5_isBlank_28 : decode cX5_isBlank 28 = .ok (.iconst 0, 1) := by decide +kernel
theorem dX5_isBlank_29 : decode cX5_isBlank 29 = .ok (.ireturn, 1) := by decide +kernel
theorem dX5_isLetter_0 : decode cX5_isLetter 0 = .ok (.iload_n 0, 1) := by decide +kernel
theorem dX5_isLetter_1 : decode cX5_isLetter 1 = .ok (.bipush 97, 2) := by decide +kernel
theorem dX5_isLetter_3 : decode cX5_isLetter 3 = .ok (.if_icmp .lt 13, 3) := by decide +kernel
theorem dX5_isLetter_6 : decode cX5_isLetter 6 = .ok (.iload_n 0, 1) := by decide +kernel
theorem dX5_isLetter_7 : decode cX5_isLetter 7 = .ok (.bipush 122, 2) := by decide +kernel
theorem dX5_isLetter_9 : decode cX5_isLetter 9 = .ok (.if_icmp .gt 7, 3) := by decide +kernel
theorem dX5_isLetter_12 : decode cX5_isLetter 12 = .ok (.iconst 1, 1) := by decide +kernel
theorem dX5_isLetter_13 : decode cX5_isLetter 13 = .ok (.goto 4, 3) := by decide +kernel
theorem dX5_isLetter_16 : decode cX5_isLetter 16 = .ok (.iconst 0, 1) := by decide +kernel
theorem dX5_isLetter_17 : decode cX5_isLetter 17 = .ok (.ireturn, 1) := by decide +kernel
theorem dX5_isDigit_0 : decode cX5_isDigit 0 = .ok (.iload_n 0, 1) := by decide +kernel
theorem dX5_isDigit_1 : decode cX5_isDigit 1 = .ok (.bipush 48, 2) := by decide +kernel
theorem dX5_isDigit_3 : decode cX5_isDigit 3 = .ok (.if_icmp .lt 13, 3) := by decide +kernel
theorem dX5_isDigit_6 : decode cX5_isDigit 6 = .ok (.iload_n 0, 1) := by decide +kernel
theorem dX5_isDigit_7 : decode cX5_isDigit 7 = .ok (.bipush 57, 2) := by decide +kernel
theorem dX5_isDigit_9 : decode cX5_isDigit 9 = .ok (.if_icmp .gt 7, 3) := by decide +kernel
theorem dX5_isDigit_12 : decode cX5_isDigit 12 = .ok (.iconst 1, 1) := by decide +kernel
theorem dX5_isDigit_13 : decode cX5_isDigit 13 = .ok (.goto 4, 3) := by decide +kernel
theorem dX5_isDigit_16 : decode cX5_isDigit 16 = .ok (.iconst 0, 1) := by decide +kernel
theorem dX5_isDigit_17 : decode cX5_isDigit 17 = .ok (.ireturn, 1) := by decide +kernel
theorem dX6_init_0 : decode cX6_init 0 = .ok (.aload_n 0, 1) := by decide +kernel
theorem dX6_init_1 : decode cX6_init 1 = .ok (.invokespecial 3, 3) := by decide +kernel
theorem dX6_init_4 : decode cX6_init 4 = .ok (.aload_n 0, 1) := by decide +kernel
theorem dX6_init_5 : decode cX6_init 5 = .ok (.bipush 7, 2) := by decide +kernel
theorem dX6_init_7 : decode cX6_init 7 = .ok (.newarray .int, 2) := by decide +kernel
theorem dX6_init_9 : decode cX6_init 9 = .ok (.putfield 9, 3) := by decide +kernel
theorem dX6_init_12 : decode cX6_init 12 = .ok (.aload_n 0, 1) := by decide +kernel
theorem dX6_init_13 : decode cX6_init 13 = .ok (.bipush 7, 2) := by decide +kernel
theorem dX6_init_15 : decode cX6_init 15 = .ok (.newarray .int, 2) := by decide +kernel
theorem dX6_init_17 : decode cX6_init 17 = .ok (.putfield 15, 3) := by decide +kernel
theorem dX6_init_20 : decode cX6_init 20 = .ok (.aload_n 0, 1) := by decide +kernel
theorem dX6_init_21 : decode cX6_init 21 = .ok (.bipush 7, 2) := by decide +kernel
theorem dX6_init_23 : decode cX6_init 23 = .ok (.newarray .int, 2) := by decide +kernel
theorem dX6_init_25 : decode cX6_init 25 = .ok (.putfield 18, 3) := by decide +kernel
theorem dX6_init_28 : decode cX6_init 28 = .ok (.return_, 1) := by decide +kernel
theorem dX6_begin_0 : decode cX6_begin 0 = .ok (.iconst 0, 1) := by decide +kernel
theorem dX6_begin_1 : decode cX6_begin 1 = .ok (.istore_n 2, 1) := by decide +kernel
theorem dX6_begin_2 : decode cX6_begin 2 = .ok (.iload_n 2, 1) := by decide +kernel
theorem dX6_begin_3 : decode cX6_begin 3 = .ok (.bipush 7, 2) := by decide +kernel
theorem dX6_begin_5 : decode cX6_begin 5 = .ok (.if_icmp .ge 47, 3) := by decide +kernel
theorem dX6_begin_8 : decode cX6_begin 8 = .ok (.aload_n 0, 1) := by decide +kernel
theorem dX6_begin_9 : decode cX6_begin 9 = .ok (.getfield 9, 3) := by decide +kernel
theorem dX6_begin_12 : decode cX6_begin 12 = .ok (.iload_n 2, 1) := by decide +kernel
theorem dX6_begin_13 : decode cX6_begin 13 = .ok (.iload_n 2, 1) := by decide +kernel
theorem dX6_begin_14 : decode cX6_begin 14 = .ok (.iastore, 1) := by decide +kernel
theorem dX6_begin_15 : decode cX6_begin 15 = .ok (.aload_n 0, 1) := by decide +kernel
theorem dX6_begin_16 : decode cX6_begin 16 = .ok (.getfield 15, 3) := by decide +kernel
theorem dX6_begin_19 : decode cX6_begin 19 = .ok (.iload_n 2, 1) := by decide +kernel
theorem dX6_begin_20 : decode cX6_begin 20 = .ok (.aload_n 1, 1) := by decide +kernel
theorem dX6_begin_21 : decode cX6_begin 21 = .ok (.iload_n 2, 1) := by decide +kernel
theorem dX6_begin_22 : decode cX6_begin 22 = .ok (.invokevirtual 21, 3) := by decide +kernel
theorem dX6_begin_25 : decode cX6_begin 25 = .ok (.ifCond .eq 12, 3) := by decide +kernel
theorem dX6_begin_28 : decode cX6_begin 28 = .ok (.aload_n 1, 1) := by decide +kernel
theorem dX6_begin_29 : decode cX6_begin 29 = .ok (.getfield 27, 3) := by decide +kernel
theorem dX6_begin_32 : decode cX6_begin 32 = .ok (.iload_n 2, 1) := by decide +kernel
theorem dX6_begin_33 : decode cX6_begin 33 = .ok (.iaload, 1) := by decide +kernel
theorem dX6_begin_34 : decode cX6_begin 34 = .ok (.goto 4, 3) := by decide +kernel
theorem dX6_begin_37 : decode cX6_begin 37 = .ok (.iconst 0, 1) := by decide +kernel
theorem dX6_begin_38 : decode cX6_begin 38 = .ok (.iastore, 1) := by decide +kernel
theorem dX6_begin_39 : decode cX6_begin 39 = .ok (.aload_n 0, 1) := by decide +kernel
theorem dX6_begin_40 : decode cX6_begin 40 = .ok (.getfield 18, 3) := by decide +kernel
theorem dX6_begin_43 : decode cX6_begin 43 = .ok (.iload_n 2, 1) := by decide +kernel
theorem dX6_begin_44 : decode cX6_begin 44 = .ok (.iconst 0, 1) := by decide +kernel
theorem dX6_begin_45 : decode cX6_begin 45 = .ok (.iastore, 1) := by decide +kernel
theorem dX6_begin_46 : decode cX6_begin 46 = .ok (.iinc 2 1, 3) := by decide +kernel
theorem dX6_begin_49 : decode cX6_begin 49 = .ok (.goto (-47), 3) := by decide +kernel
theorem dX6_begin_52 : decode cX6_begin 52 = .ok (.aload_n 0, 1) := by decide +kernel
theorem dX6_begin_53 : decode cX6_begin 53 = .ok (.aload_n 1, 1) := by decide +kernel
theorem dX6_begin_54 : decode cX6_begin 54 = .ok (.getfield 28, 3) := by decide +kernel
theorem dX6_begin_57 : decode cX6_begin 57 = .ok (.putfield 32, 3) := by decide +kernel
theorem dX6_begin_60 : decode cX6_begin 60 = .ok (.aload_n 0, 1) := by decide +kernel
theorem dX6_begin_61 : decode cX6_begin 61 = .ok (.iconst 0, 1) := by decide +kernel
theorem dX6_begin_62 : decode cX6_begin 62 = .ok (.putfield 35, 3) := by decide +kernel
theorem dX6_begin_65 : decode cX6_begin 65 = .ok (.aload_n 0, 1) := by decide +kernel
theorem dX6_begin_66 : decode cX6_begin 66 = .ok (.aload_n 1, 1) := by decide +kernel
theorem dX6_begin_67 : decode cX6_begin 67 = .ok (.getfield 38, 3) := by decide +kernel
theorem dX6_begin_70 : decode cX6_begin 70 = .ok (.putfield 41, 3) := by decide +kernel
theorem dX6_begin_73 : decode cX6_begin 73 = .ok (.aload_n 0, 1) := by decide +kernel
theorem dX6_begin_74 : decode cX6_begin 74 = .ok (.iconst 0, 1) := by decide +kernel
theorem dX6_begin_75 : decode cX6_begin 75 = .ok (.putfield 42, 3) := by decide +kernel
theorem dX6_begin_78 : decode cX6_begin 78 = .ok (.aload_n 0, 1) := by decide +kernel
theorem dX6_begin_79 : decode cX6_begin 79 = .ok (.iconst 0, 1) := by decide +kernel
theorem dX6_begin_80 : decode cX6_begin 80 = .ok (.putfield 45, 3) := by decide +kernel
theorem dX6_begin_83 : decode cX6_begin 83 = .ok (.return_, 1) := by decide +kernel
theorem dX6_copyFrom_0 : decode cX6_copyFrom 0 = .ok (.aload_n 1, 1) := by decide +kernel
theorem dX6_copyFrom_1 : decode cX6_copyFrom 1 = .ok (.getfield 9, 3) := by decide +kernel
theorem dX6_copyFrom_4 : decode cX6_copyFrom 4 = .ok (.iconst 0, 1) := by decide +kernel
theorem dX6_copyFrom_5 : decode cX6_copyFrom 5 = .ok (.aload_n 0, 1) := by decide +kernel
theorem dX6_copyFrom_6 : decode cX6_copyFrom 6 = .ok (.getfield 9, 3) := by decide +kernel
theorem dX6_copyFrom_9 : decode cX6_copyFrom 9 = .ok (.iconst 0, 1) := by decide +kernel
theorem dX6_copyFrom_10 : decode cX6_copyFrom 10 = .ok (.bipush 7, 2) := by decide +kernel
theorem dX6_copyFrom_12 : decode cX6_copyFrom 12 = .ok (.invokestatic 48, 3) := by decide +kernel
theorem dX6_copyFrom_15 : decode cX6_copyFrom 15 = .ok (.aload_n 1, 1) := by decide +kernel
theorem dX6_copyFrom_16 : decode cX6_copyFrom 16 = .ok (.getfield 15, 3) := by decide +kernel
theorem dX6_copyFrom_19 : decode cX6_copyFrom 19 = .ok (.iconst 0, 1) := by decide +kernel
theorem dX6_copyFrom_20 : decode cX6_copyFrom 20 = .ok (.aload_n 0, 1) := by decide +kernel
theorem dX6_copyFrom_21 : decode cX6_copyFrom 21 = .ok (.getfield 15, 3) := by decide +kernel
theorem dX6_copyFrom_24 : decode cX6_copyFrom 24 = .ok (.iconst 0, 1) := by decide +kernel
theorem dX6_copyFrom_25 : decode cX6_copyFrom 25 = .ok (.bipush 7, 2) := by decide +kernel
theorem dX6_copyFrom_27 : decode cX6_copyFrom 27 = .ok (.invokestatic 48, 3) := by decide +kernel
theorem dX6_copyFrom_30 : decode cX6_copyFrom 30 = .ok (.aload_n 1, 1) := by decide +kernel
theorem dX6_copyFrom_31 : decode cX6_copyFrom 31 = .ok (.getfield 18, 3) := by decide +kernel
theorem dX6_copyFrom_34 : decode cX6_copyFrom 34 = .ok (.iconst 0, 1) := by decide +kernel
theorem dX6_copyFrom_35 : decode cX6_copyFrom 35 = .ok (.aload_n 0, 1) := by decide +kernel
theorem dX6_copyFrom_36 : decode cX6_copyFrom 36 = .ok (.getfield 18, 3) := by decide +kernel
theorem dX6_copyFrom_39 : decode cX6_copyFrom 39 = .ok (.iconst 0, 1) := by decide +kernel
theorem dX6_copyFrom_40 : decode cX6_copyFrom 40 = .ok (.bipush 7, 2) := by decide +kernel
theorem dX6_copyFrom_42 : decode cX6_copyFrom 42 = .ok (.invokestatic 48, 3) := by decide +kernel
theorem dX6_copyFrom_45 : decode cX6_copyFrom 45 = .ok (.aload_n 0, 1) := by decide +kernel
theorem dX6_copyFrom_46 : decode cX6_copyFrom 46 = .ok (.aload_n 1, 1) := by decide +kernel
theorem dX6_copyFrom_47 : decode cX6_copyFrom 47 = .ok (.getfield 32, 3) := by decide +kernel
theorem dX6_copyFrom_50 : decode cX6_copyFrom 50 = .ok (.putfield 32, 3) := by decide +kernel
theorem dX6_copyFrom_53 : decode cX6_copyFrom 53 = .ok (.aload_n 0, 1) := by decide +kernel
theorem dX6_copyFrom_54 : decode cX6_copyFrom 54 = .ok (.aload_n 1, 1) := by decide +kernel
theorem dX6_copyFrom_55 : decode cX6_copyFrom 55 = .ok (.getfield 35, 3) := by decide +kernel
theorem dX6_copyFrom_58 : decode cX6_copyFrom 58 = .ok (.putfield 35, 3) := by decide +kernel
theorem dX6_copyFrom_61 : decode cX6_copyFrom 61 = .ok (.aload_n 0, 1) := by decide +kernel
theorem dX6_copyFrom_62 : decode cX6_copyFrom 62 = .ok (.aload_n 1, 1) := by decide +kernel
theorem dX6_copyFrom_63 : decode cX6_copyFrom 63 = .ok (.getfield 41, 3) := by decide +kernel
theorem dX6_copyFrom_66 : decode cX6_copyFrom 66 = .ok (.putfield 41, 3) := by decide +kernel
theorem dX6_copyFrom_69 : decode cX6_copyFrom 69 = .ok (.aload_n 0, 1) := by decide +kernel
theorem dX6_copyFrom_70 : decode cX6_copyFrom 70 = .ok (.aload_n 1, 1) := by decide +kernel
theorem dX6_copyFrom_71 : decode cX6_copyFrom 71 = .ok (.getfield 42, 3) := by decide +kernel
theorem dX6_copyFrom_74 : decode cX6_copyFrom 74 = .ok (.putfield 42, 3) := by decide +kernel
theorem dX6_copyFrom_77 : decode cX6_copyFrom 77 = .ok (.aload_n 0, 1) := by decide +kernel
theorem dX6_copyFrom_78 : decode cX6_copyFrom 78 = .ok (.aload_n 1, 1) := by decide +kernel
theorem dX6_copyFrom_79 : decode cX6_copyFrom 79 = .ok (.getfield 45, 3) := by decide +kernel
theorem dX6_copyFrom_82 : decode cX6_copyFrom 82 = .ok (.putfield 45, 3) := by decide +kernel
theorem dX6_copyFrom_85 : decode cX6_copyFrom 85 = .ok (.return_, 1) := by decide +kernel
theorem dX6_docketAt_0 : decode cX6_docketAt 0 = .ok (.iload_n 1, 1) := by decide +kernel
theorem dX6_docketAt_1 : decode cX6_docketAt 1 = .ok (.ifCond .lt 26, 3) := by decide +kernel
theorem dX6_docketAt_4 : decode cX6_docketAt 4 = .ok (.iload_n 1, 1) := by decide +kernel
theorem dX6_docketAt_5 : decode cX6_docketAt 5 = .ok (.aload_n 0, 1) := by decide +kernel
theorem dX6_docketAt_6 : decode cX6_docketAt 6 = .ok (.getfield 32, 3) := by decide +kernel
theorem dX6_docketAt_9 : decode cX6_docketAt 9 = .ok (.if_icmp .ge 18, 3) := by decide +kernel
theorem dX6_docketAt_12 : decode cX6_docketAt 12 = .ok (.iload_n 1, 1) := by decide +kernel
theorem dX6_docketAt_13 : decode cX6_docketAt 13 = .ok (.bipush 7, 2) := by decide +kernel
theorem dX6_docketAt_15 : decode cX6_docketAt 15 = .ok (.if_icmp .ge 12, 3) := by decide +kernel
theorem dX6_docketAt_18 : decode cX6_docketAt 18 = .ok (.aload_n 0, 1) := by decide +kernel
theorem dX6_docketAt_19 : decode cX6_docketAt 19 = .ok (.getfield 9, 3) := by decide +kernel
theorem dX6_docketAt_22 : decode cX6_docketAt 22 = .ok (.iload_n 1, 1) := by decide +kernel
theorem dX6_docketAt_23 : decode cX6_docketAt 23 = .ok (.iaload, 1) := by decide +kernel
theorem dX6_docketAt_24 : decode cX6_docketAt 24 = .ok (.goto 4, 3) := by decide +kernel
theorem dX6_docketAt_27 : decode cX6_docketAt 27 = .ok (.iconst (-1), 1) := by decide +kernel
theorem dX6_docketAt_28 : decode cX6_docketAt 28 = .ok (.ireturn, 1) := by decide +kernel
theorem dX6_placeOf_0 : decode cX6_placeOf 0 = .ok (.iconst 0, 1) := by decide +kernel
theorem dX6_placeOf_1 : decode cX6_placeOf 1 = .ok (.istore_n 2, 1) := by decide +kernel
theorem dX6_placeOf_2 : decode cX6_placeOf 2 = .ok (.iload_n 2, 1) := by decide +kernel
theorem dX6_placeOf_3 : decode cX6_placeOf 3 = .ok (.aload_n 0, 1) := by decide +kernel
theorem dX6_placeOf_4 : decode cX6_placeOf 4 = .ok (.getfield 32, 3) := by decide +kernel
theorem dX6_placeOf_7 : decode cX6_placeOf 7 = .ok (.if_icmp .ge 27, 3) := by decide +kernel
theorem dX6_placeOf_10 : decode cX6_placeOf 10 = .ok (.iload_n 2, 1) := by decide +kernel
theorem dX6_placeOf_11 : decode cX6_placeOf 11 = .ok (.bipush 7, 2) := by decide +kernel
theorem dX6_placeOf_13 : decode cX6_placeOf 13 = .ok (.if_icmp .ge 21, 3) := by decide +kernel
theorem dX6_placeOf_16 : decode cX6_placeOf 16 = .ok (.aload_n 0, 1) := by decide +kernel
theorem dX6_placeOf_17 : decode cX6_placeOf 17 = .ok (.getfield 9, 3) := by decide +kernel
theorem dX6_placeOf_20 : decode cX6_placeOf 20 = .ok (.iload_n 2, 1) := by decide +kernel
theorem dX6_placeOf_21 : decode cX6_placeOf 21 = .ok (.iaload, 1) := by decide +kernel
theorem dX6_placeOf_22 : decode cX6_placeOf 22 = .ok (.iload_n 1, 1) := by decide +kernel
theorem dX6_placeOf_23 : decode cX6_placeOf 23 = .ok (.if_icmp .ne 5, 3) := by decide +kernel
theorem dX6_placeOf_26 : decode cX6_placeOf 26 = .ok (.iload_n 2, 1) := by decide +kernel
theorem dX6_placeOf_27 : decode cX6_placeOf 27 = .ok (.ireturn, 1) := by decide +kernel
theorem dX6_placeOf_28 : decode cX6_placeOf 28 = .ok (.iinc 2 1, 3) := by decide +kernel
theorem dX6_placeOf_31 : decode cX6_placeOf 31 = .ok (.goto (-29), 3) := by decide +kernel
theorem dX6_placeOf_34 : decode cX6_placeOf 34 = .ok (.iconst (-1), 1) := by decide +kernel
theorem dX6_placeOf_35 : decode cX6_placeOf 35 = .ok (.ireturn, 1) := by decide +kernel
theorem dX6_isListed_0 : decode cX6_isListed 0 = .ok (.aload_n 0, 1) := by decide +kernel
theorem dX6_isListed_1 : decode cX6_isListed 1 = .ok (.iload_n 1, 1) := by decide +kernel
theorem dX6_isListed_2 : decode cX6_isListed 2 = .ok (.invokevirtual 54, 3) := by decide +kernel
theorem dX6_isListed_5 : decode cX6_isListed 5 = .ok (.iconst (-1), 1) := by decide +kernel
theorem dX6_isListed_6 : decode cX6_isListed 6 = .ok (.if_icmp .eq 7, 3) := by decide +kernel
theorem dX6_isListed_9 : decode cX6_isListed 9 = .ok (.iconst 1, 1) := by decide +kernel
theorem dX6_isListed_10 : decode cX6_isListed 10 = .ok (.goto 4, 3) := by decide +kernel
theorem dX6_isListed_13 : decode cX6_isListed 13 = .ok (.iconst 0, 1) := by decide +kernel
theorem dX6_isListed_14 : decode cX6_isListed 14 = .ok (.ireturn, 1) := by decide +kernel
theorem dX6_aheadOf_0 : decode cX6_aheadOf 0 = .ok (.aload_n 0, 1) := by decide +kernel
theorem dX6_aheadOf_1 : decode cX6_aheadOf 1 = .ok (.iload_n 1, 1) := by decide +kernel
theorem dX6_aheadOf_2 : decode cX6_aheadOf 2 = .ok (.iconst 1, 1) := by decide +kernel
theorem dX6_aheadOf_3 : decode cX6_aheadOf 3 = .ok (.isub, 1) := by decide +kernel
theorem dX6_aheadOf_4 : decode cX6_aheadOf 4 = .ok (.invokevirtual 58, 3) := by decide +kernel
theorem dX6_aheadOf_7 : decode cX6_aheadOf 7 = .ok (.ireturn, 1) := by decide +kernel
theorem dX6_behindOf_0 : decode cX6_behindOf 0 = .ok (.aload_n 0, 1) := by decide +kernel
theorem dX6_behindOf_1 : decode cX6_behindOf 1 = .ok (.iload_n 1, 1) := by decide +kernel
theorem dX6_behindOf_2 : decode cX6_behindOf 2 = .ok (.invokevirtual 54, 3) := by decide +kernel
theorem dX6_behindOf_5 : decode cX6_behindOf 5 = .ok (.istore_n 2, 1) := by decide +kernel
theorem dX6_behindOf_6 : decode cX6_behindOf 6 = .ok (.iload_n 2, 1) := by decide +kernel
theorem dX6_behindOf_7 : decode cX6_behindOf 7 = .ok (.iconst (-1), 1) := by decide +kernel
theorem dX6_behindOf_8 : decode cX6_behindOf 8 = .ok (.if_icmp .ne 7, 3) := by decide +kernel
theorem dX6_behindOf_11 : decode cX6_behindOf 11 = .ok (.iconst (-1), 1) := by decide +kernel
theorem dX6_behindOf_12 : decode cX6_behindOf 12 = .ok (.goto 10, 3) := by decide +kernel
theorem dX6_behindOf_15 : decode cX6_behindOf 15 = .ok (.aload_n 0, 1) := by decide +kernel
theorem dX6_behindOf_16 : decode cX6_behindOf 16 = .ok (.iload_n 2, 1) := by decide +kernel
theorem dX6_behindOf_17 : decode cX6_behindOf 17 = .ok (.iconst 1, 1) := by decide +kernel
theorem dX6_behindOf_18 : decode cX6_behindOf 18 = .ok (.iadd, 1) := by decide +kernel
theorem dX6_behindOf_19 : decode cX6_behindOf 19 = .ok (.invokevirtual 58, 3) := by decide +kernel
theorem dX6_behindOf_22 : decode cX6_behindOf 22 = .ok (.ireturn, 1) := by decide +kernel
theorem dX6_isPleading_0 : decode cX6_isPleading 0 = .ok (.iload_n 1, 1) := by decide +kernel
theorem dX6_isPleading_1 : decode cX6_isPleading 1 = .ok (.ifCond .lt 25, 3) := by decide +kernel
theorem dX6_isPleading_4 : decode cX6_isPleading 4 = .ok (.iload_n 1, 1) := by decide +kernel
theorem dX6_isPleading_5 : decode cX6_isPleading 5 = .ok (.bipush 7, 2) := by decide +kernel
theorem dX6_isPleading_7 : decode cX6_isPleading 7 = .ok (.if_icmp .ge 19, 3) := by decide +kernel
theorem dX6_isPleading_10 : decode cX6_isPleading 10 = .ok (.aload_n 0, 1) := by decide +kernel
theorem dX6_isPleading_11 : decode cX6_isPleading 11 = .ok (.getfield 35, 3) := by decide +kernel
theorem dX6_isPleading_14 : decode cX6_isPleading 14 = .ok (.iload_n 1, 1) := by decide +kernel
theorem dX6_isPleading_15 : decode cX6_isPleading 15 = .ok (.ishr, 1) := by decide +kernel
theorem dX6_isPleading_16 : decode cX6_isPleading 16 = .ok (.iconst 1, 1) := by decide +kernel
theorem dX6_isPleading_17 : decode cX6_isPleading 17 = .ok (.iand, 1) := by decide +kernel
theorem dX6_isPleading_18 : decode cX6_isPleading 18 = .ok (.iconst 1, 1) := by decide +kernel
theorem dX6_isPleading_19 : decode cX6_isPleading 19 = .ok (.if_icmp .ne 7, 3) := by decide +kernel
theorem dX6_isPleading_22 : decode cX6_isPleading 22 = .ok (.iconst 1, 1) := by decide +kernel
theorem dX6_isPleading_23 : decode cX6_isPleading 23 = .ok (.goto 4, 3) := by decide +kernel
theorem dX6_isPleading_26 : decode cX6_isPleading 26 = .ok (.iconst 0, 1) := by decide +kernel
theorem dX6_isPleading_27 : decode cX6_isPleading 27 = .ok (.ireturn, 1) := by decide +kernel
theorem dX6_letPlead_0 : decode cX6_letPlead 0 = .ok (.iload_n 1, 1) := by decide +kernel
theorem dX6_letPlead_1 : decode cX6_letPlead 1 = .ok (.ifCond .lt 21, 3) := by decide +kernel
theorem dX6_letPlead_4 : decode cX6_letPlead 4 = .ok (.iload_n 1, 1) := by decide +kernel
theorem dX6_letPlead_5 : decode cX6_letPlead 5 = .ok (.bipush 7, 2) := by decide +kernel
theorem dX6_letPlead_7 : decode cX6_letPlead 7 = .ok (.if_icmp .ge 15, 3) := by decide +kernel
theorem dX6_letPlead_10 : decode cX6_letPlead 10 = .ok (.aload_n 0, 1) := by decide +kernel
theorem dX6_letPlead_11 : decode cX6_letPlead 11 = .ok (.dup, 1) := by decide +kernel
theorem dX6_letPlead_12 : decode cX6_letPlead 12 = .ok (.getfield 35, 3) := by decide +kernel
theorem dX6_letPlead_15 : decode cX6_letPlead 15 = .ok (.iconst 1, 1) := by decide +kernel
theorem dX6_letPlead_16 : decode cX6_letPlead 16 = .ok (.iload_n 1, 1) := by decide +kernel
theorem dX6_letPlead_17 : decode cX6_letPlead 17 = .ok (.ishl, 1) := by decide +kernel
theorem dX6_letPlead_18 : decode cX6_letPlead 18 = .ok (.ior, 1) := by decide +kernel
theorem dX6_letPlead_19 : decode cX6_letPlead 19 = .ok (.putfield 35, 3) := by decide +kernel
theorem dX6_letPlead_22 : decode cX6_letPlead 22 = .ok (.return_, 1) := by decide +kernel
theorem dX6_swap_0 : decode cX6_swap 0 = .ok (.aload_n 0, 1) := by decide +kernel
theorem dX6_swap_1 : decode cX6_swap 1 = .ok (.iload_n 1, 1) := by decide +kernel
theorem dX6_swap_2 : decode cX6_swap 2 = .ok (.invokevirtual 54, 3) := by decide +kernel
theorem dX6_swap_5 : decode cX6_swap 5 = .ok (.istore_n 3, 1) := by decide +kernel
theorem dX6_swap_6 : decode cX6_swap 6 = .ok (.aload_n 0, 1) := by decide +kernel
theorem dX6_swap_7 : decode cX6_swap 7 = .ok (.iload_n 2, 1) := by decide +kernel
theorem dX6_swap_8 : decode cX6_swap 8 = .ok (.invokevirtual 54, 3) := by decide +kernel
theorem dX6_swap_11 : decode cX6_swap 11 = .ok (.istore 4, 2) := by decide +kernel
theorem dX6_swap_13 : decode cX6_swap 13 = .ok (.iload_n 3, 1) := by decide +kernel
theorem dX6_swap_14 : decode cX6_swap 14 = .ok (.iconst (-1), 1) := by decide +kernel
theorem dX6_swap_15 : decode cX6_swap 15 = .ok (.if_icmp .eq 24, 3) := by decide +kernel
theorem dX6_swap_18 : decode cX6_swap 18 = .ok (.iload 4, 2) := by decide +kernel
theorem dX6_swap_20 : decode cX6_swap 20 = .ok (.iconst (-1), 1) := by decide +kernel
theorem dX6_swap_21 : decode cX6_swap 21 = .ok (.if_icmp .eq 18, 3) := by decide +kernel
theorem dX6_swap_24 : decode cX6_swap 24 = .ok (.aload_n 0, 1) := by decide +kernel
theorem dX6_swap_25 : decode cX6_swap 25 = .ok (.getfield 9, 3) := by decide +kernel
theorem dX6_swap_28 : decode cX6_swap 28 = .ok (.iload_n 3, 1) := by decide +kernel
theorem dX6_swap_29 : decode cX6_swap 29 = .ok (.iload_n 2, 1) := by decide +kernel
theorem dX6_swap_30 : decode cX6_swap 30 = .ok (.iastore, 1) := by decide +kernel
theorem dX6_swap_31 : decode cX6_swap 31 = .ok (.aload_n 0, 1) := by decide +kernel
theorem dX6_swap_32 : decode cX6_swap 32 = .ok (.getfield 9, 3) := by decide +kernel
theorem dX6_swap_35 : decode cX6_swap 35 = .ok (.iload 4, 2) := by decide +kernel
theorem dX6_swap_37 : decode cX6_swap 37 = .ok (.iload_n 1, 1) := by decide +kernel
theorem dX6_swap_38 : decode cX6_swap 38 = .ok (.iastore, 1) := by decide +kernel
theorem dX6_swap_39 : decode cX6_swap 39 = .ok (.return_, 1) := by decide +kernel
theorem dX6_move_0 : decode cX6_move 0 = .ok (.aload_n 0, 1) := by decide +kernel
theorem dX6_move_1 : decode cX6_move 1 = .ok (.iload_n 1, 1) := by decide +kernel
theorem dX6_move_2 : decode cX6_move 2 = .ok (.invokevirtual 54, 3) := by decide +kernel
theorem dX6_move_5 : decode cX6_move 5 = .ok (.istore_n 3, 1) := by decide +kernel
theorem dX6_move_6 : decode cX6_move 6 = .ok (.iload_n 3, 1) := by decide +kernel
theorem dX6_move_7 : decode cX6_move 7 = .ok (.iconst (-1), 1) := by decide +kernel
theorem dX6_move_8 : decode cX6_move 8 = .ok (.if_icmp .eq 12, 3) := by decide +kernel
theorem dX6_move_11 : decode cX6_move 11 = .ok (.aload_n 0, 1) := by decide +kernel
theorem dX6_move_12 : decode cX6_move 12 = .ok (.iload_n 2, 1) := by decide +kernel
theorem dX6_move_13 : decode cX6_move 13 = .ok (.invokevirtual 58, 3) := by decide +kernel
theorem dX6_move_16 : decode cX6_move 16 = .ok (.iconst (-1), 1) := by decide +kernel
theorem dX6_move_17 : decode cX6_move 17 = .ok (.if_icmp .ne 4, 3) := by decide +kernel
theorem dX6_move_20 : decode cX6_move 20 = .ok (.return_, 1) := by decide +kernel
theorem dX6_move_21 : decode cX6_move 21 = .ok (.iload_n 3, 1) := by decide +kernel
theorem dX6_move_22 : decode cX6_move 22 = .ok (.iload_n 2, 1) := by decide +kernel
theorem dX6_move_23 : decode cX6_move 23 = .ok (.if_icmp .ge 7, 3) := by decide +kernel
theorem dX6_move_26 : decode cX6_move 26 = .ok (.iconst 1, 1) := by decide +kernel
theorem dX6_move_27 : decode cX6_move 27 = .ok (.goto 4, 3) := by decide +kernel
theorem dX6_move_30 : decode cX6_move 30 = .ok (.iconst (-1), 1) := by decide +kernel
theorem dX6_move_31 : decode cX6_move 31 = .ok (.istore 4, 2) := by decide +kernel
theorem dX6_move_33 : decode cX6_move 33 = .ok (.iconst 0, 1) := by decide +kernel
theorem dX6_move_34 : decode cX6_move 34 = .ok (.istore 5, 2) := by decide +kernel
theorem dX6_move_36 : decode cX6_move 36 = .ok (.iload 5, 2) := by decide +kernel
theorem dX6_move_38 : decode cX6_move 38 = .ok (.bipush 7, 2) := by decide +kernel
theorem dX6_move_40 : decode cX6_move 40 = .ok (.if_icmp .ge 33, 3) := by decide +kernel
theorem dX6_move_43 : decode cX6_move 43 = .ok (.iload_n 3, 1) := by decide +kernel
theorem dX6_move_44 : decode cX6_move 44 = .ok (.iload_n 2, 1) := by decide +kernel
theorem dX6_move_45 : decode cX6_move 45 = .ok (.if_icmp .eq 28, 3) := by decide +kernel
theorem dX6_move_48 : decode cX6_move 48 = .ok (.aload_n 0, 1) := by decide +kernel
theorem dX6_move_49 : decode cX6_move 49 = .ok (.getfield 9, 3) := by decide +kernel
theorem dX6_move_52 : decode cX6_move 52 = .ok (.iload_n 3, 1) := by decide +kernel
theorem dX6_move_53 : decode cX6_move 53 = .ok (.aload_n 0, 1) := by decide +kernel
theorem dX6_move_54 : decode cX6_move 54 = .ok (.iload_n 3, 1) := by decide +kernel
theorem dX6_move_55 : decode cX6_move 55 = .ok (.iload 4, 2) := by decide +kernel
theorem dX6_move_57 : decode cX6_move 57 = .ok (.iadd, 1) := by decide +kernel
theorem dX6_move_58 : decode cX6_move 58 = .ok (.invokevirtual 58, 3) := by decide +kernel
theorem dX6_move_61 : decode cX6_move 61 = .ok (.iastore, 1) := by decide +kernel
theorem dX6_move_62 : decode cX6_move 62 = .ok (.iload_n 3, 1) := by decide +kernel
theorem dX6_move_63 : decode cX6_move 63 = .ok (.iload 4, 2) := by decide +kernel
theorem dX6_move_65 : decode cX6_move 65 = .ok (.iadd, 1) := by decide +kernel
theorem dX6_move_66 : decode cX6_move 66 = .ok (.istore_n 3, 1) := by decide +kernel
theorem dX6_move_67 : decode cX6_move 67 = .ok (.iinc 5 1, 3) := by decide +kernel
theorem dX6_move_70 : decode cX6_move 70 = .ok (.goto (-34), 3) := by decide +kernel
theorem dX6_move_73 : decode cX6_move 73 = .ok (.aload_n 0, 1) := by decide +kernel
theorem dX6_move_74 : decode cX6_move 74 = .ok (.getfield 9, 3) := by decide +kernel
theorem dX6_move_77 : decode cX6_move 77 = .ok (.iload_n 2, 1) := by decide +kernel
theorem dX6_move_78 : decode cX6_move 78 = .ok (.iload_n 1, 1) := by decide +kernel
theorem dX6_move_79 : decode cX6_move 79 = .ok (.iastore, 1) := by decide +kernel
theorem dX6_move_80 : decode cX6_move 80 = .ok (.return_, 1) := by decide +kernel
theorem dX6_strike_0 : decode cX6_strike 0 = .ok (.aload_n 0, 1) := by decide +kernel
theorem dX6_strike_1 : decode cX6_strike 1 = .ok (.iload_n 1, 1) := by decide +kernel
theorem dX6_strike_2 : decode cX6_strike 2 = .ok (.invokevirtual 61, 3) := by decide +kernel
theorem dX6_strike_5 : decode cX6_strike 5 = .ok (.ifCond .eq 38, 3) := by decide +kernel
theorem dX6_strike_8 : decode cX6_strike 8 = .ok (.aload_n 0, 1) := by decide +kernel
theorem dX6_strike_9 : decode cX6_strike 9 = .ok (.iload_n 1, 1) := by decide +kernel
theorem dX6_strike_10 : decode cX6_strike 10 = .ok (.aload_n 0, 1) := by decide +kernel
theorem dX6_strike_11 : decode cX6_strike 11 = .ok (.getfield 32, 3) := by decide +kernel
theorem dX6_strike_14 : decode cX6_strike 14 = .ok (.iconst 1, 1) := by decide +kernel
theorem dX6_strike_15 : decode cX6_strike 15 = .ok (.isub, 1) := by decide +kernel
theorem dX6_strike_16 : decode cX6_strike 16 = .ok (.invokevirtual 64, 3) := by decide +kernel
theorem dX6_strike_19 : decode cX6_strike 19 = .ok (.aload_n 0, 1) := by decide +kernel
theorem dX6_strike_20 : decode cX6_strike 20 = .ok (.dup, 1) := by decide +kernel
theorem dX6_strike_21 : decode cX6_strike 21 = .ok (.getfield 32, 3) := by decide +kernel
theorem dX6_strike_24 : decode cX6_strike 24 = .ok (.iconst 1, 1) := by decide +kernel
theorem dX6_strike_25 : decode cX6_strike 25 = .ok (.isub, 1) := by decide +kernel
theorem dX6_strike_26 : decode cX6_strike 26 = .ok (.putfield 32, 3) := by decide +kernel
theorem dX6_strike_29 : decode cX6_strike 29 = .ok (.aload_n 0, 1) := by decide +kernel
theorem dX6_strike_30 : decode cX6_strike 30 = .ok (.dup, 1) := by decide +kernel
theorem dX6_strike_31 : decode cX6_strike 31 = .ok (.getfield 35, 3) := by decide +kernel
theorem dX6_strike_34 : decode cX6_strike 34 = .ok (.iconst 1, 1) := by decide +kernel
theorem dX6_strike_35 : decode cX6_strike 35 = .ok (.iload_n 1, 1) := by decide +kernel
theorem dX6_strike_36 : decode cX6_strike 36 = .ok (.ishl, 1) := by decide +kernel
theorem dX6_strike_37 : decode cX6_strike 37 = .ok (.iconst (-1), 1) := by decide +kernel
theorem dX6_strike_38 : decode cX6_strike 38 = .ok (.ixor, 1) := by decide +kernel
theorem dX6_strike_39 : decode cX6_strike 39 = .ok (.iand, 1) := by decide +kernel
theorem dX6_strike_40 : decode cX6_strike 40 = .ok (.putfield 35, 3) := by decide +kernel
theorem dX6_strike_43 : decode cX6_strike 43 = .ok (.return_, 1) := by decide +kernel
theorem dX6_append_0 : decode cX6_append 0 = .ok (.aload_n 0, 1) := by decide +kernel
theorem dX6_append_1 : decode cX6_append 1 = .ok (.getfield 32, 3) := by decide +kernel
theorem dX6_append_4 : decode cX6_append 4 = .ok (.ifCond .lt 32, 3) := by decide +kernel
theorem dX6_append_7 : decode cX6_append 7 = .ok (.aload_n 0, 1) := by decide +kernel
theorem dX6_append_8 : decode cX6_append 8 = .ok (.getfield 32, 3) := by decide +kernel
theorem dX6_append_11 : decode cX6_append 11 = .ok (.bipush 7, 2) := by decide +kernel
theorem dX6_append_13 : decode cX6_append 13 = .ok (.if_icmp .ge 23, 3) := by decide +kernel
theorem dX6_append_16 : decode cX6_append 16 = .ok (.aload_n 0, 1) := by decide +kernel
theorem dX6_append_17 : decode cX6_append 17 = .ok (.getfield 9, 3) := by decide +kernel
theorem dX6_append_20 : decode cX6_append 20 = .ok (.aload_n 0, 1) := by decide +kernel
theorem dX6_append_21 : decode cX6_append 21 = .ok (.getfield 32, 3) := by decide +kernel
theorem dX6_append_24 : decode cX6_append 24 = .ok (.iload_n 1, 1) := by decide +kernel
theorem dX6_append_25 : decode cX6_append 25 = .ok (.iastore, 1) := by decide +kernel
theorem dX6_append_26 : decode cX6_append 26 = .ok (.aload_n 0, 1) := by decide +kernel
theorem dX6_append_27 : decode cX6_append 27 = .ok (.dup, 1) := by decide +kernel
theorem dX6_append_28 : decode cX6_append 28 = .ok (.getfield 32, 3) := by decide +kernel
theorem dX6_append_31 : decode cX6_append 31 = .ok (.iconst 1, 1) := by decide +kernel
theorem dX6_append_32 : decode cX6_append 32 = .ok (.iadd, 1) := by decide +kernel
theorem dX6_append_33 : decode cX6_append 33 = .ok (.putfield 32, 3) := by decide +kernel
theorem dX6_append_36 : decode cX6_append 36 = .ok (.return_, 1) := by decide +kernel
theorem dX7_init_0 : decode cX7_init 0 = .ok (.aload_n 0, 1) := by decide +kernel
theorem dX7_init_1 : decode cX7_init 1 = .ok (.invokespecial 3, 3) := by decide +kernel
theorem dX7_init_4 : decode cX7_init 4 = .ok (.aload_n 0, 1) := by decide +kernel
theorem dX7_init_5 : decode cX7_init 5 = .ok (.sipush 2000, 3) := by decide +kernel
theorem dX7_init_8 : decode cX7_init 8 = .ok (.newarray .byte, 2) := by decide +kernel
theorem dX7_init_10 : decode cX7_init 10 = .ok (.putfield 9, 3) := by decide +kernel
theorem dX7_init_13 : decode cX7_init 13 = .ok (.return_, 1) := by decide +kernel
theorem dX7_putWord_0 : decode cX7_putWord 0 = .ok (.bipush 24, 2) := by decide +kernel
theorem dX7_putWord_2 : decode cX7_putWord 2 = .ok (.istore_n 2, 1) := by decide +kernel
theorem dX7_putWord_3 : decode cX7_putWord 3 = .ok (.iload_n 2, 1) := by decide +kernel
theorem dX7_putWord_4 : decode cX7_putWord 4 = .ok (.ifCond .lt 51, 3) := by decide +kernel
theorem dX7_putWord_7 : decode cX7_putWord 7 = .ok (.aload_n 0, 1) := by decide +kernel
theorem dX7_putWord_8 : decode cX7_putWord 8 = .ok (.getfield 15, 3) := by decide +kernel
theorem dX7_putWord_11 : decode cX7_putWord 11 = .ok (.ifCond .lt 38, 3) := by decide +kernel
theorem dX7_putWord_14 : decode cX7_putWord 14 = .ok (.aload_n 0, 1) := by decide +kernel
theorem dX7_putWord_15 : decode cX7_putWord 15 = .ok (.getfield 15, 3) := by decide +kernel
theorem dX7_putWord_18 : decode cX7_putWord 18 = .ok (.aload_n 0, 1) := by decide +kernel
theorem dX7_putWord_19 : decode cX7_putWord 19 = .ok (.getfield 9, 3) := by decide +kernel
theorem dX7_putWord_22 : decode cX7_putWord 22 = .ok (.arraylength, 1) := by decide +kernel
theorem dX7_putWord_23 : decode cX7_putWord 23 = .ok (.if_icmp .ge 26, 3) := by decide +kernel
theorem dX7_putWord_26 : decode cX7_putWord 26 = .ok (.aload_n 0, 1) := by decide +kernel
theorem dX7_putWord_27 : decode cX7_putWord 27 = .ok (.getfield 9, 3) := by decide +kernel
theorem dX7_putWord_30 : decode cX7_putWord 30 = .ok (.aload_n 0, 1) := by decide +kernel
theorem dX7_putWord_31 : decode cX7_putWord 31 = .ok (.getfield 15, 3) := by decide +kernel
theorem dX7_putWord_34 : decode cX7_putWord 34 = .ok (.iload_n 1, 1) := by decide +kernel
theorem dX7_putWord_35 : decode cX7_putWord 35 = .ok (.iload_n 2, 1) := by decide +kernel
theorem dX7_putWord_36 : decode cX7_putWord 36 = .ok (.ishr, 1) := by decide +kernel
theorem dX7_putWord_37 : decode cX7_putWord 37 = .ok (.i2b, 1) := by decide +kernel
theorem dX7_putWord_38 : decode cX7_putWord 38 = .ok (.bastore, 1) := by decide +kernel
theorem dX7_putWord_39 : decode cX7_putWord 39 = .ok (.aload_n 0, 1) := by decide +kernel
theorem dX7_putWord_40 : decode cX7_putWord 40 = .ok (.dup, 1) := by decide +kernel
theorem dX7_putWord_41 : decode cX7_putWord 41 = .ok (.getfield 15, 3) := by decide +kernel
theorem dX7_putWord_44 : decode cX7_putWord 44 = .ok (.iconst 1, 1) := by decide +kernel
theorem dX7_putWord_45 : decode cX7_putWord 45 = .ok (.iadd, 1) := by decide +kernel
theorem dX7_putWord_46 : decode cX7_putWord 46 = .ok (.putfield 15, 3) := by decide +kernel
theorem dX7_putWord_49 : decode cX7_putWord 49 = .ok (.iinc 2 (-8), 3) := by decide +kernel
theorem dX7_putWord_52 : decode cX7_putWord 52 = .ok (.goto (-49), 3) := by decide +kernel
theorem dX7_putWord_55 : decode cX7_putWord 55 = .ok (.return_, 1) := by decide +kernel
theorem dX7_byteAt_0 : decode cX7_byteAt 0 = .ok (.iload_n 1, 1) := by decide +kernel
theorem dX7_byteAt_1 : decode cX7_byteAt 1 = .ok (.ifCond .lt 33, 3) := by decide +kernel
theorem dX7_byteAt_4 : decode cX7_byteAt 4 = .ok (.iload_n 1, 1) := by decide +kernel
theorem dX7_byteAt_5 : decode cX7_byteAt 5 = .ok (.aload_n 0, 1) := by decide +kernel
theorem dX7_byteAt_6 : decode cX7_byteAt 6 = .ok (.getfield 15, 3) := by decide +kernel
theorem dX7_byteAt_9 : decode cX7_byteAt 9 = .ok (.if_icmp .ge 25, 3) := by decide +kernel
theorem dX7_byteAt_12 : decode cX7_byteAt 12 = .ok (.iload_n 1, 1) := by decide +kernel
theorem dX7_byteAt_13 : decode cX7_byteAt 13 = .ok (.aload_n 0, 1) := by decide +kernel
theorem dX7_byteAt_14 : decode cX7_byteAt 14 = .ok (.getfield 9, 3) := by decide +kernel
theorem dX7_byteAt_17 : decode cX7_byteAt 17 = .ok (.arraylength, 1) := by decide +kernel
theorem dX7_byteAt_18 : decode cX7_byteAt 18 = .ok (.if_icmp .ge 16, 3) := by decide +kernel
theorem dX7_byteAt_21 : decode cX7_byteAt 21 = .ok (.aload_n 0, 1) := by decide +kernel
theorem dX7_byteAt_22 : decode cX7_byteAt 22 = .ok (.getfield 9, 3) := by decide +kernel
theorem dX7_byteAt_25 : decode cX7_byteAt 25 = .ok (.iload_n 1, 1) := by decide +kernel
theorem dX7_byteAt_26 : decode cX7_byteAt 26 = .ok (.baload, 1) := by decide +kernel
theorem dX7_byteAt_27 : decode cX7_byteAt 27 = .ok (.sipush 255, 3) := by decide +kernel
theorem dX7_byteAt_30 : decode cX7_byteAt 30 = .ok (.iand, 1) := by decide +kernel
theorem dX7_byteAt_31 : decode cX7_byteAt 31 = .ok (.goto 4, 3) := by decide +kernel
theorem dX7_byteAt_34 : decode cX7_byteAt 34 = .ok (.iconst (-1), 1) := by decide +kernel
theorem dX7_byteAt_35 : decode cX7_byteAt 35 = .ok (.ireturn, 1) := by decide +kernel
theorem dX8_init_0 : decode cX8_init 0 = .ok (.aload_n 0, 1) := by decide +kernel
theorem dX8_init_1 : decode cX8_init 1 = .ok (.invokespecial 3, 3) := by decide +kernel
theorem dX8_init_4 : decode cX8_init 4 = .ok (.aload_n 0, 1) := by decide +kernel
theorem dX8_init_5 : decode cX8_init 5 = .ok (.sipush 420, 3) := by decide +kernel
theorem dX8_init_8 : decode cX8_init 8 = .ok (.newarray .int, 2) := by decide +kernel
theorem dX8_init_10 : decode cX8_init 10 = .ok (.putfield 9, 3) := by decide +kernel
theorem dX8_init_13 : decode cX8_init 13 = .ok (.aload_n 0, 1) := by decide +kernel
theorem dX8_init_14 : decode cX8_init 14 = .ok (.iconst 4, 1) := by decide +kernel
theorem dX8_init_15 : decode cX8_init 15 = .ok (.newarray .int, 2) := by decide +kernel
theorem dX8_init_17 : decode cX8_init 17 = .ok (.putfield 15, 3) := by decide +kernel
theorem dX8_init_20 : decode cX8_init 20 = .ok (.aload_n 0, 1) := by decide +kernel
theorem dX8_init_21 : decode cX8_init 21 = .ok (.bipush 7, 2) := by decide +kernel
theorem dX8_init_23 : decode cX8_init 23 = .ok (.newarray .int, 2) := by decide +kernel
theorem dX8_init_25 : decode cX8_init 25 = .ok (.putfield 18, 3) := by decide +kernel
theorem dX8_init_28 : decode cX8_init 28 = .ok (.aload_n 0, 1) := by decide +kernel
theorem dX8_init_29 : decode cX8_init 29 = .ok (.bipush 7, 2) := by decide +kernel
theorem dX8_init_31 : decode cX8_init 31 = .ok (.newarray .int, 2) := by decide +kernel
theorem dX8_init_33 : decode cX8_init 33 = .ok (.putfield 21, 3) := by decide +kernel
theorem dX8_init_36 : decode cX8_init 36 = .ok (.aload_n 0, 1) := by decide +kernel
theorem dX8_init_37 : decode cX8_init 37 = .ok (.bipush 7, 2) := by decide +kernel
theorem dX8_init_39 : decode cX8_init 39 = .ok (.newarray .long, 2) := by decide +kernel
theorem dX8_init_41 : decode cX8_init 41 = .ok (.putfield 24, 3) := by decide +kernel
theorem dX8_init_44 : decode cX8_init 44 = .ok (.aload_n 0, 1) := by decide +kernel
theorem dX8_init_45 : decode cX8_init 45 = .ok (.invokevirtual 28, 3) := by decide +kernel
theorem dX8_init_48 : decode cX8_init 48 = .ok (.return_, 1) := by decide +kernel
theorem dX8_clear_0 : decode cX8_clear 0 = .ok (.aload_n 0, 1) := by decide +kernel
theorem dX8_clear_1 : decode cX8_clear 1 = .ok (.iconst 0, 1) := by decide +kernel
theorem dX8_clear_2 : decode cX8_clear 2 = .ok (.putfield 31, 3) := by decide +kernel
theorem dX8_clear_5 : decode cX8_clear 5 = .ok (.aload_n 0, 1) := by decide +kernel
theorem dX8_clear_6 : decode cX8_clear 6 = .ok (.iconst 0, 1) := by decide +kernel
theorem dX8_clear_7 : decode cX8_clear 7 = .ok (.putfield 35, 3) := by decide +kernel
theorem dX8_clear_10 : decode cX8_clear 10 = .ok (.aload_n 0, 1) := by decide +kernel
theorem dX8_clear_11 : decode cX8_clear 11 = .ok (.iconst 0, 1) := by decide +kernel
theorem dX8_clear_12 : decode cX8_clear 12 = .ok (.putfield 38, 3) := by decide +kernel
theorem dX8_clear_15 : decode cX8_clear 15 = .ok (.aload_n 0, 1) := by decide +kernel
theorem dX8_clear_16 : decode cX8_clear 16 = .ok (.iconst 0, 1) := by decide +kernel
theorem dX8_clear_17 : decode cX8_clear 17 = .ok (.putfield 41, 3) := by decide +kernel
theorem dX8_clear_20 : decode cX8_clear 20 = .ok (.aload_n 0, 1) := by decide +kernel
theorem dX8_clear_21 : decode cX8_clear 21 = .ok (.iconst 0, 1) := by decide +kernel
theorem dX8_clear_22 : decode cX8_clear 22 = .ok (.invokevirtual 44, 3) := by decide +kernel
theorem dX8_clear_25 : decode cX8_clear 25 = .ok (.aload_n 0, 1) := by decide +kernel
theorem dX8_clear_26 : decode cX8_clear 26 = .ok (.iconst 1, 1) := by decide +kernel
theorem dX8_clear_27 : decode cX8_clear 27 = .ok (.iconst 0, 1) := by decide +kernel
theorem dX8_clear_28 : decode cX8_clear 28 = .ok (.invokevirtual 48, 3) := by decide +kernel
theorem dX8_clear_31 : decode cX8_clear 31 = .ok (.pop, 1) := by decide +kernel
theorem dX8_clear_32 : decode cX8_clear 32 = .ok (.aload_n 0, 1) := by decide +kernel
theorem dX8_clear_33 : decode cX8_clear 33 = .ok (.bipush 7, 2) := by decide +kernel
theorem dX8_clear_35 : decode cX8_clear 35 = .ok (.iconst 0, 1) := by decide +kernel
theorem dX8_clear_36 : decode cX8_clear 36 = .ok (.invokevirtual 48, 3) := by decide +kernel
theorem dX8_clear_39 : decode cX8_clear 39 = .ok (.pop, 1) := by decide +kernel
theorem dX8_clear_40 : decode cX8_clear 40 = .ok (.aload_n 0, 1) := by decide +kernel
theorem dX8_clear_41 : decode cX8_clear 41 = .ok (.iconst 1, 1) := by decide +kernel
theorem dX8_clear_42 : decode cX8_clear 42 = .ok (.invokevirtual 44, 3) := by decide +kernel
theorem dX8_clear_45 : decode cX8_clear 45 = .ok (.aload_n 0, 1) := by decide +kernel
theorem dX8_clear_46 : decode cX8_clear 46 = .ok (.iconst 2, 1) := by decide +kernel
theorem dX8_clear_47 : decode cX8_clear 47 = .ok (.invokevirtual 52, 3) := by decide +kernel
theorem dX8_clear_50 : decode cX8_clear 50 = .ok (.aload_n 0, 1) := by decide +kernel
theorem dX8_clear_51 : decode cX8_clear 51 = .ok (.iconst 2, 1) := by decide +kernel
theorem dX8_clear_52 : decode cX8_clear 52 = .ok (.invokevirtual 44, 3) := by decide +kernel
theorem dX8_clear_55 : decode cX8_clear 55 = .ok (.aload_n 0, 1) := by decide +kernel
theorem dX8_clear_56 : decode cX8_clear 56 = .ok (.iconst 4, 1) := by decide +kernel
theorem dX8_clear_57 : decode cX8_clear 57 = .ok (.invokevirtual 52, 3) := by decide +kernel
theorem dX8_clear_60 : decode cX8_clear 60 = .ok (.aload_n 0, 1) := by decide +kernel
theorem dX8_clear_61 : decode cX8_clear 61 = .ok (.iconst 3, 1) := by decide +kernel
theorem dX8_clear_62 : decode cX8_clear 62 = .ok (.invokevirtual 44, 3) := by decide +kernel
theorem dX8_clear_65 : decode cX8_clear 65 = .ok (.aload_n 0, 1) := by decide +kernel
theorem dX8_clear_66 : decode cX8_clear 66 = .ok (.iconst 0, 1) := by decide +kernel
theorem dX8_clear_67 : decode cX8_clear 67 = .ok (.iconst 0, 1) := by decide +kernel
theorem dX8_clear_68 : decode cX8_clear 68 = .ok (.invokevirtual 48, 3) := by decide +kernel
theorem dX8_clear_71 : decode cX8_clear 71 = .ok (.pop, 1) := by decide +kernel
theorem dX8_clear_72 : decode cX8_clear 72 = .ok (.aload_n 0, 1) := by decide +kernel
theorem dX8_clear_73 : decode cX8_clear 73 = .ok (.bipush 7, 2) := by decide +kernel
theorem dX8_clear_75 : decode cX8_clear 75 = .ok (.iconst 0, 1) := by decide +kernel
theorem dX8_clear_76 : decode cX8_clear 76 = .ok (.invokevirtual 48, 3) := by decide +kernel
theorem dX8_clear_79 : decode cX8_clear 79 = .ok (.pop, 1) := by decide +kernel
theorem dX8_clear_80 : decode cX8_clear 80 = .ok (.return_, 1) := by decide +kernel
theorem dX8_addShareOfDeed_0 : decode cX8_addShareOfDeed 0 = .ok (.aload_n 0, 1) := by decide +kernel
theorem dX8_addShareOfDeed_1 : decode cX8_addShareOfDeed 1 = .ok (.iconst 1, 1) := by decide +kernel
theorem dX8_addShareOfDeed_2 : decode cX8_addShareOfDeed 2 = .ok (.iconst 0, 1) := by decide +kernel
theorem dX8_addShareOfDeed_3 : decode cX8_addShareOfDeed 3 = .ok (.invokevirtual 48, 3) := by decide +kernel
theorem dX8_addShareOfDeed_6 : decode cX8_addShareOfDeed 6 = .ok (.pop, 1) := by decide +kernel
theorem dX8_addShareOfDeed_7 : decode cX8_addShareOfDeed 7 = .ok (.aload_n 0, 1) := by decide +kernel
theorem dX8_addShareOfDeed_8 : decode cX8_addShareOfDeed 8 = .ok (.iconst 0, 1) := by decide +kernel
theorem dX8_addShareOfDeed_9 : decode cX8_addShareOfDeed 9 = .ok (.iload_n 1, 1) := by decide +kernel
theorem dX8_addShareOfDeed_10 : decode cX8_addShareOfDeed 10 = .ok (.invokevirtual 48, 3) := by decide +kernel
theorem dX8_addShareOfDeed_13 : decode cX8_addShareOfDeed 13 = .ok (.pop, 1) := by decide +kernel
theorem dX8_addShareOfDeed_14 : decode cX8_addShareOfDeed 14 = .ok (.aload_n 0, 1) := by decide +kernel
theorem dX8_addShareOfDeed_15 : decode cX8_addShareOfDeed 15 = .ok (.iconst 5, 1) := by decide +kernel
theorem dX8_addShareOfDeed_16 : decode cX8_addShareOfDeed 16 = .ok (.iconst 0, 1) := by decide +kernel
theorem dX8_addShareOfDeed_17 : decode cX8_addShareOfDeed 17 = .ok (.invokevirtual 48, 3) := by decide +kernel
theorem dX8_addShareOfDeed_20 : decode cX8_addShareOfDeed 20 = .ok (.pop, 1) := by decide +kernel
theorem dX8_addShareOfDeed_21 : decode cX8_addShareOfDeed 21 = .ok (.aload_n 0, 1) := by decide +kernel
theorem dX8_addShareOfDeed_22 : decode cX8_addShareOfDeed 22 = .ok (.bipush 7, 2) := by decide +kernel
theorem dX8_addShareOfDeed_24 : decode cX8_addShareOfDeed 24 = .ok (.iconst 0, 1) := by decide +kernel
theorem dX8_addShareOfDeed_25 : decode cX8_addShareOfDeed 25 = .ok (.invokevirtual 48, 3) := by decide +kernel
theorem dX8_addShareOfDeed_28 : decode cX8_addShareOfDeed 28 = .ok (.pop, 1) := by decide +kernel
theorem dX8_addShareOfDeed_29 : decode cX8_addShareOfDeed 29 = .ok (.return_, 1) := by decide +kernel
theorem dX8_copyFrom_0 : decode cX8_copyFrom 0 = .ok (.aload_n 1, 1) := by decide +kernel
theorem dX8_copyFrom_1 : decode cX8_copyFrom 1 = .ok (.getfield 9, 3) := by decide +kernel
theorem dX8_copyFrom_4 : decode cX8_copyFrom 4 = .ok (.iconst 0, 1) := by decide +kernel
theorem dX8_copyFrom_5 : decode cX8_copyFrom 5 = .ok (.aload_n 0, 1) := by decide +kernel
theorem dX8_copyFrom_6 : decode cX8_copyFrom 6 = .ok (.getfield 9, 3) := by decide +kernel
theorem dX8_copyFrom_9 : decode cX8_copyFrom 9 = .ok (.iconst 0, 1) := by decide +kernel
theorem dX8_copyFrom_10 : decode cX8_copyFrom 10 = .ok (.aload_n 0, 1) := by decide +kernel
theorem dX8_copyFrom_11 : decode cX8_copyFrom 11 = .ok (.getfield 9, 3) := by decide +kernel
theorem dX8_copyFrom_14 : decode cX8_copyFrom 14 = .ok (.arraylength, 1) := by decide +kernel
theorem dX8_copyFrom_15 : decode cX8_copyFrom 15 = .ok (.invokestatic 55, 3) := by decide +kernel
theorem dX8_copyFrom_18 : decode cX8_copyFrom 18 = .ok (.aload_n 1, 1) := by decide +kernel
theorem dX8_copyFrom_19 : decode cX8_copyFrom 19 = .ok (.getfield 15, 3) := by decide +kernel
theorem dX8_copyFrom_22 : decode cX8_copyFrom 22 = .ok (.iconst 0, 1) := by decide +kernel
theorem dX8_copyFrom_23 : decode cX8_copyFrom 23 = .ok (.aload_n 0, 1) := by decide +kernel
theorem dX8_copyFrom_24 : decode cX8_copyFrom 24 = .ok (.getfield 15, 3) := by decide +kernel
theorem dX8_copyFrom_27 : decode cX8_copyFrom 27 = .ok (.iconst 0, 1) := by decide +kernel
theorem dX8_copyFrom_28 : decode cX8_copyFrom 28 = .ok (.iconst 4, 1) := by decide +kernel
theorem dX8_copyFrom_29 : decode cX8_copyFrom 29 = .ok (.invokestatic 55, 3) := by decide +kernel
theorem dX8_copyFrom_32 : decode cX8_copyFrom 32 = .ok (.aload_n 1, 1) := by decide +kernel
theorem dX8_copyFrom_33 : decode cX8_copyFrom 33 = .ok (.getfield 18, 3) := by decide +kernel
theorem dX8_copyFrom_36 : decode cX8_copyFrom 36 = .ok (.iconst 0, 1) := by decide +kernel
theorem dX8_copyFrom_37 : decode cX8_copyFrom 37 = .ok (.aload_n 0, 1) := by decide +kernel
theorem dX8_copyFrom_38 : decode cX8_copyFrom 38 = .ok (.getfield 18, 3) := by decide +kernel
theorem dX8_copyFrom_41 : decode cX8_copyFrom 41 = .ok (.iconst 0, 1) := by decide +kernel
theorem dX8_copyFrom_42 : decode cX8_copyFrom 42 = .ok (.bipush 7, 2) := by decide +kernel
theorem dX8_copyFrom_44 : decode cX8_copyFrom 44 = .ok (.invokestatic 55, 3) := by decide +kernel
theorem dX8_copyFrom_47 : decode cX8_copyFrom 47 = .ok (.aload_n 1, 1) := by decide +kernel
theorem dX8_copyFrom_48 : decode cX8_copyFrom 48 = .ok (.getfield 21, 3) := by decide +kernel
theorem dX8_copyFrom_51 : decode cX8_copyFrom 51 = .ok (.iconst 0, 1) := by decide +kernel
theorem dX8_copyFrom_52 : decode cX8_copyFrom 52 = .ok (.aload_n 0, 1) := by decide +kernel
theorem dX8_copyFrom_53 : decode cX8_copyFrom 53 = .ok (.getfield 21, 3) := by decide +kernel
theorem dX8_copyFrom_56 : decode cX8_copyFrom 56 = .ok (.iconst 0, 1) := by decide +kernel
theorem dX8_copyFrom_57 : decode cX8_copyFrom 57 = .ok (.bipush 7, 2) := by decide +kernel
theorem dX8_copyFrom_59 : decode cX8_copyFrom 59 = .ok (.invokestatic 55, 3) := by decide +kernel
theorem dX8_copyFrom_62 : decode cX8_copyFrom 62 = .ok (.aload_n 1, 1) := by decide +kernel
theorem dX8_copyFrom_63 : decode cX8_copyFrom 63 = .ok (.getfield 24, 3) := by decide +kernel
theorem dX8_copyFrom_66 : decode cX8_copyFrom 66 = .ok (.iconst 0, 1) := by decide +kernel
theorem dX8_copyFrom_67 : decode cX8_copyFrom 67 = .ok (.aload_n 0, 1) := by decide +kernel
theorem dX8_copyFrom_68 : decode cX8_copyFrom 68 = .ok (.getfield 24, 3) := by decide +kernel
theorem dX8_copyFrom_71 : decode cX8_copyFrom 71 = .ok (.iconst 0, 1) := by decide +kernel
theorem dX8_copyFrom_72 : decode cX8_copyFrom 72 = .ok (.bipush 7, 2) := by decide +kernel
theorem dX8_copyFrom_74 : decode cX8_copyFrom 74 = .ok (.invokestatic 55, 3) := by decide +kernel
theorem dX8_copyFrom_77 : decode cX8_copyFrom 77 = .ok (.aload_n 0, 1) := by decide +kernel
theorem dX8_copyFrom_78 : decode cX8_copyFrom 78 = .ok (.aload_n 1, 1) := by decide +kernel
theorem dX8_copyFrom_79 : decode cX8_copyFrom 79 = .ok (.getfield 31, 3) := by decide +kernel
theorem dX8_copyFrom_82 : decode cX8_copyFrom 82 = .ok (.putfield 31, 3) := by decide +kernel
theorem dX8_copyFrom_85 : decode cX8_copyFrom 85 = .ok (.aload_n 0, 1) := by decide +kernel
theorem dX8_copyFrom_86 : decode cX8_copyFrom 86 = .ok (.aload_n 1, 1) := by decide +kernel
theorem dX8_copyFrom_87 : decode cX8_copyFrom 87 = .ok (.getfield 35, 3) := by decide +kernel
theorem dX8_copyFrom_90 : decode cX8_copyFrom 90 = .ok (.putfield 35, 3) := by decide +kernel
theorem dX8_copyFrom_93 : decode cX8_copyFrom 93 = .ok (.aload_n 0, 1) := by decide +kernel
theorem dX8_copyFrom_94 : decode cX8_copyFrom 94 = .ok (.aload_n 1, 1) := by decide +kernel
theorem dX8_copyFrom_95 : decode cX8_copyFrom 95 = .ok (.getfield 38, 3) := by decide +kernel
theorem dX8_copyFrom_98 : decode cX8_copyFrom 98 = .ok (.putfield 38, 3) := by decide +kernel
theorem dX8_copyFrom_101 : decode cX8_copyFrom 101 = .ok (.aload_n 0, 1) := by decide +kernel
theorem dX8_copyFrom_102 : decode cX8_copyFrom 102 = .ok (.aload_n 1, 1) := by decide +kernel
theorem dX8_copyFrom_103 : decode cX8_copyFrom 103 = .ok (.getfield 41, 3) := by decide +kernel
theorem dX8_copyFrom_106 : decode cX8_copyFrom 106 = .ok (.putfield 41, 3) := by decide +kernel
theorem dX8_copyFrom_109 : decode cX8_copyFrom 109 = .ok (.return_, 1) := by decide +kernel
theorem dX8_has_0 : decode cX8_has 0 = .ok (.iload_n 1, 1) := by decide +kernel
theorem dX8_has_1 : decode cX8_has 1 = .ok (.ifCond .lt 21, 3) := by decide +kernel
theorem dX8_has_4 : decode cX8_has 4 = .ok (.iload_n 1, 1) := by decide +kernel
theorem dX8_has_5 : decode cX8_has 5 = .ok (.aload_n 0, 1) := by decide +kernel
theorem dX8_has_6 : decode cX8_has 6 = .ok (.getfield 35, 3) := by decide +kernel
theorem dX8_has_9 : decode cX8_has 9 = .ok (.if_icmp .ge 13, 3) := by decide +kernel
theorem dX8_has_12 : decode cX8_has 12 = .ok (.iload_n 1, 1) := by decide +kernel
theorem dX8_has_13 : decode cX8_has 13 = .ok (.bipush 7, 2) := by decide +kernel
theorem dX8_has_15 : decode cX8_has 15 = .ok (.if_icmp .ge 7, 3) := by decide +kernel
theorem dX8_has_18 : decode cX8_has 18 = .ok (.iconst 1, 1) := by decide +kernel
theorem dX8_has_19 : decode cX8_has 19 = .ok (.goto 4, 3) := by decide +kernel
theorem dX8_has_22 : decode cX8_has 22 = .ok (.iconst 0, 1) := by decide +kernel
theorem dX8_has_23 : decode cX8_has 23 = .ok (.ireturn, 1) := by decide +kernel
theorem dX8_deedOf_0 : decode cX8_deedOf 0 = .ok (.iload_n 1, 1) := by decide +kernel
theorem dX8_deedOf_1 : decode cX8_deedOf 1 = .ok (.ifCond .lt 26, 3) := by decide +kernel
theorem dX8_deedOf_4 : decode cX8_deedOf 4 = .ok (.iload_n 1, 1) := by decide +kernel
theorem dX8_deedOf_5 : decode cX8_deedOf 5 = .ok (.aload_n 0, 1) := by decide +kernel
theorem dX8_deedOf_6 : decode cX8_deedOf 6 = .ok (.getfield 35, 3) := by decide +kernel
theorem dX8_deedOf_9 : decode cX8_deedOf 9 = .ok (.if_icmp .ge 18, 3) := by decide +kernel
theorem dX8_deedOf_12 : decode cX8_deedOf 12 = .ok (.iload_n 1, 1) := by decide +kernel
theorem dX8_deedOf_13 : decode cX8_deedOf 13 = .ok (.bipush 7, 2) := by decide +kernel
theorem dX8_deedOf_15 : decode cX8_deedOf 15 = .ok (.if_icmp .ge 12, 3) := by decide +kernel
theorem dX8_deedOf_18 : decode cX8_deedOf 18 = .ok (.aload_n 0, 1) := by decide +kernel
theorem dX8_deedOf_19 : decode cX8_deedOf 19 = .ok (.getfield 18, 3) := by decide +kernel
theorem dX8_deedOf_22 : decode cX8_deedOf 22 = .ok (.iload_n 1, 1) := by decide +kernel
theorem dX8_deedOf_23 : decode cX8_deedOf 23 = .ok (.iaload, 1) := by decide +kernel
theorem dX8_deedOf_24 : decode cX8_deedOf 24 = .ok (.goto 4, 3) := by decide +kernel
theorem dX8_deedOf_27 : decode cX8_deedOf 27 = .ok (.iconst 0, 1) := by decide +kernel
theorem dX8_deedOf_28 : decode cX8_deedOf 28 = .ok (.ireturn, 1) := by decide +kernel
theorem dX8_isNamed_0 : decode cX8_isNamed 0 = .ok (.iconst 0, 1) := by decide +kernel
theorem dX8_isNamed_1 : decode cX8_isNamed 1 = .ok (.istore_n 3, 1) := by decide +kernel
theorem dX8_isNamed_2 : decode cX8_isNamed 2 = .ok (.iload_n 3, 1) := by decide +kernel
theorem dX8_isNamed_3 : decode cX8_isNamed 3 = .ok (.aload_n 0, 1) := by decide +kernel
theorem dX8_isNamed_4 : decode cX8_isNamed 4 = .ok (.getfield 35, 3) := by decide +kernel
theorem dX8_isNamed_7 : decode cX8_isNamed 7 = .ok (.if_icmp .ge 28, 3) := by decide +kernel
theorem dX8_isNamed_10 : decode cX8_isNamed 10 = .ok (.iload_n 3, 1) := by decide +kernel
theorem dX8_isNamed_11 : decode cX8_isNamed 11 = .ok (.bipush 7, 2) := by decide +kernel
theorem dX8_isNamed_13 : decode cX8_isNamed 13 = .ok (.if_icmp .ge 22, 3) := by decide +kernel
theorem dX8_isNamed_16 : decode cX8_isNamed 16 = .ok (.aload_n 0, 1) := by decide +kernel
theorem dX8_isNamed_17 : decode cX8_isNamed 17 = .ok (.getfield 24, 3) := by decide +kernel
theorem dX8_isNamed_20 : decode cX8_isNamed 20 = .ok (.iload_n 3, 1) := by decide +kernel
theorem dX8_isNamed_21 : decode cX8_isNamed 21 = .ok (.laload, 1) := by decide +kernel
theorem dX8_isNamed_22 : decode cX8_isNamed 22 = .ok (.lload_n 1, 1) := by decide +kernel
theorem dX8_isNamed_23 : decode cX8_isNamed 23 = .ok (.lcmp, 1) := by decide +kernel
theorem dX8_isNamed_24 : decode cX8_isNamed 24 = .ok (.ifCond .ne 5, 3) := by decide +kernel
theorem dX8_isNamed_27 : decode cX8_isNamed 27 = .ok (.iconst 1, 1) := by decide +kernel
theorem dX8_isNamed_28 : decode cX8_isNamed 28 = .ok (.ireturn, 1) := by decide +kernel
theorem dX8_isNamed_29 : decode cX8_isNamed 29 = .ok (.iinc 3 1, 3) := by decide +kernel
theorem dX8_isNamed_32 : decode cX8_isNamed 32 = .ok (.goto (-30), 3) := by decide +kernel
theorem dX8_isNamed_35 : decode cX8_isNamed 35 = .ok (.iconst 0, 1) := by decide +kernel
theorem dX8_isNamed_36 : decode cX8_isNamed 36 = .ok (.ireturn, 1) := by decide +kernel
theorem dX8_addCase_0 : decode cX8_addCase 0 = .ok (.aload_n 0, 1) := by decide +kernel
theorem dX8_addCase_1 : decode cX8_addCase 1 = .ok (.getfield 35, 3) := by decide +kernel
theorem dX8_addCase_4 : decode cX8_addCase 4 = .ok (.ifCond .lt 53, 3) := by decide +kernel
theorem dX8_addCase_7 : decode cX8_addCase 7 = .ok (.aload_n 0, 1) := by decide +kernel
theorem dX8_addCase_8 : decode cX8_addCase 8 = .ok (.getfield 35, 3) := by decide +kernel
theorem dX8_addCase_11 : decode cX8_addCase 11 = .ok (.bipush 7, 2) := by decide +kernel
theorem dX8_addCase_13 : decode cX8_addCase 13 = .ok (.if_icmp .ge 44, 3) := by decide +kernel
theorem dX8_addCase_16 : decode cX8_addCase 16 = .ok (.aload_n 0, 1) := by decide +kernel
theorem dX8_addCase_17 : decode cX8_addCase 17 = .ok (.getfield 24, 3) := by decide +kernel
theorem dX8_addCase_20 : decode cX8_addCase 20 = .ok (.aload_n 0, 1) := by decide +kernel
theorem dX8_addCase_21 : decode cX8_addCase 21 = .ok (.getfield 35, 3) := by decide +kernel
theorem dX8_addCase_24 : decode cX8_addCase 24 = .ok (.lload_n 1, 1) := by decide +kernel
theorem dX8_addCase_25 : decode cX8_addCase 25 = .ok (.lastore, 1) := by decide +kernel
theorem dX8_addCase_26 : decode cX8_addCase 26 = .ok (.aload_n 0, 1) := by decide +kernel
theorem dX8_addCase_27 : decode cX8_addCase 27 = .ok (.getfield 18, 3) := by decide +kernel
theorem dX8_addCase_30 : decode cX8_addCase 30 = .ok (.aload_n 0, 1) := by decide +kernel
theorem dX8_addCase_31 : decode cX8_addCase 31 = .ok (.getfield 35, 3) := by decide +kernel
theorem dX8_addCase_34 : decode cX8_addCase 34 = .ok (.iload_n 3, 1) := by decide +kernel
theorem dX8_addCase_35 : decode cX8_addCase 35 = .ok (.iastore, 1) := by decide +kernel
theorem dX8_addCase_36 : decode cX8_addCase 36 = .ok (.aload_n 0, 1) := by decide +kernel
theorem dX8_addCase_37 : decode cX8_addCase 37 = .ok (.getfield 21, 3) := by decide +kernel
theorem dX8_addCase_40 : decode cX8_addCase 40 = .ok (.aload_n 0, 1) := by decide +kernel
theorem dX8_addCase_41 : decode cX8_addCase 41 = .ok (.getfield 35, 3) := by decide +kernel
theorem dX8_addCase_44 : decode cX8_addCase 44 = .ok (.iload 4, 2) := by decide +kernel
theorem dX8_addCase_46 : decode cX8_addCase 46 = .ok (.iastore, 1) := by decide +kernel
theorem dX8_addCase_47 : decode cX8_addCase 47 = .ok (.aload_n 0, 1) := by decide +kernel
theorem dX8_addCase_48 : decode cX8_addCase 48 = .ok (.dup, 1) := by decide +kernel
theorem dX8_addCase_49 : decode cX8_addCase 49 = .ok (.getfield 35, 3) := by decide +kernel
theorem dX8_addCase_52 : decode cX8_addCase 52 = .ok (.iconst 1, 1) := by decide +kernel
theorem dX8_addCase_53 : decode cX8_addCase 53 = .ok (.iadd, 1) := by decide +kernel
theorem dX8_addCase_54 : decode cX8_addCase 54 = .ok (.putfield 35, 3) := by decide +kernel
theorem dX8_addCase_57 : decode cX8_addCase 57 = .ok (.return_, 1) := by decide +kernel
theorem dX8_beginLaw_0 : decode cX8_beginLaw 0 = .ok (.iload_n 1, 1) := by decide +kernel
theorem dX8_beginLaw_1 : decode cX8_beginLaw 1 = .ok (.ifCond .lt 18, 3) := by decide +kernel
theorem dX8_beginLaw_4 : decode cX8_beginLaw 4 = .ok (.iload_n 1, 1) := by decide +kernel
theorem dX8_beginLaw_5 : decode cX8_beginLaw 5 = .ok (.iconst 4, 1) := by decide +kernel
theorem dX8_beginLaw_6 : decode cX8_beginLaw 6 = .ok (.if_icmp .ge 13, 3) := by decide +kernel
theorem dX8_beginLaw_9 : decode cX8_beginLaw 9 = .ok (.aload_n 0, 1) := by decide +kernel
theorem dX8_beginLaw_10 : decode cX8_beginLaw 10 = .ok (.getfield 15, 3) := by decide +kernel
theorem dX8_beginLaw_13 : decode cX8_beginLaw 13 = .ok (.iload_n 1, 1) := by decide +kernel
theorem dX8_beginLaw_14 : decode cX8_beginLaw 14 = .ok (.aload_n 0, 1) := by decide +kernel
theorem dX8_beginLaw_15 : decode cX8_beginLaw 15 = .ok (.getfield 31, 3) := by decide +kernel
theorem dX8_beginLaw_18 : decode cX8_beginLaw 18 = .ok (.iastore, 1) := by decide +kernel
theorem dX8_beginLaw_19 : decode cX8_beginLaw 19 = .ok (.return_, 1) := by decide +kernel
theorem dX8_addStep_0 : decode cX8_addStep 0 = .ok (.aload_n 0, 1) := by decide +kernel
theorem dX8_addStep_1 : decode cX8_addStep 1 = .ok (.getfield 31, 3) := by decide +kernel
theorem dX8_addStep_4 : decode cX8_addStep 4 = .ok (.istore_n 3, 1) := by decide +kernel
theorem dX8_addStep_5 : decode cX8_addStep 5 = .ok (.iload_n 3, 1) := by decide +kernel
theorem dX8_addStep_6 : decode cX8_addStep 6 = .ok (.ifCond .lt 34, 3) := by decide +kernel
theorem dX8_addStep_9 : decode cX8_addStep 9 = .ok (.iload_n 3, 1) := by decide +kernel
theorem dX8_addStep_10 : decode cX8_addStep 10 = .ok (.aload_n 0, 1) := by decide +kernel
theorem dX8_addStep_11 : decode cX8_addStep 11 = .ok (.getfield 9, 3) := by decide +kernel
theorem dX8_addStep_14 : decode cX8_addStep 14 = .ok (.arraylength, 1) := by decide +kernel
theorem dX8_addStep_15 : decode cX8_addStep 15 = .ok (.if_icmp .ge 25, 3) := by decide +kernel
theorem dX8_addStep_18 : decode cX8_addStep 18 = .ok (.aload_n 0, 1) := by decide +kernel
theorem dX8_addStep_19 : decode cX8_addStep 19 = .ok (.getfield 9, 3) := by decide +kernel
theorem dX8_addStep_22 : decode cX8_addStep 22 = .ok (.iload_n 3, 1) := by decide +kernel
theorem dX8_addStep_23 : decode cX8_addStep 23 = .ok (.bipush 8, 2) := by decide +kernel
theorem dX8_addStep_25 : decode cX8_addStep 25 = .ok (.iload_n 2, 1) := by decide +kernel
theorem dX8_addStep_26 : decode cX8_addStep 26 = .ok (.imul, 1) := by decide +kernel
theorem dX8_addStep_27 : decode cX8_addStep 27 = .ok (.iload_n 1, 1) := by decide +kernel
theorem dX8_addStep_28 : decode cX8_addStep 28 = .ok (.iadd, 1) := by decide +kernel
theorem dX8_addStep_29 : decode cX8_addStep 29 = .ok (.iastore, 1) := by decide +kernel
theorem dX8_addStep_30 : decode cX8_addStep 30 = .ok (.aload_n 0, 1) := by decide +kernel
theorem dX8_addStep_31 : decode cX8_addStep 31 = .ok (.dup, 1) := by decide +kernel
theorem dX8_addStep_32 : decode cX8_addStep 32 = .ok (.getfield 31, 3) := by decide +kernel
theorem dX8_addStep_35 : decode cX8_addStep 35 = .ok (.iconst 1, 1) := by decide +kernel
theorem dX8_addStep_36 : decode cX8_addStep 36 = .ok (.iadd, 1) := by decide +kernel
theorem dX8_addStep_37 : decode cX8_addStep 37 = .ok (.putfield 31, 3) := by decide +kernel
theorem dX8_addStep_40 : decode cX8_addStep 40 = .ok (.iload_n 3, 1) := by decide +kernel
theorem dX8_addStep_41 : decode cX8_addStep 41 = .ok (.ireturn, 1) := by decide +kernel
theorem dX8_leadHere_0 : decode cX8_leadHere 0 = .ok (.iload_n 1, 1) := by decide +kernel
theorem dX8_leadHere_1 : decode cX8_leadHere 1 = .ok (.ifCond .lt 36, 3) := by decide +kernel
theorem dX8_leadHere_4 : decode cX8_leadHere 4 = .ok (.iload_n 1, 1) := by decide +kernel
theorem dX8_leadHere_5 : decode cX8_leadHere 5 = .ok (.aload_n 0, 1) := by decide +kernel
theorem dX8_leadHere_6 : decode cX8_leadHere 6 = .ok (.getfield 31, 3) := by decide +kernel
theorem dX8_leadHere_9 : decode cX8_leadHere 9 = .ok (.if_icmp .ge 28, 3) := by decide +kernel
theorem dX8_leadHere_12 : decode cX8_leadHere 12 = .ok (.iload_n 1, 1) := by decide +kernel
theorem dX8_leadHere_13 : decode cX8_leadHere 13 = .ok (.aload_n 0, 1) := by decide +kernel
theorem dX8_leadHere_14 : decode cX8_leadHere 14 = .ok (.getfield 9, 3) := by decide +kernel
theorem dX8_leadHere_17 : decode cX8_leadHere 17 = .ok (.arraylength, 1) := by decide +kernel
theorem dX8_leadHere_18 : decode cX8_leadHere 18 = .ok (.if_icmp .ge 19, 3) := by decide +kernel
theorem dX8_leadHere_21 : decode cX8_leadHere 21 = .ok (.aload_n 0, 1) := by decide +kernel
theorem dX8_leadHere_22 : decode cX8_leadHere 22 = .ok (.getfield 9, 3) := by decide +kernel
theorem dX8_leadHere_25 : decode cX8_leadHere 25 = .ok (.iload_n 1, 1) := by decide +kernel
theorem dX8_leadHere_26 : decode cX8_leadHere 26 = .ok (.bipush 8, 2) := by decide +kernel
theorem dX8_leadHere_28 : decode cX8_leadHere 28 = .ok (.aload_n 0, 1) := by decide +kernel
theorem dX8_leadHere_29 : decode cX8_leadHere 29 = .ok (.getfield 31, 3) := by decide +kernel
theorem dX8_leadHere_32 : decode cX8_leadHere 32 = .ok (.imul, 1) := by decide +kernel
theorem dX8_leadHere_33 : decode cX8_leadHere 33 = .ok (.bipush 6, 2) := by decide +kernel
theorem dX8_leadHere_35 : decode cX8_leadHere 35 = .ok (.iadd, 1) := by decide +kernel
theorem dX8_leadHere_36 : decode cX8_leadHere 36 = .ok (.iastore, 1) := by decide +kernel
theorem dX8_leadHere_37 : decode cX8_leadHere 37 = .ok (.return_, 1) := by decide +kernel
theorem dX9_init_0 : decode cX9_init 0 = .ok (.aload_n 0, 1) := by decide +kernel
theorem dX9_init_1 : decode cX9_init 1 = .ok (.invokespecial 3, 3) := by decide +kernel
theorem dX9_init_4 : decode cX9_init 4 = .ok (.aload_n 0, 1) := by decide +kernel
theorem dX9_init_5 : decode cX9_init 5 = .ok (.bipush 20, 2) := by decide +kernel
theorem dX9_init_7 : decode cX9_init 7 = .ok (.newarray .int, 2) := by decide +kernel
theorem dX9_init_9 : decode cX9_init 9 = .ok (.putfield 9, 3) := by decide +kernel
theorem dX9_init_12 : decode cX9_init 12 = .ok (.aload_n 0, 1) := by decide +kernel
theorem dX9_init_13 : decode cX9_init 13 = .ok (.bipush 20, 2) := by decide +kernel
theorem dX9_init_15 : decode cX9_init 15 = .ok (.newarray .int, 2) := by decide +kernel
theorem dX9_init_17 : decode cX9_init 17 = .ok (.putfield 15, 3) := by decide +kernel
theorem dX9_init_20 : decode cX9_init 20 = .ok (.aload_n 0, 1) := by decide +kernel
theorem dX9_init_21 : decode cX9_init 21 = .ok (.bipush 20, 2) := by decide +kernel
theorem dX9_init_23 : decode cX9_init 23 = .ok (.newarray .boolean, 2) := by decide +kernel
theorem dX9_init_25 : decode cX9_init 25 = .ok (.putfield 18, 3) := by decide +kernel
theorem dX9_init_28 : decode cX9_init 28 = .ok (.aload_n 0, 1) := by decide +kernel
theorem dX9_init_29 : decode cX9_init 29 = .ok (.bipush 7, 2) := by decide +kernel
theorem dX9_init_31 : decode cX9_init 31 = .ok (.newarray .int, 2) := by decide +kernel
theorem dX9_init_33 : decode cX9_init 33 = .ok (.putfield 22, 3) := by decide +kernel
theorem dX9_init_36 : decode cX9_init 36 = .ok (.return_, 1) := by decide +kernel
theorem dX9_add_0 : decode cX9_add 0 = .ok (.aload_n 0, 1) := by decide +kernel
theorem dX9_add_1 : decode cX9_add 1 = .ok (.getfield 25, 3) := by decide +kernel
theorem dX9_add_4 : decode cX9_add 4 = .ok (.ifCond .lt 12, 3) := by decide +kernel
theorem dX9_add_7 : decode cX9_add 7 = .ok (.aload_n 0, 1) := by decide +kernel
theorem dX9_add_8 : decode cX9_add 8 = .ok (.getfield 25, 3) := by decide +kernel
theorem dX9_add_11 : decode cX9_add 11 = .ok (.bipush 20, 2) := by decide +kernel
theorem dX9_add_13 : decode cX9_add 13 = .ok (.if_icmp .lt 5, 3) := by decide +kernel
theorem dX9_add_16 : decode cX9_add 16 = .ok (.iconst (-1), 1) := by decide +kernel
theorem dX9_add_17 : decode cX9_add 17 = .ok (.ireturn, 1) := by decide +kernel
theorem dX9_add_18 : decode cX9_add 18 = .ok (.aload_n 0, 1) := by decide +kernel
theorem dX9_add_19 : decode cX9_add 19 = .ok (.getfield 9, 3) := by decide +kernel
theorem dX9_add_22 : decode cX9_add 22 = .ok (.aload_n 0, 1) := by decide +kernel
theorem dX9_add_23 : decode cX9_add 23 = .ok (.getfield 25, 3) := by decide +kernel
theorem dX9_add_26 : decode cX9_add 26 = .ok (.iload_n 1, 1) := by decide +kernel
theorem dX9_add_27 : decode cX9_add 27 = .ok (.iastore, 1) := by decide +kernel
theorem dX9_add_28 : decode cX9_add 28 = .ok (.aload_n 0, 1) := by decide +kernel
theorem dX9_add_29 : decode cX9_add 29 = .ok (.getfield 15, 3) := by decide +kernel
theorem dX9_add_32 : decode cX9_add 32 = .ok (.aload_n 0, 1) := by decide +kernel
theorem dX9_add_33 : decode cX9_add 33 = .ok (.getfield 25, 3) := by decide +kernel
theorem dX9_add_36 : decode cX9_add 36 = .ok (.iload_n 2, 1) := by decide +kernel
theorem dX9_add_37 : decode cX9_add 37 = .ok (.iastore, 1) := by decide +kernel
theorem dX9_add_38 : decode cX9_add 38 = .ok (.aload_n 0, 1) := by decide +kernel
theorem dX9_add_39 : decode cX9_add 39 = .ok (.getfield 18, 3) := by decide +kernel
theorem dX9_add_42 : decode cX9_add 42 = .ok (.aload_n 0, 1) := by decide +kernel
theorem dX9_add_43 : decode cX9_add 43 = .ok (.getfield 25, 3) := by decide +kernel
theorem dX9_add_46 : decode cX9_add 46 = .ok (.iload_n 3, 1) := by decide +kernel
theorem dX9_add_47 : decode cX9_add 47 = .ok (.bastore, 1) := by decide +kernel
theorem dX9_add_48 : decode cX9_add 48 = .ok (.aload_n 0, 1) := by decide +kernel
theorem dX9_add_49 : decode cX9_add 49 = .ok (.dup, 1) := by decide +kernel
theorem dX9_add_50 : decode cX9_add 50 = .ok (.getfield 25, 3) := by decide +kernel
theorem dX9_add_53 : decode cX9_add 53 = .ok (.iconst 1, 1) := by decide +kernel
theorem dX9_add_54 : decode cX9_add 54 = .ok (.iadd, 1) := by decide +kernel
theorem dX9_add_55 : decode cX9_add 55 = .ok (.putfield 25, 3) := by decide +kernel
theorem dX9_add_58 : decode cX9_add 58 = .ok (.aload_n 0, 1) := by decide +kernel
theorem dX9_add_59 : decode cX9_add 59 = .ok (.getfield 25, 3) := by decide +kernel
theorem dX9_add_62 : decode cX9_add 62 = .ok (.iconst 1, 1) := by decide +kernel
theorem dX9_add_63 : decode cX9_add 63 = .ok (.isub, 1) := by decide +kernel
theorem dX9_add_64 : decode cX9_add 64 = .ok (.ireturn, 1) := by decide +kernel
theorem dX9_seekFitting_0 : decode cX9_seekFitting 0 = .ok (.aload_n 0, 1) := by decide +kernel
theorem dX9_seekFitting_1 : decode cX9_seekFitting 1 = .ok (.iconst 0, 1) := by decide +kernel
theorem dX9_seekFitting_2 : decode cX9_seekFitting 2 = .ok (.putfield 29, 3) := by decide +kernel
theorem dX9_seekFitting_5 : decode cX9_seekFitting 5 = .ok (.aload_n 0, 1) := by decide +kernel
theorem dX9_seekFitting_6 : decode cX9_seekFitting 6 = .ok (.iconst 0, 1) := by decide +kernel
theorem dX9_seekFitting_7 : decode cX9_seekFitting 7 = .ok (.putfield 32, 3) := by decide +kernel
theorem dX9_seekFitting_10 : decode cX9_seekFitting 10 = .ok (.iconst 0, 1) := by decide +kernel
theorem dX9_seekFitting_11 : decode cX9_seekFitting 11 = .ok (.istore 4, 2) := by decide +kernel
theorem dX9_seekFitting_13 : decode cX9_seekFitting 13 = .ok (.iload 4, 2) := by decide +kernel
theorem dX9_seekFitting_15 : decode cX9_seekFitting 15 = .ok (.bipush 7, 2) := by decide +kernel
theorem dX9_seekFitting_17 : decode cX9_seekFitting 17 = .ok (.if_icmp .ge 17, 3) := by decide +kernel
theorem dX9_seekFitting_20 : decode cX9_seekFitting 20 = .ok (.aload_n 0, 1) := by decide +kernel
theorem dX9_seekFitting_21 : decode cX9_seekFitting 21 = .ok (.getfield 22, 3) := by decide +kernel
theorem dX9_seekFitting_24 : decode cX9_seekFitting 24 = .ok (.iload 4, 2) := by decide +kernel
theorem dX9_seekFitting_26 : decode cX9_seekFitting 26 = .ok (.iconst 0, 1) := by decide +kernel
theorem dX9_seekFitting_27 : decode cX9_seekFitting 27 = .ok (.iastore, 1) := by decide +kernel
theorem dX9_seekFitting_28 : decode cX9_seekFitting 28 = .ok (.iinc 4 1, 3) := by decide +kernel
theorem dX9_seekFitting_31 : decode cX9_seekFitting 31 = .ok (.goto (-18), 3) := by decide +kernel
theorem dX9_seekFitting_34 : decode cX9_seekFitting 34 = .ok (.iconst 1, 1) := by decide +kernel
theorem dX9_seekFitting_35 : decode cX9_seekFitting 35 = .ok (.istore 4, 2) := by decide +kernel
theorem dX9_seekFitting_37 : decode cX9_seekFitting 37 = .ok (.iconst 0, 1) := by decide +kernel
theorem dX9_seekFitting_38 : decode cX9_seekFitting 38 = .ok (.istore 5, 2) := by decide +kernel
theorem dX9_seekFitting_40 : decode cX9_seekFitting 40 = .ok (.iload 5, 2) := by decide +kernel
theorem dX9_seekFitting_42 : decode cX9_seekFitting 42 = .ok (.sipush 5040, 3) := by decide +kernel
theorem dX9_seekFitting_45 : decode cX9_seekFitting 45 = .ok (.if_icmp .ge 67, 3) := by decide +kernel
theorem dX9_seekFitting_48 : decode cX9_seekFitting 48 = .ok (.iload 4, 2) := by decide +kernel
theorem dX9_seekFitting_50 : decode cX9_seekFitting 50 = .ok (.ifCond .eq 62, 3) := by decide +kernel
theorem dX9_seekFitting_53 : decode cX9_seekFitting 53 = .ok (.aload_n 0, 1) := by decide +kernel
theorem dX9_seekFitting_54 : decode cX9_seekFitting 54 = .ok (.aload_n 1, 1) := by decide +kernel
theorem dX9_seekFitting_55 : decode cX9_seekFitting 55 = .ok (.iload_n 2, 1) := by decide +kernel
theorem dX9_seekFitting_56 : decode cX9_seekFitting 56 = .ok (.invokevirtual 35, 3) := by decide +kernel
theorem dX9_seekFitting_59 : decode cX9_seekFitting 59 = .ok (.ifCond .eq 41, 3) := by decide +kernel
theorem dX9_seekFitting_62 : decode cX9_seekFitting 62 = .ok (.aload_n 0, 1) := by decide +kernel
theorem dX9_seekFitting_63 : decode cX9_seekFitting 63 = .ok (.aload_n 0, 1) := by decide +kernel
theorem dX9_seekFitting_64 : decode cX9_seekFitting 64 = .ok (.getfield 29, 3) := by decide +kernel
theorem dX9_seekFitting_67 : decode cX9_seekFitting 67 = .ok (.ifCond .ne 10, 3) := by decide +kernel
theorem dX9_seekFitting_70 : decode cX9_seekFitting 70 = .ok (.aload_n 1, 1) := by decide +kernel
theorem dX9_seekFitting_71 : decode cX9_seekFitting 71 = .ok (.invokevirtual 39, 3) := by decide +kernel
theorem dX9_seekFitting_74 : decode cX9_seekFitting 74 = .ok (.goto 7, 3) := by decide +kernel
theorem dX9_seekFitting_77 : decode cX9_seekFitting 77 = .ok (.aload_n 0, 1) := by decide +kernel
theorem dX9_seekFitting_78 : decode cX9_seekFitting 78 = .ok (.getfield 32, 3) := by decide +kernel
theorem dX9_seekFitting_81 : decode cX9_seekFitting 81 = .ok (.putfield 32, 3) := by decide +kernel
theorem dX9_seekFitting_84 : decode cX9_seekFitting 84 = .ok (.aload_n 0, 1) := by decide +kernel
theorem dX9_seekFitting_85 : decode cX9_seekFitting 85 = .ok (.dup, 1) := by decide +kernel
theorem dX9_seekFitting_86 : decode cX9_seekFitting 86 = .ok (.getfield 29, 3) := by decide +kernel
theorem dX9_seekFitting_89 : decode cX9_seekFitting 89 = .ok (.iconst 1, 1) := by decide +kernel
theorem dX9_seekFitting_90 : decode cX9_seekFitting 90 = .ok (.iadd, 1) := by decide +kernel
theorem dX9_seekFitting_91 : decode cX9_seekFitting 91 = .ok (.putfield 29, 3) := by decide +kernel
theorem dX9_seekFitting_94 : decode cX9_seekFitting 94 = .ok (.aload_n 0, 1) := by decide +kernel
theorem dX9_seekFitting_95 : decode cX9_seekFitting 95 = .ok (.aload_n 1, 1) := by decide +kernel
theorem dX9_seekFitting_96 : decode cX9_seekFitting 96 = .ok (.iload_n 3, 1) := by decide +kernel
theorem dX9_seekFitting_97 : decode cX9_seekFitting 97 = .ok (.invokevirtual 45, 3) := by decide +kernel
theorem dX9_seekFitting_100 : decode cX9_seekFitting 100 = .ok (.aload_n 1, 1) := by decide +kernel
theorem dX9_seekFitting_101 : decode cX9_seekFitting 101 = .ok (.invokevirtual 49, 3) := by decide +kernel
theorem dX9_seekFitting_104 : decode cX9_seekFitting 104 = .ok (.istore 4, 2) := by decide +kernel
theorem dX9_seekFitting_106 : decode cX9_seekFitting 106 = .ok (.iinc 5 1, 3) := by decide +kernel
theorem dX9_seekFitting_109 : decode cX9_seekFitting 109 = .ok (.goto (-69), 3) := by decide +kernel
theorem dX9_seekFitting_112 : decode cX9_seekFitting 112 = .ok (.return_, 1) := by decide +kernel
theorem dX9_isFitting_0 : decode cX9_isFitting 0 = .ok (.iconst 0, 1) := by decide +kernel
theorem dX9_isFitting_1 : decode cX9_isFitting 1 = .ok (.istore_n 3, 1) := by decide +kernel
theorem dX9_isFitting_2 : decode cX9_isFitting 2 = .ok (.iload_n 3, 1) := by decide +kernel
theorem dX9_isFitting_3 : decode cX9_isFitting 3 = .ok (.iload_n 2, 1) := by decide +kernel
theorem dX9_isFitting_4 : decode cX9_isFitting 4 = .ok (.if_icmp .ge 83, 3) := by decide +kernel
theorem dX9_isFitting_7 : decode cX9_isFitting 7 = .ok (.iload_n 3, 1) := by decide +kernel
theorem dX9_isFitting_8 : decode cX9_isFitting 8 = .ok (.aload_n 0, 1) := by decide +kernel
theorem dX9_isFitting_9 : decode cX9_isFitting 9 = .ok (.getfield 25, 3) := by decide +kernel
theorem dX9_isFitting_12 : decode cX9_isFitting 12 = .ok (.if_icmp .ge 75, 3) := by decide +kernel
theorem dX9_isFitting_15 : decode cX9_isFitting 15 = .ok (.iload_n 3, 1) := by decide +kernel
theorem dX9_isFitting_16 : decode cX9_isFitting 16 = .ok (.bipush 20, 2) := by decide +kernel
theorem dX9_isFitting_18 : decode cX9_isFitting 18 = .ok (.if_icmp .ge 69, 3) := by decide +kernel
theorem dX9_isFitting_21 : decode cX9_isFitting 21 = .ok (.aload_n 0, 1) := by decide +kernel
theorem dX9_isFitting_22 : decode cX9_isFitting 22 = .ok (.getfield 9, 3) := by decide +kernel
theorem dX9_isFitting_25 : decode cX9_isFitting 25 = .ok (.iload_n 3, 1) := by decide +kernel
theorem dX9_isFitting_26 : decode cX9_isFitting 26 = .ok (.iaload, 1) := by decide +kernel
theorem dX9_isFitting_27 : decode cX9_isFitting 27 = .ok (.aload_n 1, 1) := by decide +kernel
theorem dX9_isFitting_28 : decode cX9_isFitting 28 = .ok (.getfield 53, 3) := by decide +kernel
theorem dX9_isFitting_31 : decode cX9_isFitting 31 = .ok (.if_icmp .ge 7, 3) := by decide +kernel
theorem dX9_isFitting_34 : decode cX9_isFitting 34 = .ok (.iconst 1, 1) := by decide +kernel
theorem dX9_isFitting_35 : decode cX9_isFitting 35 = .ok (.goto 4, 3) := by decide +kernel
theorem dX9_isFitting_38 : decode cX9_isFitting 38 = .ok (.iconst 0, 1) := by decide +kernel
theorem dX9_isFitting_39 : decode cX9_isFitting 39 = .ok (.istore 4, 2) := by decide +kernel
theorem dX9_isFitting_41 : decode cX9_isFitting 41 = .ok (.iload 4, 2) := by decide +kernel
theorem dX9_isFitting_43 : decode cX9_isFitting 43 = .ok (.ifCond .eq 36, 3) := by decide +kernel
theorem dX9_isFitting_46 : decode cX9_isFitting 46 = .ok (.aload_n 1, 1) := by decide +kernel
theorem dX9_isFitting_47 : decode cX9_isFitting 47 = .ok (.aload_n 0, 1) := by decide +kernel
theorem dX9_isFitting_48 : decode cX9_isFitting 48 = .ok (.getfield 9, 3) := by decide +kernel
theorem dX9_isFitting_51 : decode cX9_isFitting 51 = .ok (.iload_n 3, 1) := by decide +kernel
theorem dX9_isFitting_52 : decode cX9_isFitting 52 = .ok (.iaload, 1) := by decide +kernel
theorem dX9_isFitting_53 : decode cX9_isFitting 53 = .ok (.invokevirtual 54, 3) := by decide +kernel
theorem dX9_isFitting_56 : decode cX9_isFitting 56 = .ok (.aload_n 0, 1) := by decide +kernel
theorem dX9_isFitting_57 : decode cX9_isFitting 57 = .ok (.getfield 15, 3) := by decide +kernel
theorem dX9_isFitting_60 : decode cX9_isFitting 60 = .ok (.iload_n 3, 1) := by decide +kernel
theorem dX9_isFitting_61 : decode cX9_isFitting 61 = .ok (.iaload, 1) := by decide +kernel
theorem dX9_isFitting_62 : decode cX9_isFitting 62 = .ok (.if_icmp .lt 7, 3) := by decide +kernel
theorem dX9_isFitting_65 : decode cX9_isFitting 65 = .ok (.iconst 1, 1) := by decide +kernel
theorem dX9_isFitting_66 : decode cX9_isFitting 66 = .ok (.goto 4, 3) := by decide +kernel
theorem dX9_isFitting_69 : decode cX9_isFitting 69 = .ok (.iconst 0, 1) := by decide +kernel
theorem dX9_isFitting_70 : decode cX9_isFitting 70 = .ok (.aload_n 0, 1) := by decide +kernel
theorem dX9_isFitting_71 : decode cX9_isFitting 71 = .ok (.getfield 18, 3) := by decide +kernel
theorem dX9_isFitting_74 : decode cX9_isFitting 74 = .ok (.iload_n 3, 1) := by decide +kernel
theorem dX9_isFitting_75 : decode cX9_isFitting 75 = .ok (.baload, 1) := by decide +kernel
theorem dX9_isFitting_76 : decode cX9_isFitting 76 = .ok (.if_icmp .eq 5, 3) := by decide +kernel
theorem dX9_isFitting_79 : decode cX9_isFitting 79 = .ok (.iconst 0, 1) := by decide +kernel
theorem dX9_isFitting_80 : decode cX9_isFitting 80 = .ok (.ireturn, 1) := by decide +kernel
theorem dX9_isFitting_81 : decode cX9_isFitting 81 = .ok (.iinc 3 1, 3) := by decide +kernel
theorem dX9_isFitting_84 : decode cX9_isFitting 84 = .ok (.goto (-82), 3) := by decide +kernel
theorem dX9_isFitting_87 : decode cX9_isFitting 87 = .ok (.iconst 1, 1) := by decide +kernel
theorem dX9_isFitting_88 : decode cX9_isFitting 88 = .ok (.ireturn, 1) := by decide +kernel
theorem dX9_addReaching_0 : decode cX9_addReaching 0 = .ok (.iconst 0, 1) := by decide +kernel
theorem dX9_addReaching_1 : decode cX9_addReaching 1 = .ok (.istore_n 3, 1) := by decide +kernel
theorem dX9_addReaching_2 : decode cX9_addReaching 2 = .ok (.iload_n 3, 1) := by decide +kernel
theorem dX9_addReaching_3 : decode cX9_addReaching 3 = .ok (.aload_n 1, 1) := by decide +kernel
theorem dX9_addReaching_4 : decode cX9_addReaching 4 = .ok (.getfield 53, 3) := by decide +kernel
theorem dX9_addReaching_7 : decode cX9_addReaching 7 = .ok (.if_icmp .ge 34, 3) := by decide +kernel
theorem dX9_addReaching_10 : decode cX9_addReaching 10 = .ok (.iload_n 3, 1) := by decide +kernel
theorem dX9_addReaching_11 : decode cX9_addReaching 11 = .ok (.bipush 7, 2) := by decide +kernel
theorem dX9_addReaching_13 : decode cX9_addReaching 13 = .ok (.if_icmp .ge 28, 3) := by decide +kernel
theorem dX9_addReaching_16 : decode cX9_addReaching 16 = .ok (.aload_n 1, 1) := by decide +kernel
theorem dX9_addReaching_17 : decode cX9_addReaching 17 = .ok (.iload_n 3, 1) := by decide +kernel
theorem dX9_addReaching_18 : decode cX9_addReaching 18 = .ok (.invokevirtual 54, 3) := by decide +kernel
theorem dX9_addReaching_21 : decode cX9_addReaching 21 = .ok (.iload_n 2, 1) := by decide +kernel
theorem dX9_addReaching_22 : decode cX9_addReaching 22 = .ok (.if_icmp .lt 13, 3) := by decide +kernel
theorem dX9_addReaching_25 : decode cX9_addReaching 25 = .ok (.aload_n 0, 1) := by decide +kernel
theorem dX9_addReaching_26 : decode cX9_addReaching 26 = .ok (.getfield 22, 3) := by decide +kernel
theorem dX9_addReaching_29 : decode cX9_addReaching 29 = .ok (.iload_n 3, 1) := by decide +kernel
theorem dX9_addReaching_30 : decode cX9_addReaching 30 = .ok (.dup2, 1) := by decide +kernel
theorem dX9_addReaching_31 : decode cX9_addReaching 31 = .ok (.iaload, 1) := by decide +kernel
theorem dX9_addReaching_32 : decode cX9_addReaching 32 = .ok (.iconst 1, 1) := by decide +kernel
theorem dX9_addReaching_33 : decode cX9_addReaching 33 = .ok (.iadd, 1) := by decide +kernel
theorem dX9_addReaching_34 : decode cX9_addReaching 34 = .ok (.iastore, 1) := by decide +kernel
theorem dX9_addReaching_35 : decode cX9_addReaching 35 = .ok (.iinc 3 1, 3) := by decide +kernel
theorem dX9_addReaching_38 : decode cX9_addReaching 38 = .ok (.goto (-36), 3) := by decide +kernel
theorem dX9_addReaching_41 : decode cX9_addReaching 41 = .ok (.return_, 1) := by decide +kernel
theorem dX9_placeToAsk_0 : decode cX9_placeToAsk 0 = .ok (.bipush (-2), 2) := by decide +kernel
theorem dX9_placeToAsk_2 : decode cX9_placeToAsk 2 = .ok (.istore_n 2, 1) := by decide +kernel
theorem dX9_placeToAsk_3 : decode cX9_placeToAsk 3 = .ok (.iconst 0, 1) := by decide +kernel
theorem dX9_placeToAsk_4 : decode cX9_placeToAsk 4 = .ok (.istore_n 3, 1) := by decide +kernel
theorem dX9_placeToAsk_5 : decode cX9_placeToAsk 5 = .ok (.iconst 0, 1) := by decide +kernel
theorem dX9_placeToAsk_6 : decode cX9_placeToAsk 6 = .ok (.istore 4, 2) := by decide +kernel
theorem dX9_placeToAsk_8 : decode cX9_placeToAsk 8 = .ok (.iload 4, 2) := by decide +kernel
theorem dX9_placeToAsk_10 : decode cX9_placeToAsk 10 = .ok (.iload_n 1, 1) := by decide +kernel
