theorem dX11_sufferAll_22 : decode cX11_sufferAll 22 = .ok (.istore_n 1, 1) := by decide +kernel
theorem dX11_sufferAll_23 : decode cX11_sufferAll 23 = .ok (.iinc 2 1, 3) := by decide +kernel
theorem dX11_sufferAll_26 : decode cX11_sufferAll 26 = .ok (.goto (-22), 3) := by decide +kernel
theorem dX11_sufferAll_29 : decode cX11_sufferAll 29 = .ok (.iload_n 1, 1) := by decide +kernel
theorem dX11_sufferAll_30 : decode cX11_sufferAll 30 = .ok (.ireturn, 1) := by decide +kernel
theorem dX11_mostAny_0 : decode cX11_mostAny 0 = .ok (.iconst 0, 1) := by decide +kernel
theorem dX11_mostAny_1 : decode cX11_mostAny 1 = .ok (.istore_n 1, 1) := by decide +kernel
theorem dX11_mostAny_2 : decode cX11_mostAny 2 = .ok (.iconst 0, 1) := by decide +kernel
theorem dX11_mostAny_3 : decode cX11_mostAny 3 = .ok (.istore_n 2, 1) := by decide +kernel
theorem dX11_mostAny_4 : decode cX11_mostAny 4 = .ok (.iload_n 2, 1) := by decide +kernel
theorem dX11_mostAny_5 : decode cX11_mostAny 5 = .ok (.aload_n 0, 1) := by decide +kernel
theorem dX11_mostAny_6 : decode cX11_mostAny 6 = .ok (.getfield 98, 3) := by decide +kernel
theorem dX11_mostAny_9 : decode cX11_mostAny 9 = .ok (.bipush 7, 2) := by decide +kernel
theorem dX11_mostAny_11 : decode cX11_mostAny 11 = .ok (.iaload, 1) := by decide +kernel
theorem dX11_mostAny_12 : decode cX11_mostAny 12 = .ok (.if_icmp .ge 24, 3) := by decide +kernel
theorem dX11_mostAny_15 : decode cX11_mostAny 15 = .ok (.aload_n 0, 1) := by decide +kernel
theorem dX11_mostAny_16 : decode cX11_mostAny 16 = .ok (.iload_n 2, 1) := by decide +kernel
theorem dX11_mostAny_17 : decode cX11_mostAny 17 = .ok (.invokevirtual 324, 3) := by decide +kernel
theorem dX11_mostAny_20 : decode cX11_mostAny 20 = .ok (.iload_n 1, 1) := by decide +kernel
theorem dX11_mostAny_21 : decode cX11_mostAny 21 = .ok (.if_icmp .le 9, 3) := by decide +kernel
theorem dX11_mostAny_24 : decode cX11_mostAny 24 = .ok (.aload_n 0, 1) := by decide +kernel
theorem dX11_mostAny_25 : decode cX11_mostAny 25 = .ok (.iload_n 2, 1) := by decide +kernel
theorem dX11_mostAny_26 : decode cX11_mostAny 26 = .ok (.invokevirtual 324, 3) := by decide +kernel
theorem dX11_mostAny_29 : decode cX11_mostAny 29 = .ok (.istore_n 1, 1) := by decide +kernel
theorem dX11_mostAny_30 : decode cX11_mostAny 30 = .ok (.iinc 2 1, 3) := by decide +kernel
theorem dX11_mostAny_33 : decode cX11_mostAny 33 = .ok (.goto (-29), 3) := by decide +kernel
theorem dX11_mostAny_36 : decode cX11_mostAny 36 = .ok (.iload_n 1, 1) := by decide +kernel
theorem dX11_mostAny_37 : decode cX11_mostAny 37 = .ok (.ireturn, 1) := by decide +kernel
theorem dX11_farAll_0 : decode cX11_farAll 0 = .ok (.iconst 0, 1) := by decide +kernel
theorem dX11_farAll_1 : decode cX11_farAll 1 = .ok (.istore_n 1, 1) := by decide +kernel
theorem dX11_farAll_2 : decode cX11_farAll 2 = .ok (.iconst 0, 1) := by decide +kernel
theorem dX11_farAll_3 : decode cX11_farAll 3 = .ok (.istore_n 2, 1) := by decide +kernel
theorem dX11_farAll_4 : decode cX11_farAll 4 = .ok (.iload_n 2, 1) := by decide +kernel
theorem dX11_farAll_5 : decode cX11_farAll 5 = .ok (.aload_n 0, 1) := by decide +kernel
theorem dX11_farAll_6 : decode cX11_farAll 6 = .ok (.getfield 98, 3) := by decide +kernel
theorem dX11_farAll_9 : decode cX11_farAll 9 = .ok (.bipush 7, 2) := by decide +kernel
theorem dX11_farAll_11 : decode cX11_farAll 11 = .ok (.iaload, 1) := by decide +kernel
theorem dX11_farAll_12 : decode cX11_farAll 12 = .ok (.if_icmp .ge 34, 3) := by decide +kernel
theorem dX11_farAll_15 : decode cX11_farAll 15 = .ok (.aload_n 0, 1) := by decide +kernel
theorem dX11_farAll_16 : decode cX11_farAll 16 = .ok (.iload_n 2, 1) := by decide +kernel
theorem dX11_farAll_17 : decode cX11_farAll 17 = .ok (.invokevirtual 324, 3) := by decide +kernel
theorem dX11_farAll_20 : decode cX11_farAll 20 = .ok (.aload_n 0, 1) := by decide +kernel
theorem dX11_farAll_21 : decode cX11_farAll 21 = .ok (.iload_n 2, 1) := by decide +kernel
theorem dX11_farAll_22 : decode cX11_farAll 22 = .ok (.invokevirtual 327, 3) := by decide +kernel
theorem dX11_farAll_25 : decode cX11_farAll 25 = .ok (.isub, 1) := by decide +kernel
theorem dX11_farAll_26 : decode cX11_farAll 26 = .ok (.istore_n 3, 1) := by decide +kernel
theorem dX11_farAll_27 : decode cX11_farAll 27 = .ok (.iload_n 1, 1) := by decide +kernel
theorem dX11_farAll_28 : decode cX11_farAll 28 = .ok (.iload_n 3, 1) := by decide +kernel
theorem dX11_farAll_29 : decode cX11_farAll 29 = .ok (.ifCond .ge 8, 3) := by decide +kernel
theorem dX11_farAll_32 : decode cX11_farAll 32 = .ok (.iload_n 3, 1) := by decide +kernel
theorem dX11_farAll_33 : decode cX11_farAll 33 = .ok (.ineg, 1) := by decide +kernel
theorem dX11_farAll_34 : decode cX11_farAll 34 = .ok (.goto 4, 3) := by decide +kernel
theorem dX11_farAll_37 : decode cX11_farAll 37 = .ok (.iload_n 3, 1) := by decide +kernel
theorem dX11_farAll_38 : decode cX11_farAll 38 = .ok (.iadd, 1) := by decide +kernel
theorem dX11_farAll_39 : decode cX11_farAll 39 = .ok (.istore_n 1, 1) := by decide +kernel
theorem dX11_farAll_40 : decode cX11_farAll 40 = .ok (.iinc 2 1, 3) := by decide +kernel
theorem dX11_farAll_43 : decode cX11_farAll 43 = .ok (.goto (-39), 3) := by decide +kernel
theorem dX11_farAll_46 : decode cX11_farAll 46 = .ok (.iload_n 1, 1) := by decide +kernel
theorem dX11_farAll_47 : decode cX11_farAll 47 = .ok (.ireturn, 1) := by decide +kernel
theorem dX11_changes_0 : decode cX11_changes 0 = .ok (.aload_n 0, 1) := by decide +kernel
theorem dX11_changes_1 : decode cX11_changes 1 = .ok (.getfield 98, 3) := by decide +kernel
theorem dX11_changes_4 : decode cX11_changes 4 = .ok (.iload_n 1, 1) := by decide +kernel
theorem dX11_changes_5 : decode cX11_changes 5 = .ok (.iaload, 1) := by decide +kernel
theorem dX11_changes_6 : decode cX11_changes 6 = .ok (.istore_n 3, 1) := by decide +kernel
theorem dX11_changes_7 : decode cX11_changes 7 = .ok (.aload_n 0, 1) := by decide +kernel
theorem dX11_changes_8 : decode cX11_changes 8 = .ok (.getfield 98, 3) := by decide +kernel
theorem dX11_changes_11 : decode cX11_changes 11 = .ok (.iload_n 1, 1) := by decide +kernel
theorem dX11_changes_12 : decode cX11_changes 12 = .ok (.aload_n 0, 1) := by decide +kernel
theorem dX11_changes_13 : decode cX11_changes 13 = .ok (.getfield 98, 3) := by decide +kernel
theorem dX11_changes_16 : decode cX11_changes 16 = .ok (.iload_n 2, 1) := by decide +kernel
theorem dX11_changes_17 : decode cX11_changes 17 = .ok (.iaload, 1) := by decide +kernel
theorem dX11_changes_18 : decode cX11_changes 18 = .ok (.iastore, 1) := by decide +kernel
theorem dX11_changes_19 : decode cX11_changes 19 = .ok (.aload_n 0, 1) := by decide +kernel
theorem dX11_changes_20 : decode cX11_changes 20 = .ok (.getfield 98, 3) := by decide +kernel
theorem dX11_changes_23 : decode cX11_changes 23 = .ok (.iload_n 2, 1) := by decide +kernel
theorem dX11_changes_24 : decode cX11_changes 24 = .ok (.iload_n 3, 1) := by decide +kernel
theorem dX11_changes_25 : decode cX11_changes 25 = .ok (.iastore, 1) := by decide +kernel
theorem dX11_changes_26 : decode cX11_changes 26 = .ok (.return_, 1) := by decide +kernel
theorem dX11_moves_0 : decode cX11_moves 0 = .ok (.aload_n 0, 1) := by decide +kernel
theorem dX11_moves_1 : decode cX11_moves 1 = .ok (.getfield 98, 3) := by decide +kernel
theorem dX11_moves_4 : decode cX11_moves 4 = .ok (.iload_n 1, 1) := by decide +kernel
theorem dX11_moves_5 : decode cX11_moves 5 = .ok (.iaload, 1) := by decide +kernel
theorem dX11_moves_6 : decode cX11_moves 6 = .ok (.istore_n 3, 1) := by decide +kernel
theorem dX11_moves_7 : decode cX11_moves 7 = .ok (.iload_n 1, 1) := by decide +kernel
theorem dX11_moves_8 : decode cX11_moves 8 = .ok (.istore 4, 2) := by decide +kernel
theorem dX11_moves_10 : decode cX11_moves 10 = .ok (.iload 4, 2) := by decide +kernel
theorem dX11_moves_12 : decode cX11_moves 12 = .ok (.iload_n 2, 1) := by decide +kernel
theorem dX11_moves_13 : decode cX11_moves 13 = .ok (.if_icmp .ge 25, 3) := by decide +kernel
theorem dX11_moves_16 : decode cX11_moves 16 = .ok (.aload_n 0, 1) := by decide +kernel
theorem dX11_moves_17 : decode cX11_moves 17 = .ok (.getfield 98, 3) := by decide +kernel
theorem dX11_moves_20 : decode cX11_moves 20 = .ok (.iload 4, 2) := by decide +kernel
theorem dX11_moves_22 : decode cX11_moves 22 = .ok (.aload_n 0, 1) := by decide +kernel
theorem dX11_moves_23 : decode cX11_moves 23 = .ok (.getfield 98, 3) := by decide +kernel
theorem dX11_moves_26 : decode cX11_moves 26 = .ok (.iload 4, 2) := by decide +kernel
theorem dX11_moves_28 : decode cX11_moves 28 = .ok (.iconst 1, 1) := by decide +kernel
theorem dX11_moves_29 : decode cX11_moves 29 = .ok (.iadd, 1) := by decide +kernel
theorem dX11_moves_30 : decode cX11_moves 30 = .ok (.iaload, 1) := by decide +kernel
theorem dX11_moves_31 : decode cX11_moves 31 = .ok (.iastore, 1) := by decide +kernel
theorem dX11_moves_32 : decode cX11_moves 32 = .ok (.iinc 4 1, 3) := by decide +kernel
theorem dX11_moves_35 : decode cX11_moves 35 = .ok (.goto (-25), 3) := by decide +kernel
theorem dX11_moves_38 : decode cX11_moves 38 = .ok (.iload_n 1, 1) := by decide +kernel
theorem dX11_moves_39 : decode cX11_moves 39 = .ok (.istore 4, 2) := by decide +kernel
theorem dX11_moves_41 : decode cX11_moves 41 = .ok (.iload 4, 2) := by decide +kernel
theorem dX11_moves_43 : decode cX11_moves 43 = .ok (.iload_n 2, 1) := by decide +kernel
theorem dX11_moves_44 : decode cX11_moves 44 = .ok (.if_icmp .le 25, 3) := by decide +kernel
theorem dX11_moves_47 : decode cX11_moves 47 = .ok (.aload_n 0, 1) := by decide +kernel
theorem dX11_moves_48 : decode cX11_moves 48 = .ok (.getfield 98, 3) := by decide +kernel
theorem dX11_moves_51 : decode cX11_moves 51 = .ok (.iload 4, 2) := by decide +kernel
theorem dX11_moves_53 : decode cX11_moves 53 = .ok (.aload_n 0, 1) := by decide +kernel
theorem dX11_moves_54 : decode cX11_moves 54 = .ok (.getfield 98, 3) := by decide +kernel
theorem dX11_moves_57 : decode cX11_moves 57 = .ok (.iload 4, 2) := by decide +kernel
theorem dX11_moves_59 : decode cX11_moves 59 = .ok (.iconst 1, 1) := by decide +kernel
theorem dX11_moves_60 : decode cX11_moves 60 = .ok (.isub, 1) := by decide +kernel
theorem dX11_moves_61 : decode cX11_moves 61 = .ok (.iaload, 1) := by decide +kernel
theorem dX11_moves_62 : decode cX11_moves 62 = .ok (.iastore, 1) := by decide +kernel
theorem dX11_moves_63 : decode cX11_moves 63 = .ok (.iinc 4 (-1), 3) := by decide +kernel
theorem dX11_moves_66 : decode cX11_moves 66 = .ok (.goto (-25), 3) := by decide +kernel
theorem dX11_moves_69 : decode cX11_moves 69 = .ok (.aload_n 0, 1) := by decide +kernel
theorem dX11_moves_70 : decode cX11_moves 70 = .ok (.getfield 98, 3) := by decide +kernel
theorem dX11_moves_73 : decode cX11_moves 73 = .ok (.iload_n 2, 1) := by decide +kernel
theorem dX11_moves_74 : decode cX11_moves 74 = .ok (.iload_n 3, 1) := by decide +kernel
theorem dX11_moves_75 : decode cX11_moves 75 = .ok (.iastore, 1) := by decide +kernel
theorem dX11_moves_76 : decode cX11_moves 76 = .ok (.return_, 1) := by decide +kernel
theorem dX11_putsOff_0 : decode cX11_putsOff 0 = .ok (.aload_n 0, 1) := by decide +kernel
theorem dX11_putsOff_1 : decode cX11_putsOff 1 = .ok (.getfield 98, 3) := by decide +kernel
theorem dX11_putsOff_4 : decode cX11_putsOff 4 = .ok (.bipush 24, 2) := by decide +kernel
theorem dX11_putsOff_6 : decode cX11_putsOff 6 = .ok (.dup2, 1) := by decide +kernel
theorem dX11_putsOff_7 : decode cX11_putsOff 7 = .ok (.iaload, 1) := by decide +kernel
theorem dX11_putsOff_8 : decode cX11_putsOff 8 = .ok (.iconst 1, 1) := by decide +kernel
theorem dX11_putsOff_9 : decode cX11_putsOff 9 = .ok (.aload_n 0, 1) := by decide +kernel
theorem dX11_putsOff_10 : decode cX11_putsOff 10 = .ok (.getfield 98, 3) := by decide +kernel
theorem dX11_putsOff_13 : decode cX11_putsOff 13 = .ok (.iload_n 1, 1) := by decide +kernel
theorem dX11_putsOff_14 : decode cX11_putsOff 14 = .ok (.iaload, 1) := by decide +kernel
theorem dX11_putsOff_15 : decode cX11_putsOff 15 = .ok (.ishl, 1) := by decide +kernel
theorem dX11_putsOff_16 : decode cX11_putsOff 16 = .ok (.iconst (-1), 1) := by decide +kernel
theorem dX11_putsOff_17 : decode cX11_putsOff 17 = .ok (.ixor, 1) := by decide +kernel
theorem dX11_putsOff_18 : decode cX11_putsOff 18 = .ok (.iand, 1) := by decide +kernel
theorem dX11_putsOff_19 : decode cX11_putsOff 19 = .ok (.iastore, 1) := by decide +kernel
theorem dX11_putsOff_20 : decode cX11_putsOff 20 = .ok (.aload_n 0, 1) := by decide +kernel
theorem dX11_putsOff_21 : decode cX11_putsOff 21 = .ok (.iload_n 1, 1) := by decide +kernel
theorem dX11_putsOff_22 : decode cX11_putsOff 22 = .ok (.aload_n 0, 1) := by decide +kernel
theorem dX11_putsOff_23 : decode cX11_putsOff 23 = .ok (.getfield 98, 3) := by decide +kernel
theorem dX11_putsOff_26 : decode cX11_putsOff 26 = .ok (.bipush 7, 2) := by decide +kernel
theorem dX11_putsOff_28 : decode cX11_putsOff 28 = .ok (.iaload, 1) := by decide +kernel
theorem dX11_putsOff_29 : decode cX11_putsOff 29 = .ok (.iconst 1, 1) := by decide +kernel
theorem dX11_putsOff_30 : decode cX11_putsOff 30 = .ok (.isub, 1) := by decide +kernel
theorem dX11_putsOff_31 : decode cX11_putsOff 31 = .ok (.invokevirtual 330, 3) := by decide +kernel
theorem dX11_putsOff_34 : decode cX11_putsOff 34 = .ok (.aload_n 0, 1) := by decide +kernel
theorem dX11_putsOff_35 : decode cX11_putsOff 35 = .ok (.getfield 98, 3) := by decide +kernel
theorem dX11_putsOff_38 : decode cX11_putsOff 38 = .ok (.bipush 7, 2) := by decide +kernel
theorem dX11_putsOff_40 : decode cX11_putsOff 40 = .ok (.dup2, 1) := by decide +kernel
theorem dX11_putsOff_41 : decode cX11_putsOff 41 = .ok (.iaload, 1) := by decide +kernel
theorem dX11_putsOff_42 : decode cX11_putsOff 42 = .ok (.iconst 1, 1) := by decide +kernel
theorem dX11_putsOff_43 : decode cX11_putsOff 43 = .ok (.isub, 1) := by decide +kernel
theorem dX11_putsOff_44 : decode cX11_putsOff 44 = .ok (.iastore, 1) := by decide +kernel
theorem dX11_putsOff_45 : decode cX11_putsOff 45 = .ok (.aload_n 0, 1) := by decide +kernel
theorem dX11_putsOff_46 : decode cX11_putsOff 46 = .ok (.getfield 98, 3) := by decide +kernel
theorem dX11_putsOff_49 : decode cX11_putsOff 49 = .ok (.aload_n 0, 1) := by decide +kernel
theorem dX11_putsOff_50 : decode cX11_putsOff 50 = .ok (.getfield 98, 3) := by decide +kernel
theorem dX11_putsOff_53 : decode cX11_putsOff 53 = .ok (.bipush 7, 2) := by decide +kernel
theorem dX11_putsOff_55 : decode cX11_putsOff 55 = .ok (.iaload, 1) := by decide +kernel
theorem dX11_putsOff_56 : decode cX11_putsOff 56 = .ok (.iconst 0, 1) := by decide +kernel
theorem dX11_putsOff_57 : decode cX11_putsOff 57 = .ok (.iastore, 1) := by decide +kernel
theorem dX11_putsOff_58 : decode cX11_putsOff 58 = .ok (.return_, 1) := by decide +kernel
theorem dX11_sessionGoes_0 : decode cX11_sessionGoes 0 = .ok (.iconst 0, 1) := by decide +kernel
theorem dX11_sessionGoes_1 : decode cX11_sessionGoes 1 = .ok (.istore_n 1, 1) := by decide +kernel
theorem dX11_sessionGoes_2 : decode cX11_sessionGoes 2 = .ok (.aload_n 0, 1) := by decide +kernel
theorem dX11_sessionGoes_3 : decode cX11_sessionGoes 3 = .ok (.getfield 98, 3) := by decide +kernel
theorem dX11_sessionGoes_6 : decode cX11_sessionGoes 6 = .ok (.bipush 9, 2) := by decide +kernel
theorem dX11_sessionGoes_8 : decode cX11_sessionGoes 8 = .ok (.iaload, 1) := by decide +kernel
theorem dX11_sessionGoes_9 : decode cX11_sessionGoes 9 = .ok (.istore_n 2, 1) := by decide +kernel
theorem dX11_sessionGoes_10 : decode cX11_sessionGoes 10 = .ok (.iconst 0, 1) := by decide +kernel
theorem dX11_sessionGoes_11 : decode cX11_sessionGoes 11 = .ok (.istore_n 3, 1) := by decide +kernel
theorem dX11_sessionGoes_12 : decode cX11_sessionGoes 12 = .ok (.iload_n 3, 1) := by decide +kernel
theorem dX11_sessionGoes_13 : decode cX11_sessionGoes 13 = .ok (.aload_n 0, 1) := by decide +kernel
theorem dX11_sessionGoes_14 : decode cX11_sessionGoes 14 = .ok (.getfield 98, 3) := by decide +kernel
theorem dX11_sessionGoes_17 : decode cX11_sessionGoes 17 = .ok (.bipush 7, 2) := by decide +kernel
theorem dX11_sessionGoes_19 : decode cX11_sessionGoes 19 = .ok (.iaload, 1) := by decide +kernel
theorem dX11_sessionGoes_20 : decode cX11_sessionGoes 20 = .ok (.if_icmp .ge 61, 3) := by decide +kernel
theorem dX11_sessionGoes_23 : decode cX11_sessionGoes 23 = .ok (.aload_n 0, 1) := by decide +kernel
theorem dX11_sessionGoes_24 : decode cX11_sessionGoes 24 = .ok (.getfield 98, 3) := by decide +kernel
theorem dX11_sessionGoes_27 : decode cX11_sessionGoes 27 = .ok (.iload_n 3, 1) := by decide +kernel
theorem dX11_sessionGoes_28 : decode cX11_sessionGoes 28 = .ok (.iaload, 1) := by decide +kernel
theorem dX11_sessionGoes_29 : decode cX11_sessionGoes 29 = .ok (.istore 4, 2) := by decide +kernel
theorem dX11_sessionGoes_31 : decode cX11_sessionGoes 31 = .ok (.aload_n 0, 1) := by decide +kernel
theorem dX11_sessionGoes_32 : decode cX11_sessionGoes 32 = .ok (.bipush 8, 2) := by decide +kernel
theorem dX11_sessionGoes_34 : decode cX11_sessionGoes 34 = .ok (.aload_n 0, 1) := by decide +kernel
theorem dX11_sessionGoes_35 : decode cX11_sessionGoes 35 = .ok (.getfield 98, 3) := by decide +kernel
theorem dX11_sessionGoes_38 : decode cX11_sessionGoes 38 = .ok (.bipush 8, 2) := by decide +kernel
theorem dX11_sessionGoes_40 : decode cX11_sessionGoes 40 = .ok (.iaload, 1) := by decide +kernel
theorem dX11_sessionGoes_41 : decode cX11_sessionGoes 41 = .ok (.imul, 1) := by decide +kernel
theorem dX11_sessionGoes_42 : decode cX11_sessionGoes 42 = .ok (.iload 4, 2) := by decide +kernel
theorem dX11_sessionGoes_44 : decode cX11_sessionGoes 44 = .ok (.iadd, 1) := by decide +kernel
theorem dX11_sessionGoes_45 : decode cX11_sessionGoes 45 = .ok (.invokevirtual 333, 3) := by decide +kernel
theorem dX11_sessionGoes_48 : decode cX11_sessionGoes 48 = .ok (.aload_n 0, 1) := by decide +kernel
theorem dX11_sessionGoes_49 : decode cX11_sessionGoes 49 = .ok (.iload 4, 2) := by decide +kernel
theorem dX11_sessionGoes_51 : decode cX11_sessionGoes 51 = .ok (.iload_n 3, 1) := by decide +kernel
theorem dX11_sessionGoes_52 : decode cX11_sessionGoes 52 = .ok (.invokevirtual 336, 3) := by decide +kernel
theorem dX11_sessionGoes_55 : decode cX11_sessionGoes 55 = .ok (.if_icmp .ge 13, 3) := by decide +kernel
theorem dX11_sessionGoes_58 : decode cX11_sessionGoes 58 = .ok (.iload_n 1, 1) := by decide +kernel
theorem dX11_sessionGoes_59 : decode cX11_sessionGoes 59 = .ok (.iconst 1, 1) := by decide +kernel
theorem dX11_sessionGoes_60 : decode cX11_sessionGoes 60 = .ok (.iload 4, 2) := by decide +kernel
theorem dX11_sessionGoes_62 : decode cX11_sessionGoes 62 = .ok (.ishl, 1) := by decide +kernel
theorem dX11_sessionGoes_63 : decode cX11_sessionGoes 63 = .ok (.ior, 1) := by decide +kernel
theorem dX11_sessionGoes_64 : decode cX11_sessionGoes 64 = .ok (.istore_n 1, 1) := by decide +kernel
theorem dX11_sessionGoes_65 : decode cX11_sessionGoes 65 = .ok (.goto 10, 3) := by decide +kernel
theorem dX11_sessionGoes_68 : decode cX11_sessionGoes 68 = .ok (.aload_n 0, 1) := by decide +kernel
theorem dX11_sessionGoes_69 : decode cX11_sessionGoes 69 = .ok (.iload 4, 2) := by decide +kernel
theorem dX11_sessionGoes_71 : decode cX11_sessionGoes 71 = .ok (.invokevirtual 299, 3) := by decide +kernel
theorem dX11_sessionGoes_74 : decode cX11_sessionGoes 74 = .ok (.istore_n 2, 1) := by decide +kernel
theorem dX11_sessionGoes_75 : decode cX11_sessionGoes 75 = .ok (.iinc 3 1, 3) := by decide +kernel
theorem dX11_sessionGoes_78 : decode cX11_sessionGoes 78 = .ok (.goto (-66), 3) := by decide +kernel
theorem dX11_sessionGoes_81 : decode cX11_sessionGoes 81 = .ok (.iconst 0, 1) := by decide +kernel
theorem dX11_sessionGoes_82 : decode cX11_sessionGoes 82 = .ok (.istore_n 3, 1) := by decide +kernel
theorem dX11_sessionGoes_83 : decode cX11_sessionGoes 83 = .ok (.iload_n 3, 1) := by decide +kernel
theorem dX11_sessionGoes_84 : decode cX11_sessionGoes 84 = .ok (.aload_n 0, 1) := by decide +kernel
theorem dX11_sessionGoes_85 : decode cX11_sessionGoes 85 = .ok (.getfield 98, 3) := by decide +kernel
theorem dX11_sessionGoes_88 : decode cX11_sessionGoes 88 = .ok (.bipush 7, 2) := by decide +kernel
theorem dX11_sessionGoes_90 : decode cX11_sessionGoes 90 = .ok (.iaload, 1) := by decide +kernel
theorem dX11_sessionGoes_91 : decode cX11_sessionGoes 91 = .ok (.if_icmp .ge 20, 3) := by decide +kernel
theorem dX11_sessionGoes_94 : decode cX11_sessionGoes 94 = .ok (.aload_n 0, 1) := by decide +kernel
theorem dX11_sessionGoes_95 : decode cX11_sessionGoes 95 = .ok (.getfield 101, 3) := by decide +kernel
theorem dX11_sessionGoes_98 : decode cX11_sessionGoes 98 = .ok (.iload_n 3, 1) := by decide +kernel
theorem dX11_sessionGoes_99 : decode cX11_sessionGoes 99 = .ok (.aload_n 0, 1) := by decide +kernel
theorem dX11_sessionGoes_100 : decode cX11_sessionGoes 100 = .ok (.iload_n 3, 1) := by decide +kernel
theorem dX11_sessionGoes_101 : decode cX11_sessionGoes 101 = .ok (.invokevirtual 324, 3) := by decide +kernel
theorem dX11_sessionGoes_104 : decode cX11_sessionGoes 104 = .ok (.iastore, 1) := by decide +kernel
theorem dX11_sessionGoes_105 : decode cX11_sessionGoes 105 = .ok (.iinc 3 1, 3) := by decide +kernel
theorem dX11_sessionGoes_108 : decode cX11_sessionGoes 108 = .ok (.goto (-25), 3) := by decide +kernel
theorem dX11_sessionGoes_111 : decode cX11_sessionGoes 111 = .ok (.iconst 0, 1) := by decide +kernel
theorem dX11_sessionGoes_112 : decode cX11_sessionGoes 112 = .ok (.istore_n 3, 1) := by decide +kernel
theorem dX11_sessionGoes_113 : decode cX11_sessionGoes 113 = .ok (.aload_n 0, 1) := by decide +kernel
theorem dX11_sessionGoes_114 : decode cX11_sessionGoes 114 = .ok (.getfield 98, 3) := by decide +kernel
theorem dX11_sessionGoes_117 : decode cX11_sessionGoes 117 = .ok (.bipush 7, 2) := by decide +kernel
theorem dX11_sessionGoes_119 : decode cX11_sessionGoes 119 = .ok (.iaload, 1) := by decide +kernel
theorem dX11_sessionGoes_120 : decode cX11_sessionGoes 120 = .ok (.istore 4, 2) := by decide +kernel
theorem dX11_sessionGoes_122 : decode cX11_sessionGoes 122 = .ok (.iconst 0, 1) := by decide +kernel
theorem dX11_sessionGoes_123 : decode cX11_sessionGoes 123 = .ok (.istore 5, 2) := by decide +kernel
theorem dX11_sessionGoes_125 : decode cX11_sessionGoes 125 = .ok (.iload 5, 2) := by decide +kernel
theorem dX11_sessionGoes_127 : decode cX11_sessionGoes 127 = .ok (.iload 4, 2) := by decide +kernel
theorem dX11_sessionGoes_129 : decode cX11_sessionGoes 129 = .ok (.if_icmp .ge 81, 3) := by decide +kernel
theorem dX11_sessionGoes_132 : decode cX11_sessionGoes 132 = .ok (.aload_n 0, 1) := by decide +kernel
theorem dX11_sessionGoes_133 : decode cX11_sessionGoes 133 = .ok (.getfield 98, 3) := by decide +kernel
theorem dX11_sessionGoes_136 : decode cX11_sessionGoes 136 = .ok (.iload 5, 2) := by decide +kernel
theorem dX11_sessionGoes_138 : decode cX11_sessionGoes 138 = .ok (.iaload, 1) := by decide +kernel
theorem dX11_sessionGoes_139 : decode cX11_sessionGoes 139 = .ok (.istore 6, 2) := by decide +kernel
theorem dX11_sessionGoes_141 : decode cX11_sessionGoes 141 = .ok (.aload_n 0, 1) := by decide +kernel
theorem dX11_sessionGoes_142 : decode cX11_sessionGoes 142 = .ok (.getfield 98, 3) := by decide +kernel
theorem dX11_sessionGoes_145 : decode cX11_sessionGoes 145 = .ok (.iload 5, 2) := by decide +kernel
theorem dX11_sessionGoes_147 : decode cX11_sessionGoes 147 = .ok (.iconst 0, 1) := by decide +kernel
theorem dX11_sessionGoes_148 : decode cX11_sessionGoes 148 = .ok (.iastore, 1) := by decide +kernel
theorem dX11_sessionGoes_149 : decode cX11_sessionGoes 149 = .ok (.iload_n 1, 1) := by decide +kernel
theorem dX11_sessionGoes_150 : decode cX11_sessionGoes 150 = .ok (.iload 6, 2) := by decide +kernel
theorem dX11_sessionGoes_152 : decode cX11_sessionGoes 152 = .ok (.ishr, 1) := by decide +kernel
theorem dX11_sessionGoes_153 : decode cX11_sessionGoes 153 = .ok (.iconst 1, 1) := by decide +kernel
theorem dX11_sessionGoes_154 : decode cX11_sessionGoes 154 = .ok (.iand, 1) := by decide +kernel
theorem dX11_sessionGoes_155 : decode cX11_sessionGoes 155 = .ok (.iconst 1, 1) := by decide +kernel
theorem dX11_sessionGoes_156 : decode cX11_sessionGoes 156 = .ok (.if_icmp .ne 17, 3) := by decide +kernel
theorem dX11_sessionGoes_159 : decode cX11_sessionGoes 159 = .ok (.aload_n 0, 1) := by decide +kernel
theorem dX11_sessionGoes_160 : decode cX11_sessionGoes 160 = .ok (.getfield 98, 3) := by decide +kernel
theorem dX11_sessionGoes_163 : decode cX11_sessionGoes 163 = .ok (.iload_n 3, 1) := by decide +kernel
theorem dX11_sessionGoes_164 : decode cX11_sessionGoes 164 = .ok (.iload 6, 2) := by decide +kernel
theorem dX11_sessionGoes_166 : decode cX11_sessionGoes 166 = .ok (.iastore, 1) := by decide +kernel
theorem dX11_sessionGoes_167 : decode cX11_sessionGoes 167 = .ok (.iinc 3 1, 3) := by decide +kernel
theorem dX11_sessionGoes_170 : decode cX11_sessionGoes 170 = .ok (.goto 34, 3) := by decide +kernel
theorem dX11_sessionGoes_173 : decode cX11_sessionGoes 173 = .ok (.aload_n 0, 1) := by decide +kernel
theorem dX11_sessionGoes_174 : decode cX11_sessionGoes 174 = .ok (.getfield 98, 3) := by decide +kernel
theorem dX11_sessionGoes_177 : decode cX11_sessionGoes 177 = .ok (.bipush 17, 2) := by decide +kernel
theorem dX11_sessionGoes_179 : decode cX11_sessionGoes 179 = .ok (.iload 6, 2) := by decide +kernel
theorem dX11_sessionGoes_181 : decode cX11_sessionGoes 181 = .ok (.iadd, 1) := by decide +kernel
theorem dX11_sessionGoes_182 : decode cX11_sessionGoes 182 = .ok (.dup2, 1) := by decide +kernel
theorem dX11_sessionGoes_183 : decode cX11_sessionGoes 183 = .ok (.iaload, 1) := by decide +kernel
theorem dX11_sessionGoes_184 : decode cX11_sessionGoes 184 = .ok (.aload_n 0, 1) := by decide +kernel
theorem dX11_sessionGoes_185 : decode cX11_sessionGoes 185 = .ok (.getfield 101, 3) := by decide +kernel
theorem dX11_sessionGoes_188 : decode cX11_sessionGoes 188 = .ok (.iload 5, 2) := by decide +kernel
theorem dX11_sessionGoes_190 : decode cX11_sessionGoes 190 = .ok (.iaload, 1) := by decide +kernel
theorem dX11_sessionGoes_191 : decode cX11_sessionGoes 191 = .ok (.iadd, 1) := by decide +kernel
theorem dX11_sessionGoes_192 : decode cX11_sessionGoes 192 = .ok (.iastore, 1) := by decide +kernel
theorem dX11_sessionGoes_193 : decode cX11_sessionGoes 193 = .ok (.aload_n 0, 1) := by decide +kernel
theorem dX11_sessionGoes_194 : decode cX11_sessionGoes 194 = .ok (.getfield 98, 3) := by decide +kernel
theorem dX11_sessionGoes_197 : decode cX11_sessionGoes 197 = .ok (.bipush 25, 2) := by decide +kernel
theorem dX11_sessionGoes_199 : decode cX11_sessionGoes 199 = .ok (.dup2, 1) := by decide +kernel
theorem dX11_sessionGoes_200 : decode cX11_sessionGoes 200 = .ok (.iaload, 1) := by decide +kernel
theorem dX11_sessionGoes_201 : decode cX11_sessionGoes 201 = .ok (.iconst 1, 1) := by decide +kernel
theorem dX11_sessionGoes_202 : decode cX11_sessionGoes 202 = .ok (.iadd, 1) := by decide +kernel
theorem dX11_sessionGoes_203 : decode cX11_sessionGoes 203 = .ok (.iastore, 1) := by decide +kernel
theorem dX11_sessionGoes_204 : decode cX11_sessionGoes 204 = .ok (.iinc 5 1, 3) := by decide +kernel
theorem dX11_sessionGoes_207 : decode cX11_sessionGoes 207 = .ok (.goto (-82), 3) := by decide +kernel
theorem dX11_sessionGoes_210 : decode cX11_sessionGoes 210 = .ok (.aload_n 0, 1) := by decide +kernel
theorem dX11_sessionGoes_211 : decode cX11_sessionGoes 211 = .ok (.getfield 98, 3) := by decide +kernel
theorem dX11_sessionGoes_214 : decode cX11_sessionGoes 214 = .ok (.bipush 7, 2) := by decide +kernel
theorem dX11_sessionGoes_216 : decode cX11_sessionGoes 216 = .ok (.iload_n 3, 1) := by decide +kernel
theorem dX11_sessionGoes_217 : decode cX11_sessionGoes 217 = .ok (.iastore, 1) := by decide +kernel
theorem dX11_sessionGoes_218 : decode cX11_sessionGoes 218 = .ok (.aload_n 0, 1) := by decide +kernel
theorem dX11_sessionGoes_219 : decode cX11_sessionGoes 219 = .ok (.getfield 98, 3) := by decide +kernel
theorem dX11_sessionGoes_222 : decode cX11_sessionGoes 222 = .ok (.bipush 9, 2) := by decide +kernel
theorem dX11_sessionGoes_224 : decode cX11_sessionGoes 224 = .ok (.iload_n 2, 1) := by decide +kernel
theorem dX11_sessionGoes_225 : decode cX11_sessionGoes 225 = .ok (.iastore, 1) := by decide +kernel
theorem dX11_sessionGoes_226 : decode cX11_sessionGoes 226 = .ok (.aload_n 0, 1) := by decide +kernel
theorem dX11_sessionGoes_227 : decode cX11_sessionGoes 227 = .ok (.getfield 98, 3) := by decide +kernel
theorem dX11_sessionGoes_230 : decode cX11_sessionGoes 230 = .ok (.bipush 24, 2) := by decide +kernel
theorem dX11_sessionGoes_232 : decode cX11_sessionGoes 232 = .ok (.iconst 0, 1) := by decide +kernel
theorem dX11_sessionGoes_233 : decode cX11_sessionGoes 233 = .ok (.iastore, 1) := by decide +kernel
theorem dX11_sessionGoes_234 : decode cX11_sessionGoes 234 = .ok (.aload_n 0, 1) := by decide +kernel
theorem dX11_sessionGoes_235 : decode cX11_sessionGoes 235 = .ok (.getfield 98, 3) := by decide +kernel
theorem dX11_sessionGoes_238 : decode cX11_sessionGoes 238 = .ok (.bipush 8, 2) := by decide +kernel
theorem dX11_sessionGoes_240 : decode cX11_sessionGoes 240 = .ok (.dup2, 1) := by decide +kernel
theorem dX11_sessionGoes_241 : decode cX11_sessionGoes 241 = .ok (.iaload, 1) := by decide +kernel
theorem dX11_sessionGoes_242 : decode cX11_sessionGoes 242 = .ok (.iconst 1, 1) := by decide +kernel
theorem dX11_sessionGoes_243 : decode cX11_sessionGoes 243 = .ok (.iadd, 1) := by decide +kernel
theorem dX11_sessionGoes_244 : decode cX11_sessionGoes 244 = .ok (.iastore, 1) := by decide +kernel
theorem dX11_sessionGoes_245 : decode cX11_sessionGoes 245 = .ok (.return_, 1) := by decide +kernel
theorem dX11_goes_0 : decode cX11_goes 0 = .ok (.iconst 0, 1) := by decide +kernel
theorem dX11_goes_1 : decode cX11_goes 1 = .ok (.istore_n 2, 1) := by decide +kernel
theorem dX11_goes_2 : decode cX11_goes 2 = .ok (.iload_n 2, 1) := by decide +kernel
theorem dX11_goes_3 : decode cX11_goes 3 = .ok (.iload_n 1, 1) := by decide +kernel
theorem dX11_goes_4 : decode cX11_goes 4 = .ok (.if_icmp .ge 13, 3) := by decide +kernel
theorem dX11_goes_7 : decode cX11_goes 7 = .ok (.aload_n 0, 1) := by decide +kernel
theorem dX11_goes_8 : decode cX11_goes 8 = .ok (.invokevirtual 339, 3) := by decide +kernel
theorem dX11_goes_11 : decode cX11_goes 11 = .ok (.iinc 2 1, 3) := by decide +kernel
theorem dX11_goes_14 : decode cX11_goes 14 = .ok (.goto (-12), 3) := by decide +kernel
theorem dX11_goes_17 : decode cX11_goes 17 = .ok (.return_, 1) := by decide +kernel
theorem dX11_docket_0 : decode cX11_docket 0 = .ok (.aload_n 0, 1) := by decide +kernel
theorem dX11_docket_1 : decode cX11_docket 1 = .ok (.iload_n 1, 1) := by decide +kernel
theorem dX11_docket_2 : decode cX11_docket 2 = .ok (.invokevirtual 342, 3) := by decide +kernel
theorem dX11_docket_5 : decode cX11_docket 5 = .ok (.ifCond .ne 5, 3) := by decide +kernel
theorem dX11_docket_8 : decode cX11_docket 8 = .ok (.iconst (-1), 1) := by decide +kernel
theorem dX11_docket_9 : decode cX11_docket 9 = .ok (.ireturn, 1) := by decide +kernel
theorem dX11_docket_10 : decode cX11_docket 10 = .ok (.aload_n 0, 1) := by decide +kernel
theorem dX11_docket_11 : decode cX11_docket 11 = .ok (.invokevirtual 345, 3) := by decide +kernel
theorem dX11_docket_14 : decode cX11_docket 14 = .ok (.aload_n 0, 1) := by decide +kernel
theorem dX11_docket_15 : decode cX11_docket 15 = .ok (.iload_n 1, 1) := by decide +kernel
theorem dX11_docket_16 : decode cX11_docket 16 = .ok (.invokevirtual 293, 3) := by decide +kernel
theorem dX11_docket_19 : decode cX11_docket 19 = .ok (.istore_n 3, 1) := by decide +kernel
theorem dX11_docket_20 : decode cX11_docket 20 = .ok (.iload_n 2, 1) := by decide +kernel
theorem dX11_docket_21 : decode cX11_docket 21 = .ok (.tableswitch 113 0 6 #[43, 49, 59, 70, 80, 94, 106], 43) := by decide +kernel
theorem dX11_docket_64 : decode cX11_docket 64 = .ok (.aload_n 0, 1) := by decide +kernel
theorem dX11_docket_65 : decode cX11_docket 65 = .ok (.iload_n 1, 1) := by decide +kernel
theorem dX11_docket_66 : decode cX11_docket 66 = .ok (.invokevirtual 299, 3) := by decide +kernel
theorem dX11_docket_69 : decode cX11_docket 69 = .ok (.ireturn, 1) := by decide +kernel
theorem dX11_docket_70 : decode cX11_docket 70 = .ok (.aload_n 0, 1) := by decide +kernel
theorem dX11_docket_71 : decode cX11_docket 71 = .ok (.getfield 98, 3) := by decide +kernel
theorem dX11_docket_74 : decode cX11_docket 74 = .ok (.bipush 10, 2) := by decide +kernel
theorem dX11_docket_76 : decode cX11_docket 76 = .ok (.iload_n 1, 1) := by decide +kernel
theorem dX11_docket_77 : decode cX11_docket 77 = .ok (.iadd, 1) := by decide +kernel
theorem dX11_docket_78 : decode cX11_docket 78 = .ok (.iaload, 1) := by decide +kernel
theorem dX11_docket_79 : decode cX11_docket 79 = .ok (.ireturn, 1) := by decide +kernel
theorem dX11_docket_80 : decode cX11_docket 80 = .ok (.iload_n 3, 1) := by decide +kernel
theorem dX11_docket_81 : decode cX11_docket 81 = .ok (.ifCond .ge 8, 3) := by decide +kernel
theorem dX11_docket_84 : decode cX11_docket 84 = .ok (.bipush (-2), 2) := by decide +kernel
theorem dX11_docket_86 : decode cX11_docket 86 = .ok (.goto 4, 3) := by decide +kernel
theorem dX11_docket_89 : decode cX11_docket 89 = .ok (.iload_n 3, 1) := by decide +kernel
theorem dX11_docket_90 : decode cX11_docket 90 = .ok (.ireturn, 1) := by decide +kernel
theorem dX11_docket_91 : decode cX11_docket 91 = .ok (.aload_n 0, 1) := by decide +kernel
theorem dX11_docket_92 : decode cX11_docket 92 = .ok (.getfield 98, 3) := by decide +kernel
theorem dX11_docket_95 : decode cX11_docket 95 = .ok (.bipush 17, 2) := by decide +kernel
theorem dX11_docket_97 : decode cX11_docket 97 = .ok (.iload_n 1, 1) := by decide +kernel
theorem dX11_docket_98 : decode cX11_docket 98 = .ok (.iadd, 1) := by decide +kernel
theorem dX11_docket_99 : decode cX11_docket 99 = .ok (.iaload, 1) := by decide +kernel
theorem dX11_docket_100 : decode cX11_docket 100 = .ok (.ireturn, 1) := by decide +kernel
theorem dX11_docket_101 : decode cX11_docket 101 = .ok (.aload_n 0, 1) := by decide +kernel
theorem dX11_docket_102 : decode cX11_docket 102 = .ok (.iload_n 1, 1) := by decide +kernel
theorem dX11_docket_103 : decode cX11_docket 103 = .ok (.invokevirtual 302, 3) := by decide +kernel
theorem dX11_docket_106 : decode cX11_docket 106 = .ok (.ifCond .eq 7, 3) := by decide +kernel
theorem dX11_docket_109 : decode cX11_docket 109 = .ok (.iconst 1, 1) := by decide +kernel
theorem dX11_docket_110 : decode cX11_docket 110 = .ok (.goto 4, 3) := by decide +kernel
theorem dX11_docket_113 : decode cX11_docket 113 = .ok (.iconst 0, 1) := by decide +kernel
theorem dX11_docket_114 : decode cX11_docket 114 = .ok (.ireturn, 1) := by decide +kernel
theorem dX11_docket_115 : decode cX11_docket 115 = .ok (.aload_n 0, 1) := by decide +kernel
theorem dX11_docket_116 : decode cX11_docket 116 = .ok (.iload_n 1, 1) := by decide +kernel
theorem dX11_docket_117 : decode cX11_docket 117 = .ok (.iload_n 3, 1) := by decide +kernel
theorem dX11_docket_118 : decode cX11_docket 118 = .ok (.aload_n 0, 1) := by decide +kernel
theorem dX11_docket_119 : decode cX11_docket 119 = .ok (.iload_n 1, 1) := by decide +kernel
theorem dX11_docket_120 : decode cX11_docket 120 = .ok (.invokevirtual 299, 3) := by decide +kernel
theorem dX11_docket_123 : decode cX11_docket 123 = .ok (.invokevirtual 318, 3) := by decide +kernel
theorem dX11_docket_126 : decode cX11_docket 126 = .ok (.ireturn, 1) := by decide +kernel
theorem dX11_docket_127 : decode cX11_docket 127 = .ok (.aload_n 0, 1) := by decide +kernel
theorem dX11_docket_128 : decode cX11_docket 128 = .ok (.iload_n 1, 1) := by decide +kernel
theorem dX11_docket_129 : decode cX11_docket 129 = .ok (.iload_n 3, 1) := by decide +kernel
theorem dX11_docket_130 : decode cX11_docket 130 = .ok (.invokevirtual 336, 3) := by decide +kernel
theorem dX11_docket_133 : decode cX11_docket 133 = .ok (.ireturn, 1) := by decide +kernel
theorem dX11_docket_134 : decode cX11_docket 134 = .ok (.iconst (-1), 1) := by decide +kernel
theorem dX11_docket_135 : decode cX11_docket 135 = .ok (.ireturn, 1) := by decide +kernel
theorem dX11_suffers_0 : decode cX11_suffers 0 = .ok (.aload_n 0, 1) := by decide +kernel
theorem dX11_suffers_1 : decode cX11_suffers 1 = .ok (.invokevirtual 345, 3) := by decide +kernel
theorem dX11_suffers_4 : decode cX11_suffers 4 = .ok (.aload_n 0, 1) := by decide +kernel
theorem dX11_suffers_5 : decode cX11_suffers 5 = .ok (.iload_n 1, 1) := by decide +kernel
theorem dX11_suffers_6 : decode cX11_suffers 6 = .ok (.invokevirtual 342, 3) := by decide +kernel
theorem dX11_suffers_9 : decode cX11_suffers 9 = .ok (.ifCond .eq 20, 3) := by decide +kernel
theorem dX11_suffers_12 : decode cX11_suffers 12 = .ok (.aload_n 0, 1) := by decide +kernel
theorem dX11_suffers_13 : decode cX11_suffers 13 = .ok (.iload_n 1, 1) := by decide +kernel
theorem dX11_suffers_14 : decode cX11_suffers 14 = .ok (.invokevirtual 348, 3) := by decide +kernel
theorem dX11_suffers_17 : decode cX11_suffers 17 = .ok (.ifCond .eq 12, 3) := by decide +kernel
theorem dX11_suffers_20 : decode cX11_suffers 20 = .ok (.iload_n 2, 1) := by decide +kernel
theorem dX11_suffers_21 : decode cX11_suffers 21 = .ok (.iconst 0, 1) := by decide +kernel
theorem dX11_suffers_22 : decode cX11_suffers 22 = .ok (.iconst 1, 1) := by decide +kernel
theorem dX11_suffers_23 : decode cX11_suffers 23 = .ok (.invokestatic 282, 3) := by decide +kernel
theorem dX11_suffers_26 : decode cX11_suffers 26 = .ok (.ifCond .ne 5, 3) := by decide +kernel
theorem dX11_suffers_29 : decode cX11_suffers 29 = .ok (.iconst (-1), 1) := by decide +kernel
theorem dX11_suffers_30 : decode cX11_suffers 30 = .ok (.ireturn, 1) := by decide +kernel
theorem dX11_suffers_31 : decode cX11_suffers 31 = .ok (.iload_n 2, 1) := by decide +kernel
theorem dX11_suffers_32 : decode cX11_suffers 32 = .ok (.ifCond .ne 15, 3) := by decide +kernel
theorem dX11_suffers_35 : decode cX11_suffers 35 = .ok (.aload_n 0, 1) := by decide +kernel
theorem dX11_suffers_36 : decode cX11_suffers 36 = .ok (.aload_n 0, 1) := by decide +kernel
theorem dX11_suffers_37 : decode cX11_suffers 37 = .ok (.iload_n 1, 1) := by decide +kernel
theorem dX11_suffers_38 : decode cX11_suffers 38 = .ok (.invokevirtual 293, 3) := by decide +kernel
theorem dX11_suffers_41 : decode cX11_suffers 41 = .ok (.invokevirtual 324, 3) := by decide +kernel
theorem dX11_suffers_44 : decode cX11_suffers 44 = .ok (.goto 12, 3) := by decide +kernel
theorem dX11_suffers_47 : decode cX11_suffers 47 = .ok (.aload_n 0, 1) := by decide +kernel
theorem dX11_suffers_48 : decode cX11_suffers 48 = .ok (.aload_n 0, 1) := by decide +kernel
theorem dX11_suffers_49 : decode cX11_suffers 49 = .ok (.iload_n 1, 1) := by decide +kernel
theorem dX11_suffers_50 : decode cX11_suffers 50 = .ok (.invokevirtual 293, 3) := by decide +kernel
theorem dX11_suffers_53 : decode cX11_suffers 53 = .ok (.invokevirtual 315, 3) := by decide +kernel
theorem dX11_suffers_56 : decode cX11_suffers 56 = .ok (.ireturn, 1) := by decide +kernel
theorem dX11_tells_0 : decode cX11_tells 0 = .ok (.aload_n 0, 1) := by decide +kernel
theorem dX11_tells_1 : decode cX11_tells 1 = .ok (.iload_n 1, 1) := by decide +kernel
theorem dX11_tells_2 : decode cX11_tells 2 = .ok (.invokevirtual 342, 3) := by decide +kernel
theorem dX11_tells_5 : decode cX11_tells 5 = .ok (.ifCond .eq 13, 3) := by decide +kernel
theorem dX11_tells_8 : decode cX11_tells 8 = .ok (.iload_n 2, 1) := by decide +kernel
theorem dX11_tells_9 : decode cX11_tells 9 = .ok (.iconst 0, 1) := by decide +kernel
theorem dX11_tells_10 : decode cX11_tells 10 = .ok (.bipush 99, 2) := by decide +kernel
theorem dX11_tells_12 : decode cX11_tells 12 = .ok (.invokestatic 282, 3) := by decide +kernel
theorem dX11_tells_15 : decode cX11_tells 15 = .ok (.ifCond .ne 5, 3) := by decide +kernel
theorem dX11_tells_18 : decode cX11_tells 18 = .ok (.iconst (-1), 1) := by decide +kernel
theorem dX11_tells_19 : decode cX11_tells 19 = .ok (.ireturn, 1) := by decide +kernel
theorem dX11_tells_20 : decode cX11_tells 20 = .ok (.aload_n 0, 1) := by decide +kernel
theorem dX11_tells_21 : decode cX11_tells 21 = .ok (.invokevirtual 345, 3) := by decide +kernel
theorem dX11_tells_24 : decode cX11_tells 24 = .ok (.iload_n 3, 1) := by decide +kernel
theorem dX11_tells_25 : decode cX11_tells 25 = .ok (.tableswitch 63 0 2 #[27, 39, 51], 27) := by decide +kernel
theorem dX11_tells_52 : decode cX11_tells 52 = .ok (.aload_n 0, 1) := by decide +kernel
theorem dX11_tells_53 : decode cX11_tells 53 = .ok (.iload_n 1, 1) := by decide +kernel
theorem dX11_tells_54 : decode cX11_tells 54 = .ok (.aload_n 0, 1) := by decide +kernel
theorem dX11_tells_55 : decode cX11_tells 55 = .ok (.iload_n 1, 1) := by decide +kernel
theorem dX11_tells_56 : decode cX11_tells 56 = .ok (.invokevirtual 293, 3) := by decide +kernel
theorem dX11_tells_59 : decode cX11_tells 59 = .ok (.iload_n 2, 1) := by decide +kernel
theorem dX11_tells_60 : decode cX11_tells 60 = .ok (.invokevirtual 318, 3) := by decide +kernel
theorem dX11_tells_63 : decode cX11_tells 63 = .ok (.ireturn, 1) := by decide +kernel
theorem dX11_tells_64 : decode cX11_tells 64 = .ok (.aload_n 0, 1) := by decide +kernel
theorem dX11_tells_65 : decode cX11_tells 65 = .ok (.iload_n 1, 1) := by decide +kernel
theorem dX11_tells_66 : decode cX11_tells 66 = .ok (.aload_n 0, 1) := by decide +kernel
theorem dX11_tells_67 : decode cX11_tells 67 = .ok (.iload_n 1, 1) := by decide +kernel
theorem dX11_tells_68 : decode cX11_tells 68 = .ok (.invokevirtual 293, 3) := by decide +kernel
theorem dX11_tells_71 : decode cX11_tells 71 = .ok (.iload_n 2, 1) := by decide +kernel
theorem dX11_tells_72 : decode cX11_tells 72 = .ok (.invokevirtual 321, 3) := by decide +kernel
theorem dX11_tells_75 : decode cX11_tells 75 = .ok (.ireturn, 1) := by decide +kernel
theorem dX11_tells_76 : decode cX11_tells 76 = .ok (.aload_n 0, 1) := by decide +kernel
theorem dX11_tells_77 : decode cX11_tells 77 = .ok (.iload_n 1, 1) := by decide +kernel
theorem dX11_tells_78 : decode cX11_tells 78 = .ok (.aload_n 0, 1) := by decide +kernel
theorem dX11_tells_79 : decode cX11_tells 79 = .ok (.iload_n 1, 1) := by decide +kernel
theorem dX11_tells_80 : decode cX11_tells 80 = .ok (.invokevirtual 293, 3) := by decide +kernel
theorem dX11_tells_83 : decode cX11_tells 83 = .ok (.iload_n 2, 1) := by decide +kernel
theorem dX11_tells_84 : decode cX11_tells 84 = .ok (.invokevirtual 351, 3) := by decide +kernel
theorem dX11_tells_87 : decode cX11_tells 87 = .ok (.ireturn, 1) := by decide +kernel
theorem dX11_tells_88 : decode cX11_tells 88 = .ok (.iconst (-1), 1) := by decide +kernel
theorem dX11_tells_89 : decode cX11_tells 89 = .ok (.ireturn, 1) := by decide +kernel
theorem dX11_at_0 : decode cX11_at 0 = .ok (.iload_n 1, 1) := by decide +kernel
theorem dX11_at_1 : decode cX11_at 1 = .ok (.iconst 0, 1) := by decide +kernel
theorem dX11_at_2 : decode cX11_at 2 = .ok (.aload_n 0, 1) := by decide +kernel
theorem dX11_at_3 : decode cX11_at 3 = .ok (.getfield 95, 3) := by decide +kernel
theorem dX11_at_6 : decode cX11_at 6 = .ok (.bipush 7, 2) := by decide +kernel
theorem dX11_at_8 : decode cX11_at 8 = .ok (.iaload, 1) := by decide +kernel
theorem dX11_at_9 : decode cX11_at 9 = .ok (.iconst 1, 1) := by decide +kernel
theorem dX11_at_10 : decode cX11_at 10 = .ok (.isub, 1) := by decide +kernel
theorem dX11_at_11 : decode cX11_at 11 = .ok (.invokestatic 282, 3) := by decide +kernel
theorem dX11_at_14 : decode cX11_at 14 = .ok (.ifCond .eq 12, 3) := by decide +kernel
theorem dX11_at_17 : decode cX11_at 17 = .ok (.aload_n 0, 1) := by decide +kernel
theorem dX11_at_18 : decode cX11_at 18 = .ok (.getfield 95, 3) := by decide +kernel
theorem dX11_at_21 : decode cX11_at 21 = .ok (.iload_n 1, 1) := by decide +kernel
theorem dX11_at_22 : decode cX11_at 22 = .ok (.iaload, 1) := by decide +kernel
theorem dX11_at_23 : decode cX11_at 23 = .ok (.goto 4, 3) := by decide +kernel
theorem dX11_at_26 : decode cX11_at 26 = .ok (.iconst (-1), 1) := by decide +kernel
theorem dX11_at_27 : decode cX11_at 27 = .ok (.ireturn, 1) := by decide +kernel
theorem dX11_records_0 : decode cX11_records 0 = .ok (.aload_n 0, 1) := by decide +kernel
theorem dX11_records_1 : decode cX11_records 1 = .ok (.getfield 230, 3) := by decide +kernel
theorem dX11_records_4 : decode cX11_records 4 = .ok (.bipush 40, 2) := by decide +kernel
theorem dX11_records_6 : decode cX11_records 6 = .ok (.if_icmp .ne 43, 3) := by decide +kernel
theorem dX11_records_9 : decode cX11_records 9 = .ok (.iconst 0, 1) := by decide +kernel
theorem dX11_records_10 : decode cX11_records 10 = .ok (.istore_n 1, 1) := by decide +kernel
theorem dX11_records_11 : decode cX11_records 11 = .ok (.iload_n 1, 1) := by decide +kernel
theorem dX11_records_12 : decode cX11_records 12 = .ok (.sipush 1014, 3) := by decide +kernel
theorem dX11_records_15 : decode cX11_records 15 = .ok (.if_icmp .ge 24, 3) := by decide +kernel
theorem dX11_records_18 : decode cX11_records 18 = .ok (.aload_n 0, 1) := by decide +kernel
theorem dX11_records_19 : decode cX11_records 19 = .ok (.getfield 104, 3) := by decide +kernel
theorem dX11_records_22 : decode cX11_records 22 = .ok (.iload_n 1, 1) := by decide +kernel
theorem dX11_records_23 : decode cX11_records 23 = .ok (.aload_n 0, 1) := by decide +kernel
theorem dX11_records_24 : decode cX11_records 24 = .ok (.getfield 104, 3) := by decide +kernel
theorem dX11_records_27 : decode cX11_records 27 = .ok (.iload_n 1, 1) := by decide +kernel
theorem dX11_records_28 : decode cX11_records 28 = .ok (.bipush 26, 2) := by decide +kernel
theorem dX11_records_30 : decode cX11_records 30 = .ok (.iadd, 1) := by decide +kernel
theorem dX11_records_31 : decode cX11_records 31 = .ok (.iaload, 1) := by decide +kernel
theorem dX11_records_32 : decode cX11_records 32 = .ok (.iastore, 1) := by decide +kernel
theorem dX11_records_33 : decode cX11_records 33 = .ok (.iinc 1 1, 3) := by decide +kernel
theorem dX11_records_36 : decode cX11_records 36 = .ok (.goto (-25), 3) := by decide +kernel
theorem dX11_records_39 : decode cX11_records 39 = .ok (.aload_n 0, 1) := by decide +kernel
theorem dX11_records_40 : decode cX11_records 40 = .ok (.dup, 1) := by decide +kernel
theorem dX11_records_41 : decode cX11_records 41 = .ok (.getfield 230, 3) := by decide +kernel
theorem dX11_records_44 : decode cX11_records 44 = .ok (.iconst 1, 1) := by decide +kernel
theorem dX11_records_45 : decode cX11_records 45 = .ok (.isub, 1) := by decide +kernel
theorem dX11_records_46 : decode cX11_records 46 = .ok (.putfield 230, 3) := by decide +kernel
theorem dX11_records_49 : decode cX11_records 49 = .ok (.iconst 0, 1) := by decide +kernel
theorem dX11_records_50 : decode cX11_records 50 = .ok (.istore_n 1, 1) := by decide +kernel
theorem dX11_records_51 : decode cX11_records 51 = .ok (.iload_n 1, 1) := by decide +kernel
theorem dX11_records_52 : decode cX11_records 52 = .ok (.bipush 26, 2) := by decide +kernel
theorem dX11_records_54 : decode cX11_records 54 = .ok (.if_icmp .ge 29, 3) := by decide +kernel
theorem dX11_records_57 : decode cX11_records 57 = .ok (.aload_n 0, 1) := by decide +kernel
theorem dX11_records_58 : decode cX11_records 58 = .ok (.getfield 104, 3) := by decide +kernel
theorem dX11_records_61 : decode cX11_records 61 = .ok (.bipush 26, 2) := by decide +kernel
theorem dX11_records_63 : decode cX11_records 63 = .ok (.aload_n 0, 1) := by decide +kernel
theorem dX11_records_64 : decode cX11_records 64 = .ok (.getfield 230, 3) := by decide +kernel
theorem dX11_records_67 : decode cX11_records 67 = .ok (.imul, 1) := by decide +kernel
theorem dX11_records_68 : decode cX11_records 68 = .ok (.iload_n 1, 1) := by decide +kernel
theorem dX11_records_69 : decode cX11_records 69 = .ok (.iadd, 1) := by decide +kernel
theorem dX11_records_70 : decode cX11_records 70 = .ok (.aload_n 0, 1) := by decide +kernel
theorem dX11_records_71 : decode cX11_records 71 = .ok (.getfield 95, 3) := by decide +kernel
theorem dX11_records_74 : decode cX11_records 74 = .ok (.iload_n 1, 1) := by decide +kernel
theorem dX11_records_75 : decode cX11_records 75 = .ok (.iaload, 1) := by decide +kernel
theorem dX11_records_76 : decode cX11_records 76 = .ok (.iastore, 1) := by decide +kernel
theorem dX11_records_77 : decode cX11_records 77 = .ok (.iinc 1 1, 3) := by decide +kernel
theorem dX11_records_80 : decode cX11_records 80 = .ok (.goto (-29), 3) := by decide +kernel
theorem dX11_records_83 : decode cX11_records 83 = .ok (.aload_n 0, 1) := by decide +kernel
theorem dX11_records_84 : decode cX11_records 84 = .ok (.dup, 1) := by decide +kernel
theorem dX11_records_85 : decode cX11_records 85 = .ok (.getfield 230, 3) := by decide +kernel
theorem dX11_records_88 : decode cX11_records 88 = .ok (.iconst 1, 1) := by decide +kernel
theorem dX11_records_89 : decode cX11_records 89 = .ok (.iadd, 1) := by decide +kernel
theorem dX11_records_90 : decode cX11_records 90 = .ok (.putfield 230, 3) := by decide +kernel
theorem dX11_records_93 : decode cX11_records 93 = .ok (.aload_n 0, 1) := by decide +kernel
theorem dX11_records_94 : decode cX11_records 94 = .ok (.invokevirtual 146, 3) := by decide +kernel
theorem dX11_records_97 : decode cX11_records 97 = .ok (.iconst 1, 1) := by decide +kernel
theorem dX11_records_98 : decode cX11_records 98 = .ok (.ireturn, 1) := by decide +kernel
theorem dX11_areTwo_0 : decode cX11_areTwo 0 = .ok (.aload_n 0, 1) := by decide +kernel
theorem dX11_areTwo_1 : decode cX11_areTwo 1 = .ok (.iload_n 1, 1) := by decide +kernel
theorem dX11_areTwo_2 : decode cX11_areTwo 2 = .ok (.invokevirtual 342, 3) := by decide +kernel
theorem dX11_areTwo_5 : decode cX11_areTwo 5 = .ok (.ifCond .eq 36, 3) := by decide +kernel
theorem dX11_areTwo_8 : decode cX11_areTwo 8 = .ok (.aload_n 0, 1) := by decide +kernel
theorem dX11_areTwo_9 : decode cX11_areTwo 9 = .ok (.iload_n 2, 1) := by decide +kernel
theorem dX11_areTwo_10 : decode cX11_areTwo 10 = .ok (.invokevirtual 342, 3) := by decide +kernel
theorem dX11_areTwo_13 : decode cX11_areTwo 13 = .ok (.ifCond .eq 28, 3) := by decide +kernel
theorem dX11_areTwo_16 : decode cX11_areTwo 16 = .ok (.iload_n 1, 1) := by decide +kernel
theorem dX11_areTwo_17 : decode cX11_areTwo 17 = .ok (.iload_n 2, 1) := by decide +kernel
theorem dX11_areTwo_18 : decode cX11_areTwo 18 = .ok (.if_icmp .eq 23, 3) := by decide +kernel
theorem dX11_areTwo_21 : decode cX11_areTwo 21 = .ok (.aload_n 0, 1) := by decide +kernel
theorem dX11_areTwo_22 : decode cX11_areTwo 22 = .ok (.iload_n 1, 1) := by decide +kernel
theorem dX11_areTwo_23 : decode cX11_areTwo 23 = .ok (.invokevirtual 348, 3) := by decide +kernel
theorem dX11_areTwo_26 : decode cX11_areTwo 26 = .ok (.ifCond .eq 15, 3) := by decide +kernel
theorem dX11_areTwo_29 : decode cX11_areTwo 29 = .ok (.aload_n 0, 1) := by decide +kernel
theorem dX11_areTwo_30 : decode cX11_areTwo 30 = .ok (.iload_n 2, 1) := by decide +kernel
theorem dX11_areTwo_31 : decode cX11_areTwo 31 = .ok (.invokevirtual 348, 3) := by decide +kernel
theorem dX11_areTwo_34 : decode cX11_areTwo 34 = .ok (.ifCond .eq 7, 3) := by decide +kernel
theorem dX11_areTwo_37 : decode cX11_areTwo 37 = .ok (.iconst 1, 1) := by decide +kernel
theorem dX11_areTwo_38 : decode cX11_areTwo 38 = .ok (.goto 4, 3) := by decide +kernel
theorem dX11_areTwo_41 : decode cX11_areTwo 41 = .ok (.iconst 0, 1) := by decide +kernel
theorem dX11_areTwo_42 : decode cX11_areTwo 42 = .ok (.ireturn, 1) := by decide +kernel
theorem dX11_change_0 : decode cX11_change 0 = .ok (.aload_n 0, 1) := by decide +kernel
theorem dX11_change_1 : decode cX11_change 1 = .ok (.invokevirtual 345, 3) := by decide +kernel
theorem dX11_change_4 : decode cX11_change 4 = .ok (.aload_n 0, 1) := by decide +kernel
theorem dX11_change_5 : decode cX11_change 5 = .ok (.iload_n 1, 1) := by decide +kernel
theorem dX11_change_6 : decode cX11_change 6 = .ok (.iload_n 2, 1) := by decide +kernel
theorem dX11_change_7 : decode cX11_change 7 = .ok (.invokevirtual 354, 3) := by decide +kernel
theorem dX11_change_10 : decode cX11_change 10 = .ok (.ifCond .ne 5, 3) := by decide +kernel
theorem dX11_change_13 : decode cX11_change 13 = .ok (.iconst 0, 1) := by decide +kernel
theorem dX11_change_14 : decode cX11_change 14 = .ok (.ireturn, 1) := by decide +kernel
theorem dX11_change_15 : decode cX11_change 15 = .ok (.aload_n 0, 1) := by decide +kernel
theorem dX11_change_16 : decode cX11_change 16 = .ok (.aload_n 0, 1) := by decide +kernel
theorem dX11_change_17 : decode cX11_change 17 = .ok (.iload_n 1, 1) := by decide +kernel
theorem dX11_change_18 : decode cX11_change 18 = .ok (.invokevirtual 293, 3) := by decide +kernel
theorem dX11_change_21 : decode cX11_change 21 = .ok (.aload_n 0, 1) := by decide +kernel
theorem dX11_change_22 : decode cX11_change 22 = .ok (.iload_n 2, 1) := by decide +kernel
theorem dX11_change_23 : decode cX11_change 23 = .ok (.invokevirtual 293, 3) := by decide +kernel
theorem dX11_change_26 : decode cX11_change 26 = .ok (.invokevirtual 358, 3) := by decide +kernel
theorem dX11_change_29 : decode cX11_change 29 = .ok (.aload_n 0, 1) := by decide +kernel
theorem dX11_change_30 : decode cX11_change 30 = .ok (.invokevirtual 361, 3) := by decide +kernel
theorem dX11_change_33 : decode cX11_change 33 = .ok (.ireturn, 1) := by decide +kernel
theorem dX11_go_0 : decode cX11_go 0 = .ok (.aload_n 0, 1) := by decide +kernel
theorem dX11_go_1 : decode cX11_go 1 = .ok (.invokevirtual 345, 3) := by decide +kernel
theorem dX11_go_4 : decode cX11_go 4 = .ok (.aload_n 0, 1) := by decide +kernel
theorem dX11_go_5 : decode cX11_go 5 = .ok (.iload_n 1, 1) := by decide +kernel
theorem dX11_go_6 : decode cX11_go 6 = .ok (.invokevirtual 342, 3) := by decide +kernel
theorem dX11_go_9 : decode cX11_go 9 = .ok (.ifCond .eq 38, 3) := by decide +kernel
theorem dX11_go_12 : decode cX11_go 12 = .ok (.aload_n 0, 1) := by decide +kernel
theorem dX11_go_13 : decode cX11_go 13 = .ok (.iload_n 1, 1) := by decide +kernel
theorem dX11_go_14 : decode cX11_go 14 = .ok (.invokevirtual 348, 3) := by decide +kernel
theorem dX11_go_17 : decode cX11_go 17 = .ok (.ifCond .eq 30, 3) := by decide +kernel
theorem dX11_go_20 : decode cX11_go 20 = .ok (.iload_n 2, 1) := by decide +kernel
theorem dX11_go_21 : decode cX11_go 21 = .ok (.iconst 0, 1) := by decide +kernel
theorem dX11_go_22 : decode cX11_go 22 = .ok (.aload_n 0, 1) := by decide +kernel
theorem dX11_go_23 : decode cX11_go 23 = .ok (.getfield 98, 3) := by decide +kernel
theorem dX11_go_26 : decode cX11_go 26 = .ok (.bipush 7, 2) := by decide +kernel
theorem dX11_go_28 : decode cX11_go 28 = .ok (.iaload, 1) := by decide +kernel
theorem dX11_go_29 : decode cX11_go 29 = .ok (.iconst 1, 1) := by decide +kernel
theorem dX11_go_30 : decode cX11_go 30 = .ok (.isub, 1) := by decide +kernel
theorem dX11_go_31 : decode cX11_go 31 = .ok (.invokestatic 282, 3) := by decide +kernel
theorem dX11_go_34 : decode cX11_go 34 = .ok (.ifCond .eq 13, 3) := by decide +kernel
theorem dX11_go_37 : decode cX11_go 37 = .ok (.aload_n 0, 1) := by decide +kernel
theorem dX11_go_38 : decode cX11_go 38 = .ok (.getfield 98, 3) := by decide +kernel
theorem dX11_go_41 : decode cX11_go 41 = .ok (.iload_n 2, 1) := by decide +kernel
theorem dX11_go_42 : decode cX11_go 42 = .ok (.iaload, 1) := by decide +kernel
theorem dX11_go_43 : decode cX11_go 43 = .ok (.iload_n 1, 1) := by decide +kernel
theorem dX11_go_44 : decode cX11_go 44 = .ok (.if_icmp .ne 5, 3) := by decide +kernel
theorem dX11_go_47 : decode cX11_go 47 = .ok (.iconst 0, 1) := by decide +kernel
theorem dX11_go_48 : decode cX11_go 48 = .ok (.ireturn, 1) := by decide +kernel
theorem dX11_go_49 : decode cX11_go 49 = .ok (.aload_n 0, 1) := by decide +kernel
theorem dX11_go_50 : decode cX11_go 50 = .ok (.aload_n 0, 1) := by decide +kernel
theorem dX11_go_51 : decode cX11_go 51 = .ok (.iload_n 1, 1) := by decide +kernel
theorem dX11_go_52 : decode cX11_go 52 = .ok (.invokevirtual 293, 3) := by decide +kernel
theorem dX11_go_55 : decode cX11_go 55 = .ok (.iload_n 2, 1) := by decide +kernel
theorem dX11_go_56 : decode cX11_go 56 = .ok (.invokevirtual 330, 3) := by decide +kernel
theorem dX11_go_59 : decode cX11_go 59 = .ok (.aload_n 0, 1) := by decide +kernel
theorem dX11_go_60 : decode cX11_go 60 = .ok (.invokevirtual 361, 3) := by decide +kernel
theorem dX11_go_63 : decode cX11_go 63 = .ok (.ireturn, 1) := by decide +kernel
theorem dX11_off_0 : decode cX11_off 0 = .ok (.aload_n 0, 1) := by decide +kernel
theorem dX11_off_1 : decode cX11_off 1 = .ok (.invokevirtual 345, 3) := by decide +kernel
theorem dX11_off_4 : decode cX11_off 4 = .ok (.aload_n 0, 1) := by decide +kernel
theorem dX11_off_5 : decode cX11_off 5 = .ok (.iload_n 1, 1) := by decide +kernel
theorem dX11_off_6 : decode cX11_off 6 = .ok (.invokevirtual 342, 3) := by decide +kernel
theorem dX11_off_9 : decode cX11_off 9 = .ok (.ifCond .eq 11, 3) := by decide +kernel
theorem dX11_off_12 : decode cX11_off 12 = .ok (.aload_n 0, 1) := by decide +kernel
theorem dX11_off_13 : decode cX11_off 13 = .ok (.iload_n 1, 1) := by decide +kernel
theorem dX11_off_14 : decode cX11_off 14 = .ok (.invokevirtual 348, 3) := by decide +kernel
theorem dX11_off_17 : decode cX11_off 17 = .ok (.ifCond .ne 5, 3) := by decide +kernel
theorem dX11_off_20 : decode cX11_off 20 = .ok (.iconst 0, 1) := by decide +kernel
theorem dX11_off_21 : decode cX11_off 21 = .ok (.ireturn, 1) := by decide +kernel
theorem dX11_off_22 : decode cX11_off 22 = .ok (.aload_n 0, 1) := by decide +kernel
theorem dX11_off_23 : decode cX11_off 23 = .ok (.aload_n 0, 1) := by decide +kernel
theorem dX11_off_24 : decode cX11_off 24 = .ok (.iload_n 1, 1) := by decide +kernel
theorem dX11_off_25 : decode cX11_off 25 = .ok (.invokevirtual 293, 3) := by decide +kernel
theorem dX11_off_28 : decode cX11_off 28 = .ok (.invokevirtual 365, 3) := by decide +kernel
theorem dX11_off_31 : decode cX11_off 31 = .ok (.aload_n 0, 1) := by decide +kernel
theorem dX11_off_32 : decode cX11_off 32 = .ok (.invokevirtual 361, 3) := by decide +kernel
theorem dX11_off_35 : decode cX11_off 35 = .ok (.ireturn, 1) := by decide +kernel
theorem dX11_on_0 : decode cX11_on 0 = .ok (.aload_n 0, 1) := by decide +kernel
theorem dX11_on_1 : decode cX11_on 1 = .ok (.invokevirtual 345, 3) := by decide +kernel
theorem dX11_on_4 : decode cX11_on 4 = .ok (.aload_n 0, 1) := by decide +kernel
theorem dX11_on_5 : decode cX11_on 5 = .ok (.iload_n 1, 1) := by decide +kernel
theorem dX11_on_6 : decode cX11_on 6 = .ok (.invokevirtual 342, 3) := by decide +kernel
theorem dX11_on_9 : decode cX11_on 9 = .ok (.ifCond .eq 11, 3) := by decide +kernel
theorem dX11_on_12 : decode cX11_on 12 = .ok (.aload_n 0, 1) := by decide +kernel
theorem dX11_on_13 : decode cX11_on 13 = .ok (.iload_n 1, 1) := by decide +kernel
theorem dX11_on_14 : decode cX11_on 14 = .ok (.invokevirtual 348, 3) := by decide +kernel
theorem dX11_on_17 : decode cX11_on 17 = .ok (.ifCond .eq 5, 3) := by decide +kernel
theorem dX11_on_20 : decode cX11_on 20 = .ok (.iconst 0, 1) := by decide +kernel
theorem dX11_on_21 : decode cX11_on 21 = .ok (.ireturn, 1) := by decide +kernel
theorem dX11_on_22 : decode cX11_on 22 = .ok (.aload_n 0, 1) := by decide +kernel
theorem dX11_on_23 : decode cX11_on 23 = .ok (.getfield 98, 3) := by decide +kernel
theorem dX11_on_26 : decode cX11_on 26 = .ok (.aload_n 0, 1) := by decide +kernel
theorem dX11_on_27 : decode cX11_on 27 = .ok (.getfield 98, 3) := by decide +kernel
theorem dX11_on_30 : decode cX11_on 30 = .ok (.bipush 7, 2) := by decide +kernel
theorem dX11_on_32 : decode cX11_on 32 = .ok (.iaload, 1) := by decide +kernel
theorem dX11_on_33 : decode cX11_on 33 = .ok (.iload_n 1, 1) := by decide +kernel
theorem dX11_on_34 : decode cX11_on 34 = .ok (.iastore, 1) := by decide +kernel
theorem dX11_on_35 : decode cX11_on 35 = .ok (.aload_n 0, 1) := by decide +kernel
theorem dX11_on_36 : decode cX11_on 36 = .ok (.getfield 98, 3) := by decide +kernel
theorem dX11_on_39 : decode cX11_on 39 = .ok (.bipush 7, 2) := by decide +kernel
theorem dX11_on_41 : decode cX11_on 41 = .ok (.dup2, 1) := by decide +kernel
theorem dX11_on_42 : decode cX11_on 42 = .ok (.iaload, 1) := by decide +kernel
theorem dX11_on_43 : decode cX11_on 43 = .ok (.iconst 1, 1) := by decide +kernel
theorem dX11_on_44 : decode cX11_on 44 = .ok (.iadd, 1) := by decide +kernel
theorem dX11_on_45 : decode cX11_on 45 = .ok (.iastore, 1) := by decide +kernel
theorem dX11_on_46 : decode cX11_on 46 = .ok (.aload_n 0, 1) := by decide +kernel
theorem dX11_on_47 : decode cX11_on 47 = .ok (.invokevirtual 361, 3) := by decide +kernel
theorem dX11_on_50 : decode cX11_on 50 = .ok (.ireturn, 1) := by decide +kernel
theorem dX11_plead_0 : decode cX11_plead 0 = .ok (.aload_n 0, 1) := by decide +kernel
theorem dX11_plead_1 : decode cX11_plead 1 = .ok (.invokevirtual 345, 3) := by decide +kernel
theorem dX11_plead_4 : decode cX11_plead 4 = .ok (.aload_n 0, 1) := by decide +kernel
theorem dX11_plead_5 : decode cX11_plead 5 = .ok (.iload_n 1, 1) := by decide +kernel
theorem dX11_plead_6 : decode cX11_plead 6 = .ok (.invokevirtual 342, 3) := by decide +kernel
theorem dX11_plead_9 : decode cX11_plead 9 = .ok (.ifCond .eq 36, 3) := by decide +kernel
theorem dX11_plead_12 : decode cX11_plead 12 = .ok (.aload_n 0, 1) := by decide +kernel
theorem dX11_plead_13 : decode cX11_plead 13 = .ok (.iload_n 1, 1) := by decide +kernel
theorem dX11_plead_14 : decode cX11_plead 14 = .ok (.invokevirtual 348, 3) := by decide +kernel
theorem dX11_plead_17 : decode cX11_plead 17 = .ok (.ifCond .eq 28, 3) := by decide +kernel
theorem dX11_plead_20 : decode cX11_plead 20 = .ok (.aload_n 0, 1) := by decide +kernel
theorem dX11_plead_21 : decode cX11_plead 21 = .ok (.iload_n 1, 1) := by decide +kernel
theorem dX11_plead_22 : decode cX11_plead 22 = .ok (.invokevirtual 302, 3) := by decide +kernel
theorem dX11_plead_25 : decode cX11_plead 25 = .ok (.ifCond .ne 20, 3) := by decide +kernel
theorem dX11_plead_28 : decode cX11_plead 28 = .ok (.aload_n 0, 1) := by decide +kernel
theorem dX11_plead_29 : decode cX11_plead 29 = .ok (.iload_n 1, 1) := by decide +kernel
theorem dX11_plead_30 : decode cX11_plead 30 = .ok (.invokevirtual 293, 3) := by decide +kernel
theorem dX11_plead_33 : decode cX11_plead 33 = .ok (.aload_n 0, 1) := by decide +kernel
theorem dX11_plead_34 : decode cX11_plead 34 = .ok (.getfield 98, 3) := by decide +kernel
theorem dX11_plead_37 : decode cX11_plead 37 = .ok (.bipush 7, 2) := by decide +kernel
theorem dX11_plead_39 : decode cX11_plead 39 = .ok (.iaload, 1) := by decide +kernel
theorem dX11_plead_40 : decode cX11_plead 40 = .ok (.iconst 1, 1) := by decide +kernel
theorem dX11_plead_41 : decode cX11_plead 41 = .ok (.isub, 1) := by decide +kernel
theorem dX11_plead_42 : decode cX11_plead 42 = .ok (.if_icmp .ne 5, 3) := by decide +kernel
theorem dX11_plead_45 : decode cX11_plead 45 = .ok (.iconst (-1), 1) := by decide +kernel
theorem dX11_plead_46 : decode cX11_plead 46 = .ok (.ireturn, 1) := by decide +kernel
theorem dX11_plead_47 : decode cX11_plead 47 = .ok (.aload_n 0, 1) := by decide +kernel
theorem dX11_plead_48 : decode cX11_plead 48 = .ok (.iload_n 1, 1) := by decide +kernel
theorem dX11_plead_49 : decode cX11_plead 49 = .ok (.invokevirtual 293, 3) := by decide +kernel
theorem dX11_plead_52 : decode cX11_plead 52 = .ok (.iconst 1, 1) := by decide +kernel
theorem dX11_plead_53 : decode cX11_plead 53 = .ok (.iadd, 1) := by decide +kernel
theorem dX11_plead_54 : decode cX11_plead 54 = .ok (.istore_n 2, 1) := by decide +kernel
theorem dX11_plead_55 : decode cX11_plead 55 = .ok (.aload_n 0, 1) := by decide +kernel
theorem dX11_plead_56 : decode cX11_plead 56 = .ok (.aload_n 0, 1) := by decide +kernel
theorem dX11_plead_57 : decode cX11_plead 57 = .ok (.getfield 98, 3) := by decide +kernel
theorem dX11_plead_60 : decode cX11_plead 60 = .ok (.iload_n 2, 1) := by decide +kernel
theorem dX11_plead_61 : decode cX11_plead 61 = .ok (.iaload, 1) := by decide +kernel
theorem dX11_plead_62 : decode cX11_plead 62 = .ok (.iload_n 2, 1) := by decide +kernel
theorem dX11_plead_63 : decode cX11_plead 63 = .ok (.aload_n 0, 1) := by decide +kernel
theorem dX11_plead_64 : decode cX11_plead 64 = .ok (.iload_n 1, 1) := by decide +kernel
theorem dX11_plead_65 : decode cX11_plead 65 = .ok (.invokevirtual 299, 3) := by decide +kernel
theorem dX11_plead_68 : decode cX11_plead 68 = .ok (.invokevirtual 351, 3) := by decide +kernel
theorem dX11_plead_71 : decode cX11_plead 71 = .ok (.istore_n 3, 1) := by decide +kernel
theorem dX11_plead_72 : decode cX11_plead 72 = .ok (.iload_n 3, 1) := by decide +kernel
theorem dX11_plead_73 : decode cX11_plead 73 = .ok (.aload_n 0, 1) := by decide +kernel
theorem dX11_plead_74 : decode cX11_plead 74 = .ok (.getfield 98, 3) := by decide +kernel
theorem dX11_plead_77 : decode cX11_plead 77 = .ok (.bipush 10, 2) := by decide +kernel
theorem dX11_plead_79 : decode cX11_plead 79 = .ok (.aload_n 0, 1) := by decide +kernel
theorem dX11_plead_80 : decode cX11_plead 80 = .ok (.getfield 98, 3) := by decide +kernel
theorem dX11_plead_83 : decode cX11_plead 83 = .ok (.iload_n 2, 1) := by decide +kernel
theorem dX11_plead_84 : decode cX11_plead 84 = .ok (.iaload, 1) := by decide +kernel
theorem dX11_plead_85 : decode cX11_plead 85 = .ok (.iadd, 1) := by decide +kernel
theorem dX11_plead_86 : decode cX11_plead 86 = .ok (.iaload, 1) := by decide +kernel
theorem dX11_plead_87 : decode cX11_plead 87 = .ok (.if_icmp .le 5, 3) := by decide +kernel
theorem dX11_plead_90 : decode cX11_plead 90 = .ok (.iconst (-1), 1) := by decide +kernel
theorem dX11_plead_91 : decode cX11_plead 91 = .ok (.ireturn, 1) := by decide +kernel
theorem dX11_plead_92 : decode cX11_plead 92 = .ok (.aload_n 0, 1) := by decide +kernel
theorem dX11_plead_93 : decode cX11_plead 93 = .ok (.getfield 98, 3) := by decide +kernel
theorem dX11_plead_96 : decode cX11_plead 96 = .ok (.bipush 10, 2) := by decide +kernel
theorem dX11_plead_98 : decode cX11_plead 98 = .ok (.aload_n 0, 1) := by decide +kernel
theorem dX11_plead_99 : decode cX11_plead 99 = .ok (.getfield 98, 3) := by decide +kernel
theorem dX11_plead_102 : decode cX11_plead 102 = .ok (.iload_n 2, 1) := by decide +kernel
theorem dX11_plead_103 : decode cX11_plead 103 = .ok (.iaload, 1) := by decide +kernel
theorem dX11_plead_104 : decode cX11_plead 104 = .ok (.iadd, 1) := by decide +kernel
theorem dX11_plead_105 : decode cX11_plead 105 = .ok (.dup2, 1) := by decide +kernel
theorem dX11_plead_106 : decode cX11_plead 106 = .ok (.iaload, 1) := by decide +kernel
theorem dX11_plead_107 : decode cX11_plead 107 = .ok (.iload_n 3, 1) := by decide +kernel
theorem dX11_plead_108 : decode cX11_plead 108 = .ok (.isub, 1) := by decide +kernel
theorem dX11_plead_109 : decode cX11_plead 109 = .ok (.iastore, 1) := by decide +kernel
theorem dX11_plead_110 : decode cX11_plead 110 = .ok (.aload_n 0, 1) := by decide +kernel
theorem dX11_plead_111 : decode cX11_plead 111 = .ok (.getfield 98, 3) := by decide +kernel
theorem dX11_plead_114 : decode cX11_plead 114 = .ok (.bipush 24, 2) := by decide +kernel
theorem dX11_plead_116 : decode cX11_plead 116 = .ok (.dup2, 1) := by decide +kernel
theorem dX11_plead_117 : decode cX11_plead 117 = .ok (.iaload, 1) := by decide +kernel
theorem dX11_plead_118 : decode cX11_plead 118 = .ok (.iconst 1, 1) := by decide +kernel
theorem dX11_plead_119 : decode cX11_plead 119 = .ok (.iload_n 1, 1) := by decide +kernel
theorem dX11_plead_120 : decode cX11_plead 120 = .ok (.ishl, 1) := by decide +kernel
theorem dX11_plead_121 : decode cX11_plead 121 = .ok (.ior, 1) := by decide +kernel
theorem dX11_plead_122 : decode cX11_plead 122 = .ok (.iastore, 1) := by decide +kernel
theorem dX11_plead_123 : decode cX11_plead 123 = .ok (.aload_n 0, 1) := by decide +kernel
theorem dX11_plead_124 : decode cX11_plead 124 = .ok (.invokevirtual 361, 3) := by decide +kernel
theorem dX11_plead_127 : decode cX11_plead 127 = .ok (.pop, 1) := by decide +kernel
theorem dX11_plead_128 : decode cX11_plead 128 = .ok (.iload_n 3, 1) := by decide +kernel
theorem dX11_plead_129 : decode cX11_plead 129 = .ok (.ireturn, 1) := by decide +kernel
theorem dX11_isLong_0 : decode cX11_isLong 0 = .ok (.iload_n 0, 1) := by decide +kernel
theorem dX11_isLong_1 : decode cX11_isLong 1 = .ok (.iconst 0, 1) := by decide +kernel
theorem dX11_isLong_2 : decode cX11_isLong 2 = .ok (.bipush 40, 2) := by decide +kernel
theorem dX11_isLong_4 : decode cX11_isLong 4 = .ok (.invokestatic 282, 3) := by decide +kernel
theorem dX11_isLong_7 : decode cX11_isLong 7 = .ok (.ireturn, 1) := by decide +kernel
theorem dX11_sessions_0 : decode cX11_sessions 0 = .ok (.iload_n 1, 1) := by decide +kernel
theorem dX11_sessions_1 : decode cX11_sessions 1 = .ok (.invokestatic 368, 3) := by decide +kernel
theorem dX11_sessions_4 : decode cX11_sessions 4 = .ok (.ifCond .ne 5, 3) := by decide +kernel
theorem dX11_sessions_7 : decode cX11_sessions 7 = .ok (.iconst (-1), 1) := by decide +kernel
theorem dX11_sessions_8 : decode cX11_sessions 8 = .ok (.ireturn, 1) := by decide +kernel
theorem dX11_sessions_9 : decode cX11_sessions 9 = .ok (.iload_n 1, 1) := by decide +kernel
theorem dX11_sessions_10 : decode cX11_sessions 10 = .ok (.ifCond .ne 11, 3) := by decide +kernel
theorem dX11_sessions_13 : decode cX11_sessions 13 = .ok (.aload_n 0, 1) := by decide +kernel
theorem dX11_sessions_14 : decode cX11_sessions 14 = .ok (.getfield 95, 3) := by decide +kernel
theorem dX11_sessions_17 : decode cX11_sessions 17 = .ok (.bipush 8, 2) := by decide +kernel
theorem dX11_sessions_19 : decode cX11_sessions 19 = .ok (.iaload, 1) := by decide +kernel
theorem dX11_sessions_20 : decode cX11_sessions 20 = .ok (.ireturn, 1) := by decide +kernel
theorem dX11_sessions_21 : decode cX11_sessions 21 = .ok (.aload_n 0, 1) := by decide +kernel
theorem dX11_sessions_22 : decode cX11_sessions 22 = .ok (.invokevirtual 345, 3) := by decide +kernel
theorem dX11_sessions_25 : decode cX11_sessions 25 = .ok (.aload_n 0, 1) := by decide +kernel
theorem dX11_sessions_26 : decode cX11_sessions 26 = .ok (.iload_n 1, 1) := by decide +kernel
theorem dX11_sessions_27 : decode cX11_sessions 27 = .ok (.invokevirtual 371, 3) := by decide +kernel
theorem dX11_sessions_30 : decode cX11_sessions 30 = .ok (.aload_n 0, 1) := by decide +kernel
theorem dX11_sessions_31 : decode cX11_sessions 31 = .ok (.invokevirtual 361, 3) := by decide +kernel
theorem dX11_sessions_34 : decode cX11_sessions 34 = .ok (.pop, 1) := by decide +kernel
theorem dX11_sessions_35 : decode cX11_sessions 35 = .ok (.aload_n 0, 1) := by decide +kernel
theorem dX11_sessions_36 : decode cX11_sessions 36 = .ok (.getfield 95, 3) := by decide +kernel
theorem dX11_sessions_39 : decode cX11_sessions 39 = .ok (.bipush 8, 2) := by decide +kernel
theorem dX11_sessions_41 : decode cX11_sessions 41 = .ok (.iaload, 1) := by decide +kernel
theorem dX11_sessions_42 : decode cX11_sessions 42 = .ok (.ireturn, 1) := by decide +kernel
theorem dX11_undo_0 : decode cX11_undo 0 = .ok (.aload_n 0, 1) := by decide +kernel
theorem dX11_undo_1 : decode cX11_undo 1 = .ok (.getfield 230, 3) := by decide +kernel
theorem dX11_undo_4 : decode cX11_undo 4 = .ok (.ifCond .ne 5, 3) := by decide +kernel
theorem dX11_undo_7 : decode cX11_undo 7 = .ok (.iconst 0, 1) := by decide +kernel
theorem dX11_undo_8 : decode cX11_undo 8 = .ok (.ireturn, 1) := by decide +kernel
theorem dX11_undo_9 : decode cX11_undo 9 = .ok (.aload_n 0, 1) := by decide +kernel
theorem dX11_undo_10 : decode cX11_undo 10 = .ok (.dup, 1) := by decide +kernel
theorem dX11_undo_11 : decode cX11_undo 11 = .ok (.getfield 230, 3) := by decide +kernel
theorem dX11_undo_14 : decode cX11_undo 14 = .ok (.iconst 1, 1) := by decide +kernel
theorem dX11_undo_15 : decode cX11_undo 15 = .ok (.isub, 1) := by decide +kernel
theorem dX11_undo_16 : decode cX11_undo 16 = .ok (.putfield 230, 3) := by decide +kernel
theorem dX11_undo_19 : decode cX11_undo 19 = .ok (.iconst 0, 1) := by decide +kernel
theorem dX11_undo_20 : decode cX11_undo 20 = .ok (.istore_n 1, 1) := by decide +kernel
theorem dX11_undo_21 : decode cX11_undo 21 = .ok (.iload_n 1, 1) := by decide +kernel
theorem dX11_undo_22 : decode cX11_undo 22 = .ok (.bipush 26, 2) := by decide +kernel
theorem dX11_undo_24 : decode cX11_undo 24 = .ok (.if_icmp .ge 29, 3) := by decide +kernel
theorem dX11_undo_27 : decode cX11_undo 27 = .ok (.aload_n 0, 1) := by decide +kernel
theorem dX11_undo_28 : decode cX11_undo 28 = .ok (.getfield 95, 3) := by decide +kernel
theorem dX11_undo_31 : decode cX11_undo 31 = .ok (.iload_n 1, 1) := by decide +kernel
theorem dX11_undo_32 : decode cX11_undo 32 = .ok (.aload_n 0, 1) := by decide +kernel
theorem dX11_undo_33 : decode cX11_undo 33 = .ok (.getfield 104, 3) := by decide +kernel
theorem dX11_undo_36 : decode cX11_undo 36 = .ok (.bipush 26, 2) := by decide +kernel
theorem dX11_undo_38 : decode cX11_undo 38 = .ok (.aload_n 0, 1) := by decide +kernel
theorem dX11_undo_39 : decode cX11_undo 39 = .ok (.getfield 230, 3) := by decide +kernel
theorem dX11_undo_42 : decode cX11_undo 42 = .ok (.imul, 1) := by decide +kernel
theorem dX11_undo_43 : decode cX11_undo 43 = .ok (.iload_n 1, 1) := by decide +kernel
theorem dX11_undo_44 : decode cX11_undo 44 = .ok (.iadd, 1) := by decide +kernel
theorem dX11_undo_45 : decode cX11_undo 45 = .ok (.iaload, 1) := by decide +kernel
theorem dX11_undo_46 : decode cX11_undo 46 = .ok (.iastore, 1) := by decide +kernel
theorem dX11_undo_47 : decode cX11_undo 47 = .ok (.iinc 1 1, 3) := by decide +kernel
theorem dX11_undo_50 : decode cX11_undo 50 = .ok (.goto (-29), 3) := by decide +kernel
theorem dX11_undo_53 : decode cX11_undo 53 = .ok (.iconst 1, 1) := by decide +kernel
theorem dX11_undo_54 : decode cX11_undo 54 = .ok (.ireturn, 1) := by decide +kernel
theorem dX11_firstOrder_0 : decode cX11_firstOrder 0 = .ok (.iconst 1, 1) := by decide +kernel
theorem dX11_firstOrder_1 : decode cX11_firstOrder 1 = .ok (.istore_n 1, 1) := by decide +kernel
theorem dX11_firstOrder_2 : decode cX11_firstOrder 2 = .ok (.iload_n 1, 1) := by decide +kernel
theorem dX11_firstOrder_3 : decode cX11_firstOrder 3 = .ok (.aload_n 0, 1) := by decide +kernel
theorem dX11_firstOrder_4 : decode cX11_firstOrder 4 = .ok (.getfield 98, 3) := by decide +kernel
theorem dX11_firstOrder_7 : decode cX11_firstOrder 7 = .ok (.bipush 7, 2) := by decide +kernel
theorem dX11_firstOrder_9 : decode cX11_firstOrder 9 = .ok (.iaload, 1) := by decide +kernel
theorem dX11_firstOrder_10 : decode cX11_firstOrder 10 = .ok (.if_icmp .ge 61, 3) := by decide +kernel
theorem dX11_firstOrder_13 : decode cX11_firstOrder 13 = .ok (.aload_n 0, 1) := by decide +kernel
theorem dX11_firstOrder_14 : decode cX11_firstOrder 14 = .ok (.getfield 98, 3) := by decide +kernel
theorem dX11_firstOrder_17 : decode cX11_firstOrder 17 = .ok (.iload_n 1, 1) := by decide +kernel
theorem dX11_firstOrder_18 : decode cX11_firstOrder 18 = .ok (.iaload, 1) := by decide +kernel
theorem dX11_firstOrder_19 : decode cX11_firstOrder 19 = .ok (.istore_n 2, 1) := by decide +kernel
theorem dX11_firstOrder_20 : decode cX11_firstOrder 20 = .ok (.iload_n 1, 1) := by decide +kernel
theorem dX11_firstOrder_21 : decode cX11_firstOrder 21 = .ok (.istore_n 3, 1) := by decide +kernel
theorem dX11_firstOrder_22 : decode cX11_firstOrder 22 = .ok (.iload_n 3, 1) := by decide +kernel
theorem dX11_firstOrder_23 : decode cX11_firstOrder 23 = .ok (.ifCond .le 35, 3) := by decide +kernel
theorem dX11_firstOrder_26 : decode cX11_firstOrder 26 = .ok (.aload_n 0, 1) := by decide +kernel
theorem dX11_firstOrder_27 : decode cX11_firstOrder 27 = .ok (.getfield 98, 3) := by decide +kernel
theorem dX11_firstOrder_30 : decode cX11_firstOrder 30 = .ok (.iload_n 3, 1) := by decide +kernel
theorem dX11_firstOrder_31 : decode cX11_firstOrder 31 = .ok (.iconst 1, 1) := by decide +kernel
theorem dX11_firstOrder_32 : decode cX11_firstOrder 32 = .ok (.isub, 1) := by decide +kernel
theorem dX11_firstOrder_33 : decode cX11_firstOrder 33 = .ok (.iaload, 1) := by decide +kernel
theorem dX11_firstOrder_34 : decode cX11_firstOrder 34 = .ok (.iload_n 2, 1) := by decide +kernel
theorem dX11_firstOrder_35 : decode cX11_firstOrder 35 = .ok (.if_icmp .le 23, 3) := by decide +kernel
theorem dX11_firstOrder_38 : decode cX11_firstOrder 38 = .ok (.aload_n 0, 1) := by decide +kernel
theorem dX11_firstOrder_39 : decode cX11_firstOrder 39 = .ok (.getfield 98, 3) := by decide +kernel
theorem dX11_firstOrder_42 : decode cX11_firstOrder 42 = .ok (.iload_n 3, 1) := by decide +kernel
theorem dX11_firstOrder_43 : decode cX11_firstOrder 43 = .ok (.aload_n 0, 1) := by decide +kernel
theorem dX11_firstOrder_44 : decode cX11_firstOrder 44 = .ok (.getfield 98, 3) := by decide +kernel
theorem dX11_firstOrder_47 : decode cX11_firstOrder 47 = .ok (.iload_n 3, 1) := by decide +kernel
theorem dX11_firstOrder_48 : decode cX11_firstOrder 48 = .ok (.iconst 1, 1) := by decide +kernel
theorem dX11_firstOrder_49 : decode cX11_firstOrder 49 = .ok (.isub, 1) := by decide +kernel
theorem dX11_firstOrder_50 : decode cX11_firstOrder 50 = .ok (.iaload, 1) := by decide +kernel
theorem dX11_firstOrder_51 : decode cX11_firstOrder 51 = .ok (.iastore, 1) := by decide +kernel
theorem dX11_firstOrder_52 : decode cX11_firstOrder 52 = .ok (.iinc 3 (-1), 3) := by decide +kernel
theorem dX11_firstOrder_55 : decode cX11_firstOrder 55 = .ok (.goto (-33), 3) := by decide +kernel
theorem dX11_firstOrder_58 : decode cX11_firstOrder 58 = .ok (.aload_n 0, 1) := by decide +kernel
theorem dX11_firstOrder_59 : decode cX11_firstOrder 59 = .ok (.getfield 98, 3) := by decide +kernel
theorem dX11_firstOrder_62 : decode cX11_firstOrder 62 = .ok (.iload_n 3, 1) := by decide +kernel
theorem dX11_firstOrder_63 : decode cX11_firstOrder 63 = .ok (.iload_n 2, 1) := by decide +kernel
theorem dX11_firstOrder_64 : decode cX11_firstOrder 64 = .ok (.iastore, 1) := by decide +kernel
theorem dX11_firstOrder_65 : decode cX11_firstOrder 65 = .ok (.iinc 1 1, 3) := by decide +kernel
theorem dX11_firstOrder_68 : decode cX11_firstOrder 68 = .ok (.goto (-66), 3) := by decide +kernel
theorem dX11_firstOrder_71 : decode cX11_firstOrder 71 = .ok (.return_, 1) := by decide +kernel
theorem dX11_nextOrder_0 : decode cX11_nextOrder 0 = .ok (.aload_n 0, 1) := by decide +kernel
theorem dX11_nextOrder_1 : decode cX11_nextOrder 1 = .ok (.getfield 98, 3) := by decide +kernel
theorem dX11_nextOrder_4 : decode cX11_nextOrder 4 = .ok (.bipush 7, 2) := by decide +kernel
theorem dX11_nextOrder_6 : decode cX11_nextOrder 6 = .ok (.iaload, 1) := by decide +kernel
theorem dX11_nextOrder_7 : decode cX11_nextOrder 7 = .ok (.iconst 2, 1) := by decide +kernel
theorem dX11_nextOrder_8 : decode cX11_nextOrder 8 = .ok (.isub, 1) := by decide +kernel
theorem dX11_nextOrder_9 : decode cX11_nextOrder 9 = .ok (.istore_n 1, 1) := by decide +kernel
theorem dX11_nextOrder_10 : decode cX11_nextOrder 10 = .ok (.iload_n 1, 1) := by decide +kernel
theorem dX11_nextOrder_11 : decode cX11_nextOrder 11 = .ok (.ifCond .lt 26, 3) := by decide +kernel
theorem dX11_nextOrder_14 : decode cX11_nextOrder 14 = .ok (.aload_n 0, 1) := by decide +kernel
theorem dX11_nextOrder_15 : decode cX11_nextOrder 15 = .ok (.getfield 98, 3) := by decide +kernel
theorem dX11_nextOrder_18 : decode cX11_nextOrder 18 = .ok (.iload_n 1, 1) := by decide +kernel
theorem dX11_nextOrder_19 : decode cX11_nextOrder 19 = .ok (.iaload, 1) := by decide +kernel
theorem dX11_nextOrder_20 : decode cX11_nextOrder 20 = .ok (.aload_n 0, 1) := by decide +kernel
theorem dX11_nextOrder_21 : decode cX11_nextOrder 21 = .ok (.getfield 98, 3) := by decide +kernel
theorem dX11_nextOrder_24 : decode cX11_nextOrder 24 = .ok (.iload_n 1, 1) := by decide +kernel
theorem dX11_nextOrder_25 : decode cX11_nextOrder 25 = .ok (.iconst 1, 1) := by decide +kernel
theorem dX11_nextOrder_26 : decode cX11_nextOrder 26 = .ok (.iadd, 1) := by decide +kernel
theorem dX11_nextOrder_27 : decode cX11_nextOrder 27 = .ok (.iaload, 1) := by decide +kernel
theorem dX11_nextOrder_28 : decode cX11_nextOrder 28 = .ok (.if_icmp .le 9, 3) := by decide +kernel
theorem dX11_nextOrder_31 : decode cX11_nextOrder 31 = .ok (.iinc 1 (-1), 3) := by decide +kernel
theorem dX11_nextOrder_34 : decode cX11_nextOrder 34 = .ok (.goto (-24), 3) := by decide +kernel
theorem dX11_nextOrder_37 : decode cX11_nextOrder 37 = .ok (.iload_n 1, 1) := by decide +kernel
theorem dX11_nextOrder_38 : decode cX11_nextOrder 38 = .ok (.ifCond .ge 5, 3) := by decide +kernel
theorem dX11_nextOrder_41 : decode cX11_nextOrder 41 = .ok (.iconst 0, 1) := by decide +kernel
theorem dX11_nextOrder_42 : decode cX11_nextOrder 42 = .ok (.ireturn, 1) := by decide +kernel
theorem dX11_nextOrder_43 : decode cX11_nextOrder 43 = .ok (.aload_n 0, 1) := by decide +kernel
theorem dX11_nextOrder_44 : decode cX11_nextOrder 44 = .ok (.getfield 98, 3) := by decide +kernel
theorem dX11_nextOrder_47 : decode cX11_nextOrder 47 = .ok (.bipush 7, 2) := by decide +kernel
theorem dX11_nextOrder_49 : decode cX11_nextOrder 49 = .ok (.iaload, 1) := by decide +kernel
theorem dX11_nextOrder_50 : decode cX11_nextOrder 50 = .ok (.iconst 1, 1) := by decide +kernel
theorem dX11_nextOrder_51 : decode cX11_nextOrder 51 = .ok (.isub, 1) := by decide +kernel
theorem dX11_nextOrder_52 : decode cX11_nextOrder 52 = .ok (.istore_n 2, 1) := by decide +kernel
theorem dX11_nextOrder_53 : decode cX11_nextOrder 53 = .ok (.aload_n 0, 1) := by decide +kernel
theorem dX11_nextOrder_54 : decode cX11_nextOrder 54 = .ok (.getfield 98, 3) := by decide +kernel
theorem dX11_nextOrder_57 : decode cX11_nextOrder 57 = .ok (.iload_n 2, 1) := by decide +kernel
theorem dX11_nextOrder_58 : decode cX11_nextOrder 58 = .ok (.iaload, 1) := by decide +kernel
theorem dX11_nextOrder_59 : decode cX11_nextOrder 59 = .ok (.aload_n 0, 1) := by decide +kernel
theorem dX11_nextOrder_60 : decode cX11_nextOrder 60 = .ok (.getfield 98, 3) := by decide +kernel
theorem dX11_nextOrder_63 : decode cX11_nextOrder 63 = .ok (.iload_n 1, 1) := by decide +kernel
theorem dX11_nextOrder_64 : decode cX11_nextOrder 64 = .ok (.iaload, 1) := by decide +kernel
theorem dX11_nextOrder_65 : decode cX11_nextOrder 65 = .ok (.if_icmp .ge 9, 3) := by decide +kernel
theorem dX11_nextOrder_68 : decode cX11_nextOrder 68 = .ok (.iinc 2 (-1), 3) := by decide +kernel
theorem dX11_nextOrder_71 : decode cX11_nextOrder 71 = .ok (.goto (-18), 3) := by decide +kernel
theorem dX11_nextOrder_74 : decode cX11_nextOrder 74 = .ok (.aload_n 0, 1) := by decide +kernel
theorem dX11_nextOrder_75 : decode cX11_nextOrder 75 = .ok (.iload_n 1, 1) := by decide +kernel
theorem dX11_nextOrder_76 : decode cX11_nextOrder 76 = .ok (.iload_n 2, 1) := by decide +kernel
theorem dX11_nextOrder_77 : decode cX11_nextOrder 77 = .ok (.invokevirtual 358, 3) := by decide +kernel
theorem dX11_nextOrder_80 : decode cX11_nextOrder 80 = .ok (.iload_n 1, 1) := by decide +kernel
theorem dX11_nextOrder_81 : decode cX11_nextOrder 81 = .ok (.iconst 1, 1) := by decide +kernel
theorem dX11_nextOrder_82 : decode cX11_nextOrder 82 = .ok (.iadd, 1) := by decide +kernel
theorem dX11_nextOrder_83 : decode cX11_nextOrder 83 = .ok (.istore_n 3, 1) := by decide +kernel
theorem dX11_nextOrder_84 : decode cX11_nextOrder 84 = .ok (.aload_n 0, 1) := by decide +kernel
theorem dX11_nextOrder_85 : decode cX11_nextOrder 85 = .ok (.getfield 98, 3) := by decide +kernel
theorem dX11_nextOrder_88 : decode cX11_nextOrder 88 = .ok (.bipush 7, 2) := by decide +kernel
theorem dX11_nextOrder_90 : decode cX11_nextOrder 90 = .ok (.iaload, 1) := by decide +kernel
theorem dX11_nextOrder_91 : decode cX11_nextOrder 91 = .ok (.iconst 1, 1) := by decide +kernel
theorem dX11_nextOrder_92 : decode cX11_nextOrder 92 = .ok (.isub, 1) := by decide +kernel
theorem dX11_nextOrder_93 : decode cX11_nextOrder 93 = .ok (.istore 4, 2) := by decide +kernel
theorem dX11_nextOrder_95 : decode cX11_nextOrder 95 = .ok (.iload_n 3, 1) := by decide +kernel
theorem dX11_nextOrder_96 : decode cX11_nextOrder 96 = .ok (.iload 4, 2) := by decide +kernel
theorem dX11_nextOrder_98 : decode cX11_nextOrder 98 = .ok (.if_icmp .ge 19, 3) := by decide +kernel
theorem dX11_nextOrder_101 : decode cX11_nextOrder 101 = .ok (.aload_n 0, 1) := by decide +kernel
theorem dX11_nextOrder_102 : decode cX11_nextOrder 102 = .ok (.iload_n 3, 1) := by decide +kernel
theorem dX11_nextOrder_103 : decode cX11_nextOrder 103 = .ok (.iload 4, 2) := by decide +kernel
theorem dX11_nextOrder_105 : decode cX11_nextOrder 105 = .ok (.invokevirtual 358, 3) := by decide +kernel
theorem dX11_nextOrder_108 : decode cX11_nextOrder 108 = .ok (.iinc 3 1, 3) := by decide +kernel
theorem dX11_nextOrder_111 : decode cX11_nextOrder 111 = .ok (.iinc 4 (-1), 3) := by decide +kernel
theorem dX11_nextOrder_114 : decode cX11_nextOrder 114 = .ok (.goto (-19), 3) := by decide +kernel
theorem dX11_nextOrder_117 : decode cX11_nextOrder 117 = .ok (.iconst 1, 1) := by decide +kernel
theorem dX11_nextOrder_118 : decode cX11_nextOrder 118 = .ok (.ireturn, 1) := by decide +kernel
theorem dX11_byGoal_0 : decode cX11_byGoal 0 = .ok (.iload_n 1, 1) := by decide +kernel
theorem dX11_byGoal_1 : decode cX11_byGoal 1 = .ok (.ifCond .ne 10, 3) := by decide +kernel
theorem dX11_byGoal_4 : decode cX11_byGoal 4 = .ok (.aload_n 0, 1) := by decide +kernel
theorem dX11_byGoal_5 : decode cX11_byGoal 5 = .ok (.invokevirtual 374, 3) := by decide +kernel
theorem dX11_byGoal_8 : decode cX11_byGoal 8 = .ok (.goto 32, 3) := by decide +kernel
theorem dX11_byGoal_11 : decode cX11_byGoal 11 = .ok (.iload_n 1, 1) := by decide +kernel
theorem dX11_byGoal_12 : decode cX11_byGoal 12 = .ok (.iconst 1, 1) := by decide +kernel
theorem dX11_byGoal_13 : decode cX11_byGoal 13 = .ok (.if_icmp .ne 11, 3) := by decide +kernel
theorem dX11_byGoal_16 : decode cX11_byGoal 16 = .ok (.aload_n 0, 1) := by decide +kernel
theorem dX11_byGoal_17 : decode cX11_byGoal 17 = .ok (.invokevirtual 374, 3) := by decide +kernel
theorem dX11_byGoal_20 : decode cX11_byGoal 20 = .ok (.ineg, 1) := by decide +kernel
theorem dX11_byGoal_21 : decode cX11_byGoal 21 = .ok (.goto 19, 3) := by decide +kernel
theorem dX11_byGoal_24 : decode cX11_byGoal 24 = .ok (.iload_n 1, 1) := by decide +kernel
theorem dX11_byGoal_25 : decode cX11_byGoal 25 = .ok (.iconst 2, 1) := by decide +kernel
theorem dX11_byGoal_26 : decode cX11_byGoal 26 = .ok (.if_icmp .ne 10, 3) := by decide +kernel
theorem dX11_byGoal_29 : decode cX11_byGoal 29 = .ok (.aload_n 0, 1) := by decide +kernel
theorem dX11_byGoal_30 : decode cX11_byGoal 30 = .ok (.invokevirtual 378, 3) := by decide +kernel
theorem dX11_byGoal_33 : decode cX11_byGoal 33 = .ok (.goto 7, 3) := by decide +kernel
theorem dX11_byGoal_36 : decode cX11_byGoal 36 = .ok (.aload_n 0, 1) := by decide +kernel
theorem dX11_byGoal_37 : decode cX11_byGoal 37 = .ok (.invokevirtual 381, 3) := by decide +kernel
theorem dX11_byGoal_40 : decode cX11_byGoal 40 = .ok (.ireturn, 1) := by decide +kernel
theorem dX11_bestOf_0 : decode cX11_bestOf 0 = .ok (.aload_n 0, 1) := by decide +kernel
theorem dX11_bestOf_1 : decode cX11_bestOf 1 = .ok (.invokevirtual 345, 3) := by decide +kernel
theorem dX11_bestOf_4 : decode cX11_bestOf 4 = .ok (.aload_n 0, 1) := by decide +kernel
theorem dX11_bestOf_5 : decode cX11_bestOf 5 = .ok (.invokevirtual 384, 3) := by decide +kernel
theorem dX11_bestOf_8 : decode cX11_bestOf 8 = .ok (.iconst 0, 1) := by decide +kernel
theorem dX11_bestOf_9 : decode cX11_bestOf 9 = .ok (.istore_n 2, 1) := by decide +kernel
theorem dX11_bestOf_10 : decode cX11_bestOf 10 = .ok (.aload_n 0, 1) := by decide +kernel
theorem dX11_bestOf_11 : decode cX11_bestOf 11 = .ok (.iconst 0, 1) := by decide +kernel
theorem dX11_bestOf_12 : decode cX11_bestOf 12 = .ok (.putfield 387, 3) := by decide +kernel
theorem dX11_bestOf_15 : decode cX11_bestOf 15 = .ok (.iconst 1, 1) := by decide +kernel
theorem dX11_bestOf_16 : decode cX11_bestOf 16 = .ok (.istore_n 3, 1) := by decide +kernel
theorem dX11_bestOf_17 : decode cX11_bestOf 17 = .ok (.iload_n 3, 1) := by decide +kernel
theorem dX11_bestOf_18 : decode cX11_bestOf 18 = .ok (.ifCond .eq 85, 3) := by decide +kernel
theorem dX11_bestOf_21 : decode cX11_bestOf 21 = .ok (.aload_n 0, 1) := by decide +kernel
theorem dX11_bestOf_22 : decode cX11_bestOf 22 = .ok (.iload_n 1, 1) := by decide +kernel
theorem dX11_bestOf_23 : decode cX11_bestOf 23 = .ok (.invokevirtual 390, 3) := by decide +kernel
theorem dX11_bestOf_26 : decode cX11_bestOf 26 = .ok (.istore 4, 2) := by decide +kernel
theorem dX11_bestOf_28 : decode cX11_bestOf 28 = .ok (.aload_n 0, 1) := by decide +kernel
theorem dX11_bestOf_29 : decode cX11_bestOf 29 = .ok (.getfield 387, 3) := by decide +kernel
theorem dX11_bestOf_32 : decode cX11_bestOf 32 = .ok (.ifCond .eq 9, 3) := by decide +kernel
theorem dX11_bestOf_35 : decode cX11_bestOf 35 = .ok (.iload 4, 2) := by decide +kernel
theorem dX11_bestOf_37 : decode cX11_bestOf 37 = .ok (.iload_n 2, 1) := by decide +kernel
theorem dX11_bestOf_38 : decode cX11_bestOf 38 = .ok (.if_icmp .ge 41, 3) := by decide +kernel
theorem dX11_bestOf_41 : decode cX11_bestOf 41 = .ok (.iload 4, 2) := by decide +kernel
theorem dX11_bestOf_43 : decode cX11_bestOf 43 = .ok (.istore_n 2, 1) := by decide +kernel
theorem dX11_bestOf_44 : decode cX11_bestOf 44 = .ok (.aload_n 0, 1) := by decide +kernel
theorem dX11_bestOf_45 : decode cX11_bestOf 45 = .ok (.iconst 0, 1) := by decide +kernel
theorem dX11_bestOf_46 : decode cX11_bestOf 46 = .ok (.putfield 387, 3) := by decide +kernel
theorem dX11_bestOf_49 : decode cX11_bestOf 49 = .ok (.iconst 0, 1) := by decide +kernel
theorem dX11_bestOf_50 : decode cX11_bestOf 50 = .ok (.istore 5, 2) := by decide +kernel
theorem dX11_bestOf_52 : decode cX11_bestOf 52 = .ok (.iload 5, 2) := by decide +kernel
theorem dX11_bestOf_54 : decode cX11_bestOf 54 = .ok (.bipush 7, 2) := by decide +kernel
theorem dX11_bestOf_56 : decode cX11_bestOf 56 = .ok (.if_icmp .ge 23, 3) := by decide +kernel
theorem dX11_bestOf_59 : decode cX11_bestOf 59 = .ok (.aload_n 0, 1) := by decide +kernel
theorem dX11_bestOf_60 : decode cX11_bestOf 60 = .ok (.getfield 107, 3) := by decide +kernel
theorem dX11_bestOf_63 : decode cX11_bestOf 63 = .ok (.iload 5, 2) := by decide +kernel
theorem dX11_bestOf_65 : decode cX11_bestOf 65 = .ok (.aload_n 0, 1) := by decide +kernel
theorem dX11_bestOf_66 : decode cX11_bestOf 66 = .ok (.getfield 98, 3) := by decide +kernel
theorem dX11_bestOf_69 : decode cX11_bestOf 69 = .ok (.iload 5, 2) := by decide +kernel
theorem dX11_bestOf_71 : decode cX11_bestOf 71 = .ok (.iaload, 1) := by decide +kernel
theorem dX11_bestOf_72 : decode cX11_bestOf 72 = .ok (.iastore, 1) := by decide +kernel
theorem dX11_bestOf_73 : decode cX11_bestOf 73 = .ok (.iinc 5 1, 3) := by decide +kernel
theorem dX11_bestOf_76 : decode cX11_bestOf 76 = .ok (.goto (-24), 3) := by decide +kernel
theorem dX11_bestOf_79 : decode cX11_bestOf 79 = .ok (.iload 4, 2) := by decide +kernel
theorem dX11_bestOf_81 : decode cX11_bestOf 81 = .ok (.iload_n 2, 1) := by decide +kernel
theorem dX11_bestOf_82 : decode cX11_bestOf 82 = .ok (.if_icmp .ne 13, 3) := by decide +kernel
theorem dX11_bestOf_85 : decode cX11_bestOf 85 = .ok (.aload_n 0, 1) := by decide +kernel
theorem dX11_bestOf_86 : decode cX11_bestOf 86 = .ok (.dup, 1) := by decide +kernel
theorem dX11_bestOf_87 : decode cX11_bestOf 87 = .ok (.getfield 387, 3) := by decide +kernel
theorem dX11_bestOf_90 : decode cX11_bestOf 90 = .ok (.iconst 1, 1) := by decide +kernel
theorem dX11_bestOf_91 : decode cX11_bestOf 91 = .ok (.iadd, 1) := by decide +kernel
theorem dX11_bestOf_92 : decode cX11_bestOf 92 = .ok (.putfield 387, 3) := by decide +kernel
theorem dX11_bestOf_95 : decode cX11_bestOf 95 = .ok (.aload_n 0, 1) := by decide +kernel
theorem dX11_bestOf_96 : decode cX11_bestOf 96 = .ok (.invokevirtual 393, 3) := by decide +kernel
theorem dX11_bestOf_99 : decode cX11_bestOf 99 = .ok (.istore_n 3, 1) := by decide +kernel
theorem dX11_bestOf_100 : decode cX11_bestOf 100 = .ok (.goto (-83), 3) := by decide +kernel
theorem dX11_bestOf_103 : decode cX11_bestOf 103 = .ok (.iload_n 1, 1) := by decide +kernel
theorem dX11_bestOf_104 : decode cX11_bestOf 104 = .ok (.iconst 1, 1) := by decide +kernel
theorem dX11_bestOf_105 : decode cX11_bestOf 105 = .ok (.if_icmp .ne 8, 3) := by decide +kernel
theorem dX11_bestOf_108 : decode cX11_bestOf 108 = .ok (.iload_n 2, 1) := by decide +kernel
theorem dX11_bestOf_109 : decode cX11_bestOf 109 = .ok (.ineg, 1) := by decide +kernel
theorem dX11_bestOf_110 : decode cX11_bestOf 110 = .ok (.goto 4, 3) := by decide +kernel
theorem dX11_bestOf_113 : decode cX11_bestOf 113 = .ok (.iload_n 2, 1) := by decide +kernel
theorem dX11_bestOf_114 : decode cX11_bestOf 114 = .ok (.ireturn, 1) := by decide +kernel
theorem dX11_best_0 : decode cX11_best 0 = .ok (.iload_n 1, 1) := by decide +kernel
theorem dX11_best_1 : decode cX11_best 1 = .ok (.iconst 0, 1) := by decide +kernel
theorem dX11_best_2 : decode cX11_best 2 = .ok (.iconst 3, 1) := by decide +kernel
theorem dX11_best_3 : decode cX11_best 3 = .ok (.invokestatic 282, 3) := by decide +kernel
theorem dX11_best_6 : decode cX11_best 6 = .ok (.ifCond .eq 20, 3) := by decide +kernel
theorem dX11_best_9 : decode cX11_best 9 = .ok (.iload_n 2, 1) := by decide +kernel
theorem dX11_best_10 : decode cX11_best 10 = .ok (.bipush (-2), 2) := by decide +kernel
theorem dX11_best_12 : decode cX11_best 12 = .ok (.if_icmp .lt 14, 3) := by decide +kernel
theorem dX11_best_15 : decode cX11_best 15 = .ok (.iload_n 2, 1) := by decide +kernel
theorem dX11_best_16 : decode cX11_best 16 = .ok (.aload_n 0, 1) := by decide +kernel
theorem dX11_best_17 : decode cX11_best 17 = .ok (.getfield 95, 3) := by decide +kernel
theorem dX11_best_20 : decode cX11_best 20 = .ok (.bipush 7, 2) := by decide +kernel
theorem dX11_best_22 : decode cX11_best 22 = .ok (.iaload, 1) := by decide +kernel
theorem dX11_best_23 : decode cX11_best 23 = .ok (.if_icmp .lt 5, 3) := by decide +kernel
theorem dX11_best_26 : decode cX11_best 26 = .ok (.iconst (-1), 1) := by decide +kernel
theorem dX11_best_27 : decode cX11_best 27 = .ok (.ireturn, 1) := by decide +kernel
theorem dX11_best_28 : decode cX11_best 28 = .ok (.aload_n 0, 1) := by decide +kernel
theorem dX11_best_29 : decode cX11_best 29 = .ok (.iload_n 1, 1) := by decide +kernel
theorem dX11_best_30 : decode cX11_best 30 = .ok (.invokevirtual 396, 3) := by decide +kernel
theorem dX11_best_33 : decode cX11_best 33 = .ok (.istore_n 3, 1) := by decide +kernel
theorem dX11_best_34 : decode cX11_best 34 = .ok (.iload_n 2, 1) := by decide +kernel
theorem dX11_best_35 : decode cX11_best 35 = .ok (.iconst (-1), 1) := by decide +kernel
theorem dX11_best_36 : decode cX11_best 36 = .ok (.if_icmp .ne 7, 3) := by decide +kernel
theorem dX11_best_39 : decode cX11_best 39 = .ok (.iload_n 3, 1) := by decide +kernel
theorem dX11_best_40 : decode cX11_best 40 = .ok (.goto 22, 3) := by decide +kernel
theorem dX11_best_43 : decode cX11_best 43 = .ok (.iload_n 2, 1) := by decide +kernel
theorem dX11_best_44 : decode cX11_best 44 = .ok (.bipush (-2), 2) := by decide +kernel
theorem dX11_best_46 : decode cX11_best 46 = .ok (.if_icmp .ne 10, 3) := by decide +kernel
theorem dX11_best_49 : decode cX11_best 49 = .ok (.aload_n 0, 1) := by decide +kernel
theorem dX11_best_50 : decode cX11_best 50 = .ok (.getfield 387, 3) := by decide +kernel
theorem dX11_best_53 : decode cX11_best 53 = .ok (.goto 9, 3) := by decide +kernel
theorem dX11_best_56 : decode cX11_best 56 = .ok (.aload_n 0, 1) := by decide +kernel
theorem dX11_best_57 : decode cX11_best 57 = .ok (.getfield 107, 3) := by decide +kernel
theorem dX11_best_60 : decode cX11_best 60 = .ok (.iload_n 2, 1) := by decide +kernel
theorem dX11_best_61 : decode cX11_best 61 = .ok (.iaload, 1) := by decide +kernel
theorem dX11_best_62 : decode cX11_best 62 = .ok (.ireturn, 1) := by decide +kernel
theorem dX11_doTrade_0 : decode cX11_doTrade 0 = .ok (.aload_n 0, 1) := by decide +kernel
theorem dX11_doTrade_1 : decode cX11_doTrade 1 = .ok (.iload_n 1, 1) := by decide +kernel
theorem dX11_doTrade_2 : decode cX11_doTrade 2 = .ok (.invokevirtual 324, 3) := by decide +kernel
theorem dX11_doTrade_5 : decode cX11_doTrade 5 = .ok (.istore_n 3, 1) := by decide +kernel
theorem dX11_doTrade_6 : decode cX11_doTrade 6 = .ok (.aload_n 0, 1) := by decide +kernel
theorem dX11_doTrade_7 : decode cX11_doTrade 7 = .ok (.iload_n 2, 1) := by decide +kernel
theorem dX11_doTrade_8 : decode cX11_doTrade 8 = .ok (.invokevirtual 324, 3) := by decide +kernel
theorem dX11_doTrade_11 : decode cX11_doTrade 11 = .ok (.istore 4, 2) := by decide +kernel
theorem dX11_doTrade_13 : decode cX11_doTrade 13 = .ok (.aload_n 0, 1) := by decide +kernel
theorem dX11_doTrade_14 : decode cX11_doTrade 14 = .ok (.iload_n 1, 1) := by decide +kernel
theorem dX11_doTrade_15 : decode cX11_doTrade 15 = .ok (.iload_n 2, 1) := by decide +kernel
theorem dX11_doTrade_16 : decode cX11_doTrade 16 = .ok (.invokevirtual 358, 3) := by decide +kernel
theorem dX11_doTrade_19 : decode cX11_doTrade 19 = .ok (.aload_n 0, 1) := by decide +kernel
theorem dX11_doTrade_20 : decode cX11_doTrade 20 = .ok (.iload_n 2, 1) := by decide +kernel
theorem dX11_doTrade_21 : decode cX11_doTrade 21 = .ok (.invokevirtual 324, 3) := by decide +kernel
theorem dX11_doTrade_24 : decode cX11_doTrade 24 = .ok (.iload_n 3, 1) := by decide +kernel
theorem dX11_doTrade_25 : decode cX11_doTrade 25 = .ok (.if_icmp .ge 17, 3) := by decide +kernel
theorem dX11_doTrade_28 : decode cX11_doTrade 28 = .ok (.aload_n 0, 1) := by decide +kernel
theorem dX11_doTrade_29 : decode cX11_doTrade 29 = .ok (.iload_n 1, 1) := by decide +kernel
theorem dX11_doTrade_30 : decode cX11_doTrade 30 = .ok (.invokevirtual 324, 3) := by decide +kernel
theorem dX11_doTrade_33 : decode cX11_doTrade 33 = .ok (.iload 4, 2) := by decide +kernel
theorem dX11_doTrade_35 : decode cX11_doTrade 35 = .ok (.if_icmp .ge 7, 3) := by decide +kernel
theorem dX11_doTrade_38 : decode cX11_doTrade 38 = .ok (.iconst 1, 1) := by decide +kernel
theorem dX11_doTrade_39 : decode cX11_doTrade 39 = .ok (.goto 4, 3) := by decide +kernel
theorem dX11_doTrade_42 : decode cX11_doTrade 42 = .ok (.iconst 0, 1) := by decide +kernel
theorem dX11_doTrade_43 : decode cX11_doTrade 43 = .ok (.istore 5, 2) := by decide +kernel
theorem dX11_doTrade_45 : decode cX11_doTrade 45 = .ok (.aload_n 0, 1) := by decide +kernel
theorem dX11_doTrade_46 : decode cX11_doTrade 46 = .ok (.iload_n 1, 1) := by decide +kernel
theorem dX11_doTrade_47 : decode cX11_doTrade 47 = .ok (.iload_n 2, 1) := by decide +kernel
theorem dX11_doTrade_48 : decode cX11_doTrade 48 = .ok (.invokevirtual 358, 3) := by decide +kernel
theorem dX11_doTrade_51 : decode cX11_doTrade 51 = .ok (.iload 5, 2) := by decide +kernel
theorem dX11_doTrade_53 : decode cX11_doTrade 53 = .ok (.ireturn, 1) := by decide +kernel
theorem dX11_tradersOf_0 : decode cX11_tradersOf 0 = .ok (.iconst 0, 1) := by decide +kernel
theorem dX11_tradersOf_1 : decode cX11_tradersOf 1 = .ok (.istore_n 2, 1) := by decide +kernel
theorem dX11_tradersOf_2 : decode cX11_tradersOf 2 = .ok (.aload_n 0, 1) := by decide +kernel
theorem dX11_tradersOf_3 : decode cX11_tradersOf 3 = .ok (.iload_n 1, 1) := by decide +kernel
theorem dX11_tradersOf_4 : decode cX11_tradersOf 4 = .ok (.invokevirtual 293, 3) := by decide +kernel
theorem dX11_tradersOf_7 : decode cX11_tradersOf 7 = .ok (.istore_n 3, 1) := by decide +kernel
theorem dX11_tradersOf_8 : decode cX11_tradersOf 8 = .ok (.iconst 0, 1) := by decide +kernel
theorem dX11_tradersOf_9 : decode cX11_tradersOf 9 = .ok (.istore 4, 2) := by decide +kernel
theorem dX11_tradersOf_11 : decode cX11_tradersOf 11 = .ok (.iload 4, 2) := by decide +kernel
theorem dX11_tradersOf_13 : decode cX11_tradersOf 13 = .ok (.aload_n 0, 1) := by decide +kernel
theorem dX11_tradersOf_14 : decode cX11_tradersOf 14 = .ok (.getfield 98, 3) := by decide +kernel
theorem dX11_tradersOf_17 : decode cX11_tradersOf 17 = .ok (.bipush 7, 2) := by decide +kernel
theorem dX11_tradersOf_19 : decode cX11_tradersOf 19 = .ok (.iaload, 1) := by decide +kernel
theorem dX11_tradersOf_20 : decode cX11_tradersOf 20 = .ok (.if_icmp .ge 37, 3) := by decide +kernel
theorem dX11_tradersOf_23 : decode cX11_tradersOf 23 = .ok (.iload 4, 2) := by decide +kernel
theorem dX11_tradersOf_25 : decode cX11_tradersOf 25 = .ok (.iload_n 3, 1) := by decide +kernel
theorem dX11_tradersOf_26 : decode cX11_tradersOf 26 = .ok (.if_icmp .eq 25, 3) := by decide +kernel
theorem dX11_tradersOf_29 : decode cX11_tradersOf 29 = .ok (.aload_n 0, 1) := by decide +kernel
theorem dX11_tradersOf_30 : decode cX11_tradersOf 30 = .ok (.iload_n 3, 1) := by decide +kernel
theorem dX11_tradersOf_31 : decode cX11_tradersOf 31 = .ok (.iload 4, 2) := by decide +kernel
theorem dX11_tradersOf_33 : decode cX11_tradersOf 33 = .ok (.invokevirtual 399, 3) := by decide +kernel
theorem dX11_tradersOf_36 : decode cX11_tradersOf 36 = .ok (.ifCond .eq 15, 3) := by decide +kernel
theorem dX11_tradersOf_39 : decode cX11_tradersOf 39 = .ok (.iload_n 2, 1) := by decide +kernel
theorem dX11_tradersOf_40 : decode cX11_tradersOf 40 = .ok (.iconst 1, 1) := by decide +kernel
theorem dX11_tradersOf_41 : decode cX11_tradersOf 41 = .ok (.aload_n 0, 1) := by decide +kernel
theorem dX11_tradersOf_42 : decode cX11_tradersOf 42 = .ok (.getfield 98, 3) := by decide +kernel
theorem dX11_tradersOf_45 : decode cX11_tradersOf 45 = .ok (.iload 4, 2) := by decide +kernel
theorem dX11_tradersOf_47 : decode cX11_tradersOf 47 = .ok (.iaload, 1) := by decide +kernel
theorem dX11_tradersOf_48 : decode cX11_tradersOf 48 = .ok (.ishl, 1) := by decide +kernel
theorem dX11_tradersOf_49 : decode cX11_tradersOf 49 = .ok (.ior, 1) := by decide +kernel
theorem dX11_tradersOf_50 : decode cX11_tradersOf 50 = .ok (.istore_n 2, 1) := by decide +kernel
theorem dX11_tradersOf_51 : decode cX11_tradersOf 51 = .ok (.iinc 4 1, 3) := by decide +kernel
theorem dX11_tradersOf_54 : decode cX11_tradersOf 54 = .ok (.goto (-43), 3) := by decide +kernel
theorem dX11_tradersOf_57 : decode cX11_tradersOf 57 = .ok (.iload_n 2, 1) := by decide +kernel
theorem dX11_tradersOf_58 : decode cX11_tradersOf 58 = .ok (.ireturn, 1) := by decide +kernel
theorem dX11_isRest_0 : decode cX11_isRest 0 = .ok (.iconst 0, 1) := by decide +kernel
theorem dX11_isRest_1 : decode cX11_isRest 1 = .ok (.istore_n 1, 1) := by decide +kernel
theorem dX11_isRest_2 : decode cX11_isRest 2 = .ok (.iload_n 1, 1) := by decide +kernel
theorem dX11_isRest_3 : decode cX11_isRest 3 = .ok (.aload_n 0, 1) := by decide +kernel
theorem dX11_isRest_4 : decode cX11_isRest 4 = .ok (.getfield 98, 3) := by decide +kernel
theorem dX11_isRest_7 : decode cX11_isRest 7 = .ok (.bipush 7, 2) := by decide +kernel
theorem dX11_isRest_9 : decode cX11_isRest 9 = .ok (.iaload, 1) := by decide +kernel
theorem dX11_isRest_10 : decode cX11_isRest 10 = .ok (.if_icmp .ge 33, 3) := by decide +kernel
theorem dX11_isRest_13 : decode cX11_isRest 13 = .ok (.iconst 0, 1) := by decide +kernel
theorem dX11_isRest_14 : decode cX11_isRest 14 = .ok (.istore_n 2, 1) := by decide +kernel
theorem dX11_isRest_15 : decode cX11_isRest 15 = .ok (.iload_n 2, 1) := by decide +kernel
theorem dX11_isRest_16 : decode cX11_isRest 16 = .ok (.iload_n 1, 1) := by decide +kernel
theorem dX11_isRest_17 : decode cX11_isRest 17 = .ok (.if_icmp .ge 20, 3) := by decide +kernel
theorem dX11_isRest_20 : decode cX11_isRest 20 = .ok (.aload_n 0, 1) := by decide +kernel
theorem dX11_isRest_21 : decode cX11_isRest 21 = .ok (.iload_n 1, 1) := by decide +kernel
theorem dX11_isRest_22 : decode cX11_isRest 22 = .ok (.iload_n 2, 1) := by decide +kernel
theorem dX11_isRest_23 : decode cX11_isRest 23 = .ok (.invokevirtual 399, 3) := by decide +kernel
theorem dX11_isRest_26 : decode cX11_isRest 26 = .ok (.ifCond .eq 5, 3) := by decide +kernel
theorem dX11_isRest_29 : decode cX11_isRest 29 = .ok (.iconst 0, 1) := by decide +kernel
theorem dX11_isRest_30 : decode cX11_isRest 30 = .ok (.ireturn, 1) := by decide +kernel
theorem dX11_isRest_31 : decode cX11_isRest 31 = .ok (.iinc 2 1, 3) := by decide +kernel
theorem dX11_isRest_34 : decode cX11_isRest 34 = .ok (.goto (-19), 3) := by decide +kernel
theorem dX11_isRest_37 : decode cX11_isRest 37 = .ok (.iinc 1 1, 3) := by decide +kernel
theorem dX11_isRest_40 : decode cX11_isRest 40 = .ok (.goto (-38), 3) := by decide +kernel
theorem dX11_isRest_43 : decode cX11_isRest 43 = .ok (.iconst 1, 1) := by decide +kernel
theorem dX11_isRest_44 : decode cX11_isRest 44 = .ok (.ireturn, 1) := by decide +kernel
theorem dX11_traders_0 : decode cX11_traders 0 = .ok (.aload_n 0, 1) := by decide +kernel
theorem dX11_traders_1 : decode cX11_traders 1 = .ok (.invokevirtual 345, 3) := by decide +kernel
theorem dX11_traders_4 : decode cX11_traders 4 = .ok (.aload_n 0, 1) := by decide +kernel
theorem dX11_traders_5 : decode cX11_traders 5 = .ok (.iload_n 1, 1) := by decide +kernel
theorem dX11_traders_6 : decode cX11_traders 6 = .ok (.invokevirtual 342, 3) := by decide +kernel
theorem dX11_traders_9 : decode cX11_traders 9 = .ok (.ifCond .eq 19, 3) := by decide +kernel
theorem dX11_traders_12 : decode cX11_traders 12 = .ok (.aload_n 0, 1) := by decide +kernel
theorem dX11_traders_13 : decode cX11_traders 13 = .ok (.iload_n 1, 1) := by decide +kernel
theorem dX11_traders_14 : decode cX11_traders 14 = .ok (.invokevirtual 348, 3) := by decide +kernel
theorem dX11_traders_17 : decode cX11_traders 17 = .ok (.ifCond .eq 11, 3) := by decide +kernel
theorem dX11_traders_20 : decode cX11_traders 20 = .ok (.aload_n 0, 1) := by decide +kernel
theorem dX11_traders_21 : decode cX11_traders 21 = .ok (.iload_n 1, 1) := by decide +kernel
theorem dX11_traders_22 : decode cX11_traders 22 = .ok (.invokevirtual 402, 3) := by decide +kernel
theorem dX11_traders_25 : decode cX11_traders 25 = .ok (.goto 4, 3) := by decide +kernel
theorem dX11_traders_28 : decode cX11_traders 28 = .ok (.iconst (-1), 1) := by decide +kernel
theorem dX11_traders_29 : decode cX11_traders 29 = .ok (.ireturn, 1) := by decide +kernel
theorem dX11_gain_0 : decode cX11_gain 0 = .ok (.aload_n 0, 1) := by decide +kernel
theorem dX11_gain_1 : decode cX11_gain 1 = .ok (.invokevirtual 345, 3) := by decide +kernel
theorem dX11_gain_4 : decode cX11_gain 4 = .ok (.aload_n 0, 1) := by decide +kernel
theorem dX11_gain_5 : decode cX11_gain 5 = .ok (.iload_n 1, 1) := by decide +kernel
theorem dX11_gain_6 : decode cX11_gain 6 = .ok (.iload_n 2, 1) := by decide +kernel
theorem dX11_gain_7 : decode cX11_gain 7 = .ok (.invokevirtual 354, 3) := by decide +kernel
theorem dX11_gain_10 : decode cX11_gain 10 = .ok (.ifCond .ne 7, 3) := by decide +kernel
theorem dX11_gain_13 : decode cX11_gain 13 = .ok (.ldc_w 405, 3) := by decide +kernel
theorem dX11_gain_16 : decode cX11_gain 16 = .ok (.ireturn, 1) := by decide +kernel
theorem dX11_gain_17 : decode cX11_gain 17 = .ok (.aload_n 0, 1) := by decide +kernel
theorem dX11_gain_18 : decode cX11_gain 18 = .ok (.invokevirtual 374, 3) := by decide +kernel
theorem dX11_gain_21 : decode cX11_gain 21 = .ok (.istore_n 3, 1) := by decide +kernel
theorem dX11_gain_22 : decode cX11_gain 22 = .ok (.aload_n 0, 1) := by decide +kernel
theorem dX11_gain_23 : decode cX11_gain 23 = .ok (.aload_n 0, 1) := by decide +kernel
theorem dX11_gain_24 : decode cX11_gain 24 = .ok (.iload_n 1, 1) := by decide +kernel
theorem dX11_gain_25 : decode cX11_gain 25 = .ok (.invokevirtual 293, 3) := by decide +kernel
theorem dX11_gain_28 : decode cX11_gain 28 = .ok (.aload_n 0, 1) := by decide +kernel
theorem dX11_gain_29 : decode cX11_gain 29 = .ok (.iload_n 2, 1) := by decide +kernel
theorem dX11_gain_30 : decode cX11_gain 30 = .ok (.invokevirtual 293, 3) := by decide +kernel
theorem dX11_gain_33 : decode cX11_gain 33 = .ok (.invokevirtual 358, 3) := by decide +kernel
theorem dX11_gain_36 : decode cX11_gain 36 = .ok (.iload_n 3, 1) := by decide +kernel
theorem dX11_gain_37 : decode cX11_gain 37 = .ok (.aload_n 0, 1) := by decide +kernel
theorem dX11_gain_38 : decode cX11_gain 38 = .ok (.invokevirtual 374, 3) := by decide +kernel
theorem dX11_gain_41 : decode cX11_gain 41 = .ok (.isub, 1) := by decide +kernel
theorem dX11_gain_42 : decode cX11_gain 42 = .ok (.ireturn, 1) := by decide +kernel
theorem dX11_behind_0 : decode cX11_behind 0 = .ok (.aload_n 0, 1) := by decide +kernel
theorem dX11_behind_1 : decode cX11_behind 1 = .ok (.invokevirtual 345, 3) := by decide +kernel
theorem dX11_behind_4 : decode cX11_behind 4 = .ok (.aload_n 0, 1) := by decide +kernel
theorem dX11_behind_5 : decode cX11_behind 5 = .ok (.iload_n 1, 1) := by decide +kernel
theorem dX11_behind_6 : decode cX11_behind 6 = .ok (.invokevirtual 342, 3) := by decide +kernel
theorem dX11_behind_9 : decode cX11_behind 9 = .ok (.ifCond .eq 11, 3) := by decide +kernel
theorem dX11_behind_12 : decode cX11_behind 12 = .ok (.aload_n 0, 1) := by decide +kernel
theorem dX11_behind_13 : decode cX11_behind 13 = .ok (.iload_n 1, 1) := by decide +kernel
theorem dX11_behind_14 : decode cX11_behind 14 = .ok (.invokevirtual 348, 3) := by decide +kernel
theorem dX11_behind_17 : decode cX11_behind 17 = .ok (.ifCond .ne 5, 3) := by decide +kernel
theorem dX11_behind_20 : decode cX11_behind 20 = .ok (.iconst (-1), 1) := by decide +kernel
theorem dX11_behind_21 : decode cX11_behind 21 = .ok (.ireturn, 1) := by decide +kernel
theorem dX11_behind_22 : decode cX11_behind 22 = .ok (.aload_n 0, 1) := by decide +kernel
theorem dX11_behind_23 : decode cX11_behind 23 = .ok (.iload_n 1, 1) := by decide +kernel
theorem dX11_behind_24 : decode cX11_behind 24 = .ok (.invokevirtual 293, 3) := by decide +kernel
theorem dX11_behind_27 : decode cX11_behind 27 = .ok (.iconst 1, 1) := by decide +kernel
theorem dX11_behind_28 : decode cX11_behind 28 = .ok (.iadd, 1) := by decide +kernel
theorem dX11_behind_29 : decode cX11_behind 29 = .ok (.aload_n 0, 1) := by decide +kernel
theorem dX11_behind_30 : decode cX11_behind 30 = .ok (.getfield 98, 3) := by decide +kernel
theorem dX11_behind_33 : decode cX11_behind 33 = .ok (.bipush 7, 2) := by decide +kernel
theorem dX11_behind_35 : decode cX11_behind 35 = .ok (.iaload, 1) := by decide +kernel
theorem dX11_behind_36 : decode cX11_behind 36 = .ok (.if_icmp .ge 18, 3) := by decide +kernel
theorem dX11_behind_39 : decode cX11_behind 39 = .ok (.aload_n 0, 1) := by decide +kernel
theorem dX11_behind_40 : decode cX11_behind 40 = .ok (.getfield 98, 3) := by decide +kernel
theorem dX11_behind_43 : decode cX11_behind 43 = .ok (.aload_n 0, 1) := by decide +kernel
theorem dX11_behind_44 : decode cX11_behind 44 = .ok (.iload_n 1, 1) := by decide +kernel
theorem dX11_behind_45 : decode cX11_behind 45 = .ok (.invokevirtual 293, 3) := by decide +kernel
theorem dX11_behind_48 : decode cX11_behind 48 = .ok (.iconst 1, 1) := by decide +kernel
theorem dX11_behind_49 : decode cX11_behind 49 = .ok (.iadd, 1) := by decide +kernel
theorem dX11_behind_50 : decode cX11_behind 50 = .ok (.iaload, 1) := by decide +kernel
theorem dX11_behind_51 : decode cX11_behind 51 = .ok (.goto 5, 3) := by decide +kernel
theorem dX11_behind_54 : decode cX11_behind 54 = .ok (.bipush (-2), 2) := by decide +kernel
theorem dX11_behind_56 : decode cX11_behind 56 = .ok (.ireturn, 1) := by decide +kernel
theorem dX11_rests_0 : decode cX11_rests 0 = .ok (.aload_n 0, 1) := by decide +kernel
theorem dX11_rests_1 : decode cX11_rests 1 = .ok (.invokevirtual 345, 3) := by decide +kernel
theorem dX11_rests_4 : decode cX11_rests 4 = .ok (.aload_n 0, 1) := by decide +kernel
theorem dX11_rests_5 : decode cX11_rests 5 = .ok (.invokevirtual 384, 3) := by decide +kernel
theorem dX11_rests_8 : decode cX11_rests 8 = .ok (.iconst 0, 1) := by decide +kernel
theorem dX11_rests_9 : decode cX11_rests 9 = .ok (.istore_n 1, 1) := by decide +kernel
theorem dX11_rests_10 : decode cX11_rests 10 = .ok (.iconst 1, 1) := by decide +kernel
theorem dX11_rests_11 : decode cX11_rests 11 = .ok (.istore_n 2, 1) := by decide +kernel
theorem dX11_rests_12 : decode cX11_rests 12 = .ok (.iload_n 2, 1) := by decide +kernel
theorem dX11_rests_13 : decode cX11_rests 13 = .ok (.ifCond .eq 21, 3) := by decide +kernel
theorem dX11_rests_16 : decode cX11_rests 16 = .ok (.aload_n 0, 1) := by decide +kernel
theorem dX11_rests_17 : decode cX11_rests 17 = .ok (.invokevirtual 406, 3) := by decide +kernel
theorem dX11_rests_20 : decode cX11_rests 20 = .ok (.ifCond .eq 6, 3) := by decide +kernel
theorem dX11_rests_23 : decode cX11_rests 23 = .ok (.iinc 1 1, 3) := by decide +kernel
theorem dX11_rests_26 : decode cX11_rests 26 = .ok (.aload_n 0, 1) := by decide +kernel
theorem dX11_rests_27 : decode cX11_rests 27 = .ok (.invokevirtual 393, 3) := by decide +kernel
theorem dX11_rests_30 : decode cX11_rests 30 = .ok (.istore_n 2, 1) := by decide +kernel
theorem dX11_rests_31 : decode cX11_rests 31 = .ok (.goto (-19), 3) := by decide +kernel
theorem dX11_rests_34 : decode cX11_rests 34 = .ok (.iload_n 1, 1) := by decide +kernel
theorem dX11_rests_35 : decode cX11_rests 35 = .ok (.ireturn, 1) := by decide +kernel
theorem dX11_lowestOf_0 : decode cX11_lowestOf 0 = .ok (.iconst 0, 1) := by decide +kernel
theorem dX11_lowestOf_1 : decode cX11_lowestOf 1 = .ok (.istore_n 1, 1) := by decide +kernel
theorem dX11_lowestOf_2 : decode cX11_lowestOf 2 = .ok (.iload_n 0, 1) := by decide +kernel
theorem dX11_lowestOf_3 : decode cX11_lowestOf 3 = .ok (.iload_n 1, 1) := by decide +kernel
theorem dX11_lowestOf_4 : decode cX11_lowestOf 4 = .ok (.ishr, 1) := by decide +kernel
theorem dX11_lowestOf_5 : decode cX11_lowestOf 5 = .ok (.iconst 1, 1) := by decide +kernel
theorem dX11_lowestOf_6 : decode cX11_lowestOf 6 = .ok (.iand, 1) := by decide +kernel
theorem dX11_lowestOf_7 : decode cX11_lowestOf 7 = .ok (.ifCond .ne 9, 3) := by decide +kernel
theorem dX11_lowestOf_10 : decode cX11_lowestOf 10 = .ok (.iinc 1 1, 3) := by decide +kernel
theorem dX11_lowestOf_13 : decode cX11_lowestOf 13 = .ok (.goto (-11), 3) := by decide +kernel
theorem dX11_lowestOf_16 : decode cX11_lowestOf 16 = .ok (.iload_n 1, 1) := by decide +kernel
theorem dX11_lowestOf_17 : decode cX11_lowestOf 17 = .ok (.ireturn, 1) := by decide +kernel
theorem dX11_tradesOnce_0 : decode cX11_tradesOnce 0 = .ok (.iconst 0, 1) := by decide +kernel
theorem dX11_tradesOnce_1 : decode cX11_tradesOnce 1 = .ok (.istore_n 1, 1) := by decide +kernel
theorem dX11_tradesOnce_2 : decode cX11_tradesOnce 2 = .ok (.iload_n 1, 1) := by decide +kernel
theorem dX11_tradesOnce_3 : decode cX11_tradesOnce 3 = .ok (.aload_n 0, 1) := by decide +kernel
theorem dX11_tradesOnce_4 : decode cX11_tradesOnce 4 = .ok (.getfield 43, 3) := by decide +kernel
theorem dX11_tradesOnce_7 : decode cX11_tradesOnce 7 = .ok (.aload_n 0, 1) := by decide +kernel
theorem dX11_tradesOnce_8 : decode cX11_tradesOnce 8 = .ok (.getfield 212, 3) := by decide +kernel
theorem dX11_tradesOnce_11 : decode cX11_tradesOnce 11 = .ok (.iaload, 1) := by decide +kernel
theorem dX11_tradesOnce_12 : decode cX11_tradesOnce 12 = .ok (.if_icmp .ge 53, 3) := by decide +kernel
theorem dX11_tradesOnce_15 : decode cX11_tradesOnce 15 = .ok (.aload_n 0, 1) := by decide +kernel
theorem dX11_tradesOnce_16 : decode cX11_tradesOnce 16 = .ok (.iload_n 1, 1) := by decide +kernel
theorem dX11_tradesOnce_17 : decode cX11_tradesOnce 17 = .ok (.invokevirtual 348, 3) := by decide +kernel
theorem dX11_tradesOnce_20 : decode cX11_tradesOnce 20 = .ok (.ifCond .eq 11, 3) := by decide +kernel
theorem dX11_tradesOnce_23 : decode cX11_tradesOnce 23 = .ok (.aload_n 0, 1) := by decide +kernel
theorem dX11_tradesOnce_24 : decode cX11_tradesOnce 24 = .ok (.iload_n 1, 1) := by decide +kernel
theorem dX11_tradesOnce_25 : decode cX11_tradesOnce 25 = .ok (.invokevirtual 402, 3) := by decide +kernel
theorem dX11_tradesOnce_28 : decode cX11_tradesOnce 28 = .ok (.goto 4, 3) := by decide +kernel
theorem dX11_tradesOnce_31 : decode cX11_tradesOnce 31 = .ok (.iconst 0, 1) := by decide +kernel
theorem dX11_tradesOnce_32 : decode cX11_tradesOnce 32 = .ok (.istore_n 2, 1) := by decide +kernel
theorem dX11_tradesOnce_33 : decode cX11_tradesOnce 33 = .ok (.iload_n 2, 1) := by decide +kernel
theorem dX11_tradesOnce_34 : decode cX11_tradesOnce 34 = .ok (.ifCond .ne 6, 3) := by decide +kernel
theorem dX11_tradesOnce_37 : decode cX11_tradesOnce 37 = .ok (.goto 22, 3) := by decide +kernel
theorem dX11_tradesOnce_40 : decode cX11_tradesOnce 40 = .ok (.aload_n 0, 1) := by decide +kernel
theorem dX11_tradesOnce_41 : decode cX11_tradesOnce 41 = .ok (.aload_n 0, 1) := by decide +kernel
theorem dX11_tradesOnce_42 : decode cX11_tradesOnce 42 = .ok (.iload_n 1, 1) := by decide +kernel
theorem dX11_tradesOnce_43 : decode cX11_tradesOnce 43 = .ok (.invokevirtual 293, 3) := by decide +kernel
theorem dX11_tradesOnce_46 : decode cX11_tradesOnce 46 = .ok (.aload_n 0, 1) := by decide +kernel
theorem dX11_tradesOnce_47 : decode cX11_tradesOnce 47 = .ok (.iload_n 2, 1) := by decide +kernel
theorem dX11_tradesOnce_48 : decode cX11_tradesOnce 48 = .ok (.invokestatic 409, 3) := by decide +kernel
theorem dX11_tradesOnce_51 : decode cX11_tradesOnce 51 = .ok (.invokevirtual 293, 3) := by decide +kernel
theorem dX11_tradesOnce_54 : decode cX11_tradesOnce 54 = .ok (.invokevirtual 358, 3) := by decide +kernel
theorem dX11_tradesOnce_57 : decode cX11_tradesOnce 57 = .ok (.iconst 1, 1) := by decide +kernel
theorem dX11_tradesOnce_58 : decode cX11_tradesOnce 58 = .ok (.ireturn, 1) := by decide +kernel
theorem dX11_tradesOnce_59 : decode cX11_tradesOnce 59 = .ok (.iinc 1 1, 3) := by decide +kernel
theorem dX11_tradesOnce_62 : decode cX11_tradesOnce 62 = .ok (.goto (-60), 3) := by decide +kernel
theorem dX11_tradesOnce_65 : decode cX11_tradesOnce 65 = .ok (.iconst 0, 1) := by decide +kernel
theorem dX11_tradesOnce_66 : decode cX11_tradesOnce 66 = .ok (.ireturn, 1) := by decide +kernel
theorem dX11_settles_0 : decode cX11_settles 0 = .ok (.aload_n 0, 1) := by decide +kernel
theorem dX11_settles_1 : decode cX11_settles 1 = .ok (.invokevirtual 345, 3) := by decide +kernel
theorem dX11_settles_4 : decode cX11_settles 4 = .ok (.iconst 0, 1) := by decide +kernel
theorem dX11_settles_5 : decode cX11_settles 5 = .ok (.istore_n 1, 1) := by decide +kernel
theorem dX11_settles_6 : decode cX11_settles 6 = .ok (.iload_n 1, 1) := by decide +kernel
theorem dX11_settles_7 : decode cX11_settles 7 = .ok (.bipush 50, 2) := by decide +kernel
theorem dX11_settles_9 : decode cX11_settles 9 = .ok (.if_icmp .gt 18, 3) := by decide +kernel
theorem dX11_settles_12 : decode cX11_settles 12 = .ok (.aload_n 0, 1) := by decide +kernel
theorem dX11_settles_13 : decode cX11_settles 13 = .ok (.invokevirtual 412, 3) := by decide +kernel
theorem dX11_settles_16 : decode cX11_settles 16 = .ok (.ifCond .ne 5, 3) := by decide +kernel
theorem dX11_settles_19 : decode cX11_settles 19 = .ok (.iload_n 1, 1) := by decide +kernel
theorem dX11_settles_20 : decode cX11_settles 20 = .ok (.ireturn, 1) := by decide +kernel
theorem dX11_settles_21 : decode cX11_settles 21 = .ok (.iinc 1 1, 3) := by decide +kernel
theorem dX11_settles_24 : decode cX11_settles 24 = .ok (.goto (-18), 3) := by decide +kernel
theorem dX11_settles_27 : decode cX11_settles 27 = .ok (.bipush (-2), 2) := by decide +kernel
theorem dX11_settles_29 : decode cX11_settles 29 = .ok (.ireturn, 1) := by decide +kernel
theorem dX11_dreadOf_0 : decode cX11_dreadOf 0 = .ok (.iconst 0, 1) := by decide +kernel
theorem dX11_dreadOf_1 : decode cX11_dreadOf 1 = .ok (.istore_n 2, 1) := by decide +kernel
theorem dX11_dreadOf_2 : decode cX11_dreadOf 2 = .ok (.iconst 0, 1) := by decide +kernel
theorem dX11_dreadOf_3 : decode cX11_dreadOf 3 = .ok (.istore_n 3, 1) := by decide +kernel
theorem dX11_dreadOf_4 : decode cX11_dreadOf 4 = .ok (.iload_n 3, 1) := by decide +kernel
theorem dX11_dreadOf_5 : decode cX11_dreadOf 5 = .ok (.aload_n 0, 1) := by decide +kernel
theorem dX11_dreadOf_6 : decode cX11_dreadOf 6 = .ok (.getfield 98, 3) := by decide +kernel
theorem dX11_dreadOf_9 : decode cX11_dreadOf 9 = .ok (.bipush 7, 2) := by decide +kernel
theorem dX11_dreadOf_11 : decode cX11_dreadOf 11 = .ok (.iaload, 1) := by decide +kernel
theorem dX11_dreadOf_12 : decode cX11_dreadOf 12 = .ok (.if_icmp .ge 38, 3) := by decide +kernel
theorem dX11_dreadOf_15 : decode cX11_dreadOf 15 = .ok (.aload_n 0, 1) := by decide +kernel
theorem dX11_dreadOf_16 : decode cX11_dreadOf 16 = .ok (.getfield 98, 3) := by decide +kernel
theorem dX11_dreadOf_19 : decode cX11_dreadOf 19 = .ok (.iload_n 3, 1) := by decide +kernel
theorem dX11_dreadOf_20 : decode cX11_dreadOf 20 = .ok (.iaload, 1) := by decide +kernel
theorem dX11_dreadOf_21 : decode cX11_dreadOf 21 = .ok (.iload_n 1, 1) := by decide +kernel
theorem dX11_dreadOf_22 : decode cX11_dreadOf 22 = .ok (.if_icmp .eq 22, 3) := by decide +kernel
theorem dX11_dreadOf_25 : decode cX11_dreadOf 25 = .ok (.iload_n 2, 1) := by decide +kernel
theorem dX11_dreadOf_26 : decode cX11_dreadOf 26 = .ok (.aload_n 0, 1) := by decide +kernel
theorem dX11_dreadOf_27 : decode cX11_dreadOf 27 = .ok (.aload_n 0, 1) := by decide +kernel
theorem dX11_dreadOf_28 : decode cX11_dreadOf 28 = .ok (.getfield 98, 3) := by decide +kernel
theorem dX11_dreadOf_31 : decode cX11_dreadOf 31 = .ok (.iload_n 3, 1) := by decide +kernel
theorem dX11_dreadOf_32 : decode cX11_dreadOf 32 = .ok (.iaload, 1) := by decide +kernel
theorem dX11_dreadOf_33 : decode cX11_dreadOf 33 = .ok (.iload_n 3, 1) := by decide +kernel
theorem dX11_dreadOf_34 : decode cX11_dreadOf 34 = .ok (.aload_n 0, 1) := by decide +kernel
theorem dX11_dreadOf_35 : decode cX11_dreadOf 35 = .ok (.iload_n 1, 1) := by decide +kernel
theorem dX11_dreadOf_36 : decode cX11_dreadOf 36 = .ok (.invokevirtual 299, 3) := by decide +kernel
theorem dX11_dreadOf_39 : decode cX11_dreadOf 39 = .ok (.invokevirtual 318, 3) := by decide +kernel
theorem dX11_dreadOf_42 : decode cX11_dreadOf 42 = .ok (.iadd, 1) := by decide +kernel
theorem dX11_dreadOf_43 : decode cX11_dreadOf 43 = .ok (.istore_n 2, 1) := by decide +kernel
theorem dX11_dreadOf_44 : decode cX11_dreadOf 44 = .ok (.iinc 3 1, 3) := by decide +kernel
theorem dX11_dreadOf_47 : decode cX11_dreadOf 47 = .ok (.goto (-43), 3) := by decide +kernel
theorem dX11_dreadOf_50 : decode cX11_dreadOf 50 = .ok (.iload_n 2, 1) := by decide +kernel
theorem dX11_dreadOf_51 : decode cX11_dreadOf 51 = .ok (.ireturn, 1) := by decide +kernel
theorem dX11_shunned_0 : decode cX11_shunned 0 = .ok (.iload_n 1, 1) := by decide +kernel
theorem dX11_shunned_1 : decode cX11_shunned 1 = .ok (.iconst 0, 1) := by decide +kernel
theorem dX11_shunned_2 : decode cX11_shunned 2 = .ok (.iconst 1, 1) := by decide +kernel
theorem dX11_shunned_3 : decode cX11_shunned 3 = .ok (.invokestatic 282, 3) := by decide +kernel
theorem dX11_shunned_6 : decode cX11_shunned 6 = .ok (.ifCond .ne 5, 3) := by decide +kernel
theorem dX11_shunned_9 : decode cX11_shunned 9 = .ok (.iconst (-1), 1) := by decide +kernel
theorem dX11_shunned_10 : decode cX11_shunned 10 = .ok (.ireturn, 1) := by decide +kernel
theorem dX11_shunned_11 : decode cX11_shunned 11 = .ok (.aload_n 0, 1) := by decide +kernel
theorem dX11_shunned_12 : decode cX11_shunned 12 = .ok (.invokevirtual 345, 3) := by decide +kernel
theorem dX11_shunned_15 : decode cX11_shunned 15 = .ok (.bipush (-2), 2) := by decide +kernel
theorem dX11_shunned_17 : decode cX11_shunned 17 = .ok (.istore_n 2, 1) := by decide +kernel
theorem dX11_shunned_18 : decode cX11_shunned 18 = .ok (.bipush (-2), 2) := by decide +kernel
theorem dX11_shunned_20 : decode cX11_shunned 20 = .ok (.istore_n 3, 1) := by decide +kernel
theorem dX11_shunned_21 : decode cX11_shunned 21 = .ok (.iconst 0, 1) := by decide +kernel
theorem dX11_shunned_22 : decode cX11_shunned 22 = .ok (.istore 4, 2) := by decide +kernel
theorem dX11_shunned_24 : decode cX11_shunned 24 = .ok (.iload 4, 2) := by decide +kernel
theorem dX11_shunned_26 : decode cX11_shunned 26 = .ok (.aload_n 0, 1) := by decide +kernel
theorem dX11_shunned_27 : decode cX11_shunned 27 = .ok (.getfield 43, 3) := by decide +kernel
theorem dX11_shunned_30 : decode cX11_shunned 30 = .ok (.aload_n 0, 1) := by decide +kernel
theorem dX11_shunned_31 : decode cX11_shunned 31 = .ok (.getfield 212, 3) := by decide +kernel
theorem dX11_shunned_34 : decode cX11_shunned 34 = .ok (.iaload, 1) := by decide +kernel
theorem dX11_shunned_35 : decode cX11_shunned 35 = .ok (.if_icmp .ge 45, 3) := by decide +kernel
theorem dX11_shunned_38 : decode cX11_shunned 38 = .ok (.aload_n 0, 1) := by decide +kernel
theorem dX11_shunned_39 : decode cX11_shunned 39 = .ok (.iload 4, 2) := by decide +kernel
theorem dX11_shunned_41 : decode cX11_shunned 41 = .ok (.invokevirtual 348, 3) := by decide +kernel
theorem dX11_shunned_44 : decode cX11_shunned 44 = .ok (.ifCond .eq 30, 3) := by decide +kernel
theorem dX11_shunned_47 : decode cX11_shunned 47 = .ok (.iload_n 2, 1) := by decide +kernel
theorem dX11_shunned_48 : decode cX11_shunned 48 = .ok (.ifCond .lt 16, 3) := by decide +kernel
theorem dX11_shunned_51 : decode cX11_shunned 51 = .ok (.aload_n 0, 1) := by decide +kernel
theorem dX11_shunned_52 : decode cX11_shunned 52 = .ok (.iload 4, 2) := by decide +kernel
theorem dX11_shunned_54 : decode cX11_shunned 54 = .ok (.invokevirtual 415, 3) := by decide +kernel
theorem dX11_shunned_57 : decode cX11_shunned 57 = .ok (.iload_n 3, 1) := by decide +kernel
theorem dX11_shunned_58 : decode cX11_shunned 58 = .ok (.if_icmp .gt 6, 3) := by decide +kernel
theorem dX11_shunned_61 : decode cX11_shunned 61 = .ok (.goto 13, 3) := by decide +kernel
theorem dX11_shunned_64 : decode cX11_shunned 64 = .ok (.iload 4, 2) := by decide +kernel
theorem dX11_shunned_66 : decode cX11_shunned 66 = .ok (.istore_n 2, 1) := by decide +kernel
theorem dX11_shunned_67 : decode cX11_shunned 67 = .ok (.aload_n 0, 1) := by decide +kernel
theorem dX11_shunned_68 : decode cX11_shunned 68 = .ok (.iload 4, 2) := by decide +kernel
theorem dX11_shunned_70 : decode cX11_shunned 70 = .ok (.invokevirtual 415, 3) := by decide +kernel
theorem dX11_shunned_73 : decode cX11_shunned 73 = .ok (.istore_n 3, 1) := by decide +kernel
theorem dX11_shunned_74 : decode cX11_shunned 74 = .ok (.iinc 4 1, 3) := by decide +kernel
theorem dX11_shunned_77 : decode cX11_shunned 77 = .ok (.goto (-53), 3) := by decide +kernel
theorem dX11_shunned_80 : decode cX11_shunned 80 = .ok (.iload_n 1, 1) := by decide +kernel
theorem dX11_shunned_81 : decode cX11_shunned 81 = .ok (.ifCond .ne 7, 3) := by decide +kernel
theorem dX11_shunned_84 : decode cX11_shunned 84 = .ok (.iload_n 2, 1) := by decide +kernel
theorem dX11_shunned_85 : decode cX11_shunned 85 = .ok (.goto 4, 3) := by decide +kernel
theorem dX11_shunned_88 : decode cX11_shunned 88 = .ok (.iload_n 3, 1) := by decide +kernel
theorem dX11_shunned_89 : decode cX11_shunned 89 = .ok (.ireturn, 1) := by decide +kernel
theorem dX11_doesBuy_0 : decode cX11_doesBuy 0 = .ok (.aload_n 0, 1) := by decide +kernel
theorem dX11_doesBuy_1 : decode cX11_doesBuy 1 = .ok (.getfield 98, 3) := by decide +kernel
theorem dX11_doesBuy_4 : decode cX11_doesBuy 4 = .ok (.iload_n 1, 1) := by decide +kernel
theorem dX11_doesBuy_5 : decode cX11_doesBuy 5 = .ok (.iconst 1, 1) := by decide +kernel
theorem dX11_doesBuy_6 : decode cX11_doesBuy 6 = .ok (.isub, 1) := by decide +kernel
theorem dX11_doesBuy_7 : decode cX11_doesBuy 7 = .ok (.iaload, 1) := by decide +kernel
theorem dX11_doesBuy_8 : decode cX11_doesBuy 8 = .ok (.istore_n 2, 1) := by decide +kernel
theorem dX11_doesBuy_9 : decode cX11_doesBuy 9 = .ok (.aload_n 0, 1) := by decide +kernel
theorem dX11_doesBuy_10 : decode cX11_doesBuy 10 = .ok (.iload_n 2, 1) := by decide +kernel
theorem dX11_doesBuy_11 : decode cX11_doesBuy 11 = .ok (.invokevirtual 302, 3) := by decide +kernel
theorem dX11_doesBuy_14 : decode cX11_doesBuy 14 = .ok (.ifCond .eq 5, 3) := by decide +kernel
theorem dX11_doesBuy_17 : decode cX11_doesBuy 17 = .ok (.iconst 0, 1) := by decide +kernel
theorem dX11_doesBuy_18 : decode cX11_doesBuy 18 = .ok (.ireturn, 1) := by decide +kernel
theorem dX11_doesBuy_19 : decode cX11_doesBuy 19 = .ok (.aload_n 0, 1) := by decide +kernel
theorem dX11_doesBuy_20 : decode cX11_doesBuy 20 = .ok (.aload_n 0, 1) := by decide +kernel
theorem dX11_doesBuy_21 : decode cX11_doesBuy 21 = .ok (.getfield 98, 3) := by decide +kernel
theorem dX11_doesBuy_24 : decode cX11_doesBuy 24 = .ok (.iload_n 1, 1) := by decide +kernel
theorem dX11_doesBuy_25 : decode cX11_doesBuy 25 = .ok (.iaload, 1) := by decide +kernel
theorem dX11_doesBuy_26 : decode cX11_doesBuy 26 = .ok (.iload_n 1, 1) := by decide +kernel
theorem dX11_doesBuy_27 : decode cX11_doesBuy 27 = .ok (.aload_n 0, 1) := by decide +kernel
theorem dX11_doesBuy_28 : decode cX11_doesBuy 28 = .ok (.iload_n 2, 1) := by decide +kernel
theorem dX11_doesBuy_29 : decode cX11_doesBuy 29 = .ok (.invokevirtual 299, 3) := by decide +kernel
theorem dX11_doesBuy_32 : decode cX11_doesBuy 32 = .ok (.invokevirtual 351, 3) := by decide +kernel
theorem dX11_doesBuy_35 : decode cX11_doesBuy 35 = .ok (.istore_n 3, 1) := by decide +kernel
theorem dX11_doesBuy_36 : decode cX11_doesBuy 36 = .ok (.aload_n 0, 1) := by decide +kernel
theorem dX11_doesBuy_37 : decode cX11_doesBuy 37 = .ok (.iload_n 1, 1) := by decide +kernel
theorem dX11_doesBuy_38 : decode cX11_doesBuy 38 = .ok (.invokevirtual 324, 3) := by decide +kernel
theorem dX11_doesBuy_41 : decode cX11_doesBuy 41 = .ok (.istore 4, 2) := by decide +kernel
theorem dX11_doesBuy_43 : decode cX11_doesBuy 43 = .ok (.aload_n 0, 1) := by decide +kernel
theorem dX11_doesBuy_44 : decode cX11_doesBuy 44 = .ok (.getfield 98, 3) := by decide +kernel
theorem dX11_doesBuy_47 : decode cX11_doesBuy 47 = .ok (.bipush 24, 2) := by decide +kernel
theorem dX11_doesBuy_49 : decode cX11_doesBuy 49 = .ok (.dup2, 1) := by decide +kernel
theorem dX11_doesBuy_50 : decode cX11_doesBuy 50 = .ok (.iaload, 1) := by decide +kernel
theorem dX11_doesBuy_51 : decode cX11_doesBuy 51 = .ok (.iconst 1, 1) := by decide +kernel
theorem dX11_doesBuy_52 : decode cX11_doesBuy 52 = .ok (.iload_n 2, 1) := by decide +kernel
theorem dX11_doesBuy_53 : decode cX11_doesBuy 53 = .ok (.ishl, 1) := by decide +kernel
theorem dX11_doesBuy_54 : decode cX11_doesBuy 54 = .ok (.ior, 1) := by decide +kernel
theorem dX11_doesBuy_55 : decode cX11_doesBuy 55 = .ok (.iastore, 1) := by decide +kernel
theorem dX11_doesBuy_56 : decode cX11_doesBuy 56 = .ok (.aload_n 0, 1) := by decide +kernel
theorem dX11_doesBuy_57 : decode cX11_doesBuy 57 = .ok (.iload_n 1, 1) := by decide +kernel
theorem dX11_doesBuy_58 : decode cX11_doesBuy 58 = .ok (.invokevirtual 324, 3) := by decide +kernel
theorem dX11_doesBuy_61 : decode cX11_doesBuy 61 = .ok (.istore 5, 2) := by decide +kernel
theorem dX11_doesBuy_63 : decode cX11_doesBuy 63 = .ok (.aload_n 0, 1) := by decide +kernel
theorem dX11_doesBuy_64 : decode cX11_doesBuy 64 = .ok (.getfield 98, 3) := by decide +kernel
theorem dX11_doesBuy_67 : decode cX11_doesBuy 67 = .ok (.bipush 24, 2) := by decide +kernel
theorem dX11_doesBuy_69 : decode cX11_doesBuy 69 = .ok (.dup2, 1) := by decide +kernel
theorem dX11_doesBuy_70 : decode cX11_doesBuy 70 = .ok (.iaload, 1) := by decide +kernel
theorem dX11_doesBuy_71 : decode cX11_doesBuy 71 = .ok (.iconst 1, 1) := by decide +kernel
theorem dX11_doesBuy_72 : decode cX11_doesBuy 72 = .ok (.iload_n 2, 1) := by decide +kernel
theorem dX11_doesBuy_73 : decode cX11_doesBuy 73 = .ok (.ishl, 1) := by decide +kernel
theorem dX11_doesBuy_74 : decode cX11_doesBuy 74 = .ok (.iconst (-1), 1) := by decide +kernel
theorem dX11_doesBuy_75 : decode cX11_doesBuy 75 = .ok (.ixor, 1) := by decide +kernel
theorem dX11_doesBuy_76 : decode cX11_doesBuy 76 = .ok (.iand, 1) := by decide +kernel
theorem dX11_doesBuy_77 : decode cX11_doesBuy 77 = .ok (.iastore, 1) := by decide +kernel
theorem dX11_doesBuy_78 : decode cX11_doesBuy 78 = .ok (.iload 4, 2) := by decide +kernel
theorem dX11_doesBuy_80 : decode cX11_doesBuy 80 = .ok (.iload 5, 2) := by decide +kernel
theorem dX11_doesBuy_82 : decode cX11_doesBuy 82 = .ok (.isub, 1) := by decide +kernel
theorem dX11_doesBuy_83 : decode cX11_doesBuy 83 = .ok (.iload_n 3, 1) := by decide +kernel
theorem dX11_doesBuy_84 : decode cX11_doesBuy 84 = .ok (.if_icmp .le 25, 3) := by decide +kernel
theorem dX11_doesBuy_87 : decode cX11_doesBuy 87 = .ok (.iload_n 3, 1) := by decide +kernel
theorem dX11_doesBuy_88 : decode cX11_doesBuy 88 = .ok (.aload_n 0, 1) := by decide +kernel
theorem dX11_doesBuy_89 : decode cX11_doesBuy 89 = .ok (.getfield 98, 3) := by decide +kernel
theorem dX11_doesBuy_92 : decode cX11_doesBuy 92 = .ok (.bipush 10, 2) := by decide +kernel
theorem dX11_doesBuy_94 : decode cX11_doesBuy 94 = .ok (.aload_n 0, 1) := by decide +kernel
theorem dX11_doesBuy_95 : decode cX11_doesBuy 95 = .ok (.getfield 98, 3) := by decide +kernel
theorem dX11_doesBuy_98 : decode cX11_doesBuy 98 = .ok (.iload_n 1, 1) := by decide +kernel
theorem dX11_doesBuy_99 : decode cX11_doesBuy 99 = .ok (.iaload, 1) := by decide +kernel
theorem dX11_doesBuy_100 : decode cX11_doesBuy 100 = .ok (.iadd, 1) := by decide +kernel
theorem dX11_doesBuy_101 : decode cX11_doesBuy 101 = .ok (.iaload, 1) := by decide +kernel
theorem dX11_doesBuy_102 : decode cX11_doesBuy 102 = .ok (.if_icmp .gt 7, 3) := by decide +kernel
theorem dX11_doesBuy_105 : decode cX11_doesBuy 105 = .ok (.iconst 1, 1) := by decide +kernel
theorem dX11_doesBuy_106 : decode cX11_doesBuy 106 = .ok (.goto 4, 3) := by decide +kernel
theorem dX11_doesBuy_109 : decode cX11_doesBuy 109 = .ok (.iconst 0, 1) := by decide +kernel
theorem dX11_doesBuy_110 : decode cX11_doesBuy 110 = .ok (.ireturn, 1) := by decide +kernel
theorem dX11_buyersNow_0 : decode cX11_buyersNow 0 = .ok (.iconst 0, 1) := by decide +kernel
theorem dX11_buyersNow_1 : decode cX11_buyersNow 1 = .ok (.istore_n 1, 1) := by decide +kernel
theorem dX11_buyersNow_2 : decode cX11_buyersNow 2 = .ok (.iconst 1, 1) := by decide +kernel
theorem dX11_buyersNow_3 : decode cX11_buyersNow 3 = .ok (.istore_n 2, 1) := by decide +kernel
theorem dX11_buyersNow_4 : decode cX11_buyersNow 4 = .ok (.iload_n 2, 1) := by decide +kernel
theorem dX11_buyersNow_5 : decode cX11_buyersNow 5 = .ok (.aload_n 0, 1) := by decide +kernel
theorem dX11_buyersNow_6 : decode cX11_buyersNow 6 = .ok (.getfield 98, 3) := by decide +kernel
theorem dX11_buyersNow_9 : decode cX11_buyersNow 9 = .ok (.bipush 7, 2) := by decide +kernel
theorem dX11_buyersNow_11 : decode cX11_buyersNow 11 = .ok (.iaload, 1) := by decide +kernel
theorem dX11_buyersNow_12 : decode cX11_buyersNow 12 = .ok (.if_icmp .ge 28, 3) := by decide +kernel
theorem dX11_buyersNow_15 : decode cX11_buyersNow 15 = .ok (.aload_n 0, 1) := by decide +kernel
theorem dX11_buyersNow_16 : decode cX11_buyersNow 16 = .ok (.iload_n 2, 1) := by decide +kernel
theorem dX11_buyersNow_17 : decode cX11_buyersNow 17 = .ok (.invokevirtual 418, 3) := by decide +kernel
theorem dX11_buyersNow_20 : decode cX11_buyersNow 20 = .ok (.ifCond .eq 14, 3) := by decide +kernel
theorem dX11_buyersNow_23 : decode cX11_buyersNow 23 = .ok (.iload_n 1, 1) := by decide +kernel
theorem dX11_buyersNow_24 : decode cX11_buyersNow 24 = .ok (.iconst 1, 1) := by decide +kernel
theorem dX11_buyersNow_25 : decode cX11_buyersNow 25 = .ok (.aload_n 0, 1) := by decide +kernel
theorem dX11_buyersNow_26 : decode cX11_buyersNow 26 = .ok (.getfield 98, 3) := by decide +kernel
theorem dX11_buyersNow_29 : decode cX11_buyersNow 29 = .ok (.iload_n 2, 1) := by decide +kernel
theorem dX11_buyersNow_30 : decode cX11_buyersNow 30 = .ok (.iaload, 1) := by decide +kernel
theorem dX11_buyersNow_31 : decode cX11_buyersNow 31 = .ok (.ishl, 1) := by decide +kernel
theorem dX11_buyersNow_32 : decode cX11_buyersNow 32 = .ok (.ior, 1) := by decide +kernel
theorem dX11_buyersNow_33 : decode cX11_buyersNow 33 = .ok (.istore_n 1, 1) := by decide +kernel
theorem dX11_buyersNow_34 : decode cX11_buyersNow 34 = .ok (.iinc 2 1, 3) := by decide +kernel
theorem dX11_buyersNow_37 : decode cX11_buyersNow 37 = .ok (.goto (-33), 3) := by decide +kernel
theorem dX11_buyersNow_40 : decode cX11_buyersNow 40 = .ok (.iload_n 1, 1) := by decide +kernel
theorem dX11_buyersNow_41 : decode cX11_buyersNow 41 = .ok (.ireturn, 1) := by decide +kernel
theorem dX11_buyers_0 : decode cX11_buyers 0 = .ok (.aload_n 0, 1) := by decide +kernel
theorem dX11_buyers_1 : decode cX11_buyers 1 = .ok (.invokevirtual 345, 3) := by decide +kernel
theorem dX11_buyers_4 : decode cX11_buyers 4 = .ok (.aload_n 0, 1) := by decide +kernel
theorem dX11_buyers_5 : decode cX11_buyers 5 = .ok (.invokevirtual 421, 3) := by decide +kernel
theorem dX11_buyers_8 : decode cX11_buyers 8 = .ok (.ireturn, 1) := by decide +kernel
theorem dX11_without_0 : decode cX11_without 0 = .ok (.aload_n 0, 1) := by decide +kernel
theorem dX11_without_1 : decode cX11_without 1 = .ok (.invokevirtual 345, 3) := by decide +kernel
theorem dX11_without_4 : decode cX11_without 4 = .ok (.aload_n 0, 1) := by decide +kernel
theorem dX11_without_5 : decode cX11_without 5 = .ok (.aload_n 0, 1) := by decide +kernel
theorem dX11_without_6 : decode cX11_without 6 = .ok (.iload_n 1, 1) := by decide +kernel
theorem dX11_without_7 : decode cX11_without 7 = .ok (.invokevirtual 293, 3) := by decide +kernel
theorem dX11_without_10 : decode cX11_without 10 = .ok (.invokevirtual 365, 3) := by decide +kernel
theorem dX11_without_13 : decode cX11_without 13 = .ok (.aload_n 0, 1) := by decide +kernel
theorem dX11_without_14 : decode cX11_without 14 = .ok (.invokevirtual 374, 3) := by decide +kernel
theorem dX11_without_17 : decode cX11_without 17 = .ok (.ireturn, 1) := by decide +kernel
theorem dX11_lighter_0 : decode cX11_lighter 0 = .ok (.iload_n 1, 1) := by decide +kernel
theorem dX11_lighter_1 : decode cX11_lighter 1 = .ok (.iconst 0, 1) := by decide +kernel
theorem dX11_lighter_2 : decode cX11_lighter 2 = .ok (.iconst 1, 1) := by decide +kernel
theorem dX11_lighter_3 : decode cX11_lighter 3 = .ok (.invokestatic 282, 3) := by decide +kernel
theorem dX11_lighter_6 : decode cX11_lighter 6 = .ok (.ifCond .ne 5, 3) := by decide +kernel
theorem dX11_lighter_9 : decode cX11_lighter 9 = .ok (.iconst (-1), 1) := by decide +kernel
theorem dX11_lighter_10 : decode cX11_lighter 10 = .ok (.ireturn, 1) := by decide +kernel
theorem dX11_lighter_11 : decode cX11_lighter 11 = .ok (.bipush (-2), 2) := by decide +kernel
theorem dX11_lighter_13 : decode cX11_lighter 13 = .ok (.istore_n 2, 1) := by decide +kernel
theorem dX11_lighter_14 : decode cX11_lighter 14 = .ok (.bipush (-2), 2) := by decide +kernel
theorem dX11_lighter_16 : decode cX11_lighter 16 = .ok (.istore_n 3, 1) := by decide +kernel
theorem dX11_lighter_17 : decode cX11_lighter 17 = .ok (.iconst 0, 1) := by decide +kernel
theorem dX11_lighter_18 : decode cX11_lighter 18 = .ok (.istore 4, 2) := by decide +kernel
theorem dX11_lighter_20 : decode cX11_lighter 20 = .ok (.iload 4, 2) := by decide +kernel
theorem dX11_lighter_22 : decode cX11_lighter 22 = .ok (.aload_n 0, 1) := by decide +kernel
theorem dX11_lighter_23 : decode cX11_lighter 23 = .ok (.getfield 43, 3) := by decide +kernel
theorem dX11_lighter_26 : decode cX11_lighter 26 = .ok (.aload_n 0, 1) := by decide +kernel
theorem dX11_lighter_27 : decode cX11_lighter 27 = .ok (.getfield 212, 3) := by decide +kernel
theorem dX11_lighter_30 : decode cX11_lighter 30 = .ok (.iaload, 1) := by decide +kernel
theorem dX11_lighter_31 : decode cX11_lighter 31 = .ok (.if_icmp .ge 52, 3) := by decide +kernel
theorem dX11_lighter_34 : decode cX11_lighter 34 = .ok (.aload_n 0, 1) := by decide +kernel
theorem dX11_lighter_35 : decode cX11_lighter 35 = .ok (.invokevirtual 345, 3) := by decide +kernel
theorem dX11_lighter_38 : decode cX11_lighter 38 = .ok (.aload_n 0, 1) := by decide +kernel
theorem dX11_lighter_39 : decode cX11_lighter 39 = .ok (.iload 4, 2) := by decide +kernel
theorem dX11_lighter_41 : decode cX11_lighter 41 = .ok (.invokevirtual 348, 3) := by decide +kernel
theorem dX11_lighter_44 : decode cX11_lighter 44 = .ok (.ifCond .ne 6, 3) := by decide +kernel
theorem dX11_lighter_47 : decode cX11_lighter 47 = .ok (.goto 30, 3) := by decide +kernel
theorem dX11_lighter_50 : decode cX11_lighter 50 = .ok (.aload_n 0, 1) := by decide +kernel
theorem dX11_lighter_51 : decode cX11_lighter 51 = .ok (.iload 4, 2) := by decide +kernel
theorem dX11_lighter_53 : decode cX11_lighter 53 = .ok (.invokevirtual 424, 3) := by decide +kernel
theorem dX11_lighter_56 : decode cX11_lighter 56 = .ok (.istore 5, 2) := by decide +kernel
theorem dX11_lighter_58 : decode cX11_lighter 58 = .ok (.iload_n 2, 1) := by decide +kernel
theorem dX11_lighter_59 : decode cX11_lighter 59 = .ok (.ifCond .lt 12, 3) := by decide +kernel
theorem dX11_lighter_62 : decode cX11_lighter 62 = .ok (.iload 5, 2) := by decide +kernel
theorem dX11_lighter_64 : decode cX11_lighter 64 = .ok (.iload_n 3, 1) := by decide +kernel
theorem dX11_lighter_65 : decode cX11_lighter 65 = .ok (.if_icmp .lt 6, 3) := by decide +kernel
theorem dX11_lighter_68 : decode cX11_lighter 68 = .ok (.goto 9, 3) := by decide +kernel
theorem dX11_lighter_71 : decode cX11_lighter 71 = .ok (.iload 4, 2) := by decide +kernel
theorem dX11_lighter_73 : decode cX11_lighter 73 = .ok (.istore_n 2, 1) := by decide +kernel
theorem dX11_lighter_74 : decode cX11_lighter 74 = .ok (.iload 5, 2) := by decide +kernel
theorem dX11_lighter_76 : decode cX11_lighter 76 = .ok (.istore_n 3, 1) := by decide +kernel
theorem dX11_lighter_77 : decode cX11_lighter 77 = .ok (.iinc 4 1, 3) := by decide +kernel
theorem dX11_lighter_80 : decode cX11_lighter 80 = .ok (.goto (-60), 3) := by decide +kernel
theorem dX11_lighter_83 : decode cX11_lighter 83 = .ok (.iload_n 1, 1) := by decide +kernel
theorem dX11_lighter_84 : decode cX11_lighter 84 = .ok (.ifCond .ne 7, 3) := by decide +kernel
theorem dX11_lighter_87 : decode cX11_lighter 87 = .ok (.iload_n 2, 1) := by decide +kernel
theorem dX11_lighter_88 : decode cX11_lighter 88 = .ok (.goto 4, 3) := by decide +kernel
theorem dX11_lighter_91 : decode cX11_lighter 91 = .ok (.iload_n 3, 1) := by decide +kernel
theorem dX11_lighter_92 : decode cX11_lighter 92 = .ok (.ireturn, 1) := by decide +kernel
theorem dX11_furthest_0 : decode cX11_furthest 0 = .ok (.aload_n 0, 1) := by decide +kernel
theorem dX11_furthest_1 : decode cX11_furthest 1 = .ok (.invokevirtual 345, 3) := by decide +kernel
theorem dX11_furthest_4 : decode cX11_furthest 4 = .ok (.aload_n 0, 1) := by decide +kernel
theorem dX11_furthest_5 : decode cX11_furthest 5 = .ok (.iload_n 1, 1) := by decide +kernel
theorem dX11_furthest_6 : decode cX11_furthest 6 = .ok (.invokevirtual 342, 3) := by decide +kernel
theorem dX11_furthest_9 : decode cX11_furthest 9 = .ok (.ifCond .eq 20, 3) := by decide +kernel
theorem dX11_furthest_12 : decode cX11_furthest 12 = .ok (.aload_n 0, 1) := by decide +kernel
theorem dX11_furthest_13 : decode cX11_furthest 13 = .ok (.iload_n 1, 1) := by decide +kernel
theorem dX11_furthest_14 : decode cX11_furthest 14 = .ok (.invokevirtual 348, 3) := by decide +kernel
theorem dX11_furthest_17 : decode cX11_furthest 17 = .ok (.ifCond .eq 12, 3) := by decide +kernel
theorem dX11_furthest_20 : decode cX11_furthest 20 = .ok (.iload_n 2, 1) := by decide +kernel
theorem dX11_furthest_21 : decode cX11_furthest 21 = .ok (.iconst 0, 1) := by decide +kernel
theorem dX11_furthest_22 : decode cX11_furthest 22 = .ok (.iconst 1, 1) := by decide +kernel
theorem dX11_furthest_23 : decode cX11_furthest 23 = .ok (.invokestatic 282, 3) := by decide +kernel
theorem dX11_furthest_26 : decode cX11_furthest 26 = .ok (.ifCond .ne 5, 3) := by decide +kernel
theorem dX11_furthest_29 : decode cX11_furthest 29 = .ok (.iconst (-1), 1) := by decide +kernel
theorem dX11_furthest_30 : decode cX11_furthest 30 = .ok (.ireturn, 1) := by decide +kernel
theorem dX11_furthest_31 : decode cX11_furthest 31 = .ok (.bipush (-2), 2) := by decide +kernel
theorem dX11_furthest_33 : decode cX11_furthest 33 = .ok (.istore_n 3, 1) := by decide +kernel
theorem dX11_furthest_34 : decode cX11_furthest 34 = .ok (.bipush (-2), 2) := by decide +kernel
theorem dX11_furthest_36 : decode cX11_furthest 36 = .ok (.istore 4, 2) := by decide +kernel
theorem dX11_furthest_38 : decode cX11_furthest 38 = .ok (.iconst 0, 1) := by decide +kernel
theorem dX11_furthest_39 : decode cX11_furthest 39 = .ok (.istore 5, 2) := by decide +kernel
theorem dX11_furthest_41 : decode cX11_furthest 41 = .ok (.iload 5, 2) := by decide +kernel
theorem dX11_furthest_43 : decode cX11_furthest 43 = .ok (.aload_n 0, 1) := by decide +kernel
theorem dX11_furthest_44 : decode cX11_furthest 44 = .ok (.getfield 95, 3) := by decide +kernel
theorem dX11_furthest_47 : decode cX11_furthest 47 = .ok (.bipush 7, 2) := by decide +kernel
theorem dX11_furthest_49 : decode cX11_furthest 49 = .ok (.iaload, 1) := by decide +kernel
theorem dX11_furthest_50 : decode cX11_furthest 50 = .ok (.if_icmp .ge 53, 3) := by decide +kernel
theorem dX11_furthest_53 : decode cX11_furthest 53 = .ok (.aload_n 0, 1) := by decide +kernel
theorem dX11_furthest_54 : decode cX11_furthest 54 = .ok (.invokevirtual 345, 3) := by decide +kernel
theorem dX11_furthest_57 : decode cX11_furthest 57 = .ok (.aload_n 0, 1) := by decide +kernel
theorem dX11_furthest_58 : decode cX11_furthest 58 = .ok (.aload_n 0, 1) := by decide +kernel
theorem dX11_furthest_59 : decode cX11_furthest 59 = .ok (.iload_n 1, 1) := by decide +kernel
theorem dX11_furthest_60 : decode cX11_furthest 60 = .ok (.invokevirtual 293, 3) := by decide +kernel
theorem dX11_furthest_63 : decode cX11_furthest 63 = .ok (.iload 5, 2) := by decide +kernel
theorem dX11_furthest_65 : decode cX11_furthest 65 = .ok (.invokevirtual 330, 3) := by decide +kernel
theorem dX11_furthest_68 : decode cX11_furthest 68 = .ok (.aload_n 0, 1) := by decide +kernel
theorem dX11_furthest_69 : decode cX11_furthest 69 = .ok (.iload 5, 2) := by decide +kernel
theorem dX11_furthest_71 : decode cX11_furthest 71 = .ok (.invokevirtual 324, 3) := by decide +kernel
theorem dX11_furthest_74 : decode cX11_furthest 74 = .ok (.istore 6, 2) := by decide +kernel
theorem dX11_furthest_76 : decode cX11_furthest 76 = .ok (.iload_n 3, 1) := by decide +kernel
theorem dX11_furthest_77 : decode cX11_furthest 77 = .ok (.ifCond .lt 13, 3) := by decide +kernel
theorem dX11_furthest_80 : decode cX11_furthest 80 = .ok (.iload 6, 2) := by decide +kernel
theorem dX11_furthest_82 : decode cX11_furthest 82 = .ok (.iload 4, 2) := by decide +kernel
theorem dX11_furthest_84 : decode cX11_furthest 84 = .ok (.if_icmp .lt 6, 3) := by decide +kernel
theorem dX11_furthest_87 : decode cX11_furthest 87 = .ok (.goto 10, 3) := by decide +kernel
theorem dX11_furthest_90 : decode cX11_furthest 90 = .ok (.iload 5, 2) := by decide +kernel
theorem dX11_furthest_92 : decode cX11_furthest 92 = .ok (.istore_n 3, 1) := by decide +kernel
theorem dX11_furthest_93 : decode cX11_furthest 93 = .ok (.iload 6, 2) := by decide +kernel
theorem dX11_furthest_95 : decode cX11_furthest 95 = .ok (.istore 4, 2) := by decide +kernel
theorem dX11_furthest_97 : decode cX11_furthest 97 = .ok (.iinc 5 1, 3) := by decide +kernel
theorem dX11_furthest_100 : decode cX11_furthest 100 = .ok (.goto (-59), 3) := by decide +kernel
theorem dX11_furthest_103 : decode cX11_furthest 103 = .ok (.iload_n 2, 1) := by decide +kernel
theorem dX11_furthest_104 : decode cX11_furthest 104 = .ok (.ifCond .ne 7, 3) := by decide +kernel
theorem dX11_furthest_107 : decode cX11_furthest 107 = .ok (.iload_n 3, 1) := by decide +kernel
theorem dX11_furthest_108 : decode cX11_furthest 108 = .ok (.goto 5, 3) := by decide +kernel
theorem dX11_furthest_111 : decode cX11_furthest 111 = .ok (.iload 4, 2) := by decide +kernel
theorem dX11_furthest_113 : decode cX11_furthest 113 = .ok (.ireturn, 1) := by decide +kernel
theorem dX11_then_0 : decode cX11_then 0 = .ok (.aload_n 0, 1) := by decide +kernel
theorem dX11_then_1 : decode cX11_then 1 = .ok (.iload_n 1, 1) := by decide +kernel
theorem dX11_then_2 : decode cX11_then 2 = .ok (.invokevirtual 342, 3) := by decide +kernel
theorem dX11_then_5 : decode cX11_then 5 = .ok (.ifCond .eq 10, 3) := by decide +kernel
theorem dX11_then_8 : decode cX11_then 8 = .ok (.iload_n 2, 1) := by decide +kernel
theorem dX11_then_9 : decode cX11_then 9 = .ok (.invokestatic 368, 3) := by decide +kernel
theorem dX11_then_12 : decode cX11_then 12 = .ok (.ifCond .ne 5, 3) := by decide +kernel
theorem dX11_then_15 : decode cX11_then 15 = .ok (.iconst (-1), 1) := by decide +kernel
theorem dX11_then_16 : decode cX11_then 16 = .ok (.ireturn, 1) := by decide +kernel
theorem dX11_then_17 : decode cX11_then 17 = .ok (.aload_n 0, 1) := by decide +kernel
theorem dX11_then_18 : decode cX11_then 18 = .ok (.invokevirtual 345, 3) := by decide +kernel
theorem dX11_then_21 : decode cX11_then 21 = .ok (.aload_n 0, 1) := by decide +kernel
theorem dX11_then_22 : decode cX11_then 22 = .ok (.iload_n 2, 1) := by decide +kernel
theorem dX11_then_23 : decode cX11_then 23 = .ok (.invokevirtual 371, 3) := by decide +kernel
theorem dX11_then_26 : decode cX11_then 26 = .ok (.aload_n 0, 1) := by decide +kernel
theorem dX11_then_27 : decode cX11_then 27 = .ok (.getfield 98, 3) := by decide +kernel
theorem dX11_then_30 : decode cX11_then 30 = .ok (.bipush 17, 2) := by decide +kernel
theorem dX11_then_32 : decode cX11_then 32 = .ok (.iload_n 1, 1) := by decide +kernel
theorem dX11_then_33 : decode cX11_then 33 = .ok (.iadd, 1) := by decide +kernel
theorem dX11_then_34 : decode cX11_then 34 = .ok (.iaload, 1) := by decide +kernel
theorem dX11_then_35 : decode cX11_then 35 = .ok (.ireturn, 1) := by decide +kernel
theorem dX11_listIn_0 : decode cX11_listIn 0 = .ok (.iload_n 1, 1) := by decide +kernel
theorem dX11_listIn_1 : decode cX11_listIn 1 = .ok (.invokestatic 368, 3) := by decide +kernel
theorem dX11_listIn_4 : decode cX11_listIn 4 = .ok (.ifCond .eq 12, 3) := by decide +kernel
theorem dX11_listIn_7 : decode cX11_listIn 7 = .ok (.iload_n 2, 1) := by decide +kernel
theorem dX11_listIn_8 : decode cX11_listIn 8 = .ok (.iconst 0, 1) := by decide +kernel
theorem dX11_listIn_9 : decode cX11_listIn 9 = .ok (.iconst 1, 1) := by decide +kernel
theorem dX11_listIn_10 : decode cX11_listIn 10 = .ok (.invokestatic 282, 3) := by decide +kernel
theorem dX11_listIn_13 : decode cX11_listIn 13 = .ok (.ifCond .ne 5, 3) := by decide +kernel
theorem dX11_listIn_16 : decode cX11_listIn 16 = .ok (.iconst (-1), 1) := by decide +kernel
theorem dX11_listIn_17 : decode cX11_listIn 17 = .ok (.ireturn, 1) := by decide +kernel
theorem dX11_listIn_18 : decode cX11_listIn 18 = .ok (.aload_n 0, 1) := by decide +kernel
theorem dX11_listIn_19 : decode cX11_listIn 19 = .ok (.invokevirtual 345, 3) := by decide +kernel
theorem dX11_listIn_22 : decode cX11_listIn 22 = .ok (.aload_n 0, 1) := by decide +kernel
theorem dX11_listIn_23 : decode cX11_listIn 23 = .ok (.iload_n 1, 1) := by decide +kernel
theorem dX11_listIn_24 : decode cX11_listIn 24 = .ok (.invokevirtual 371, 3) := by decide +kernel
theorem dX11_listIn_27 : decode cX11_listIn 27 = .ok (.iload_n 2, 1) := by decide +kernel
theorem dX11_listIn_28 : decode cX11_listIn 28 = .ok (.ifCond .ne 13, 3) := by decide +kernel
theorem dX11_listIn_31 : decode cX11_listIn 31 = .ok (.aload_n 0, 1) := by decide +kernel
theorem dX11_listIn_32 : decode cX11_listIn 32 = .ok (.getfield 98, 3) := by decide +kernel
theorem dX11_listIn_35 : decode cX11_listIn 35 = .ok (.bipush 7, 2) := by decide +kernel
theorem dX11_listIn_37 : decode cX11_listIn 37 = .ok (.iaload, 1) := by decide +kernel
theorem dX11_listIn_38 : decode cX11_listIn 38 = .ok (.goto 10, 3) := by decide +kernel
theorem dX11_listIn_41 : decode cX11_listIn 41 = .ok (.aload_n 0, 1) := by decide +kernel
theorem dX11_listIn_42 : decode cX11_listIn 42 = .ok (.getfield 98, 3) := by decide +kernel
theorem dX11_listIn_45 : decode cX11_listIn 45 = .ok (.bipush 9, 2) := by decide +kernel
theorem dX11_listIn_47 : decode cX11_listIn 47 = .ok (.iaload, 1) := by decide +kernel
theorem dX11_listIn_48 : decode cX11_listIn 48 = .ok (.ireturn, 1) := by decide +kernel
theorem dX11_year_0 : decode cX11_year 0 = .ok (.aload_n 0, 1) := by decide +kernel
theorem dX11_year_1 : decode cX11_year 1 = .ok (.iload_n 1, 1) := by decide +kernel
theorem dX11_year_2 : decode cX11_year 2 = .ok (.invokevirtual 342, 3) := by decide +kernel
theorem dX11_year_5 : decode cX11_year 5 = .ok (.ifCond .eq 20, 3) := by decide +kernel
theorem dX11_year_8 : decode cX11_year 8 = .ok (.iload_n 2, 1) := by decide +kernel
theorem dX11_year_9 : decode cX11_year 9 = .ok (.invokestatic 368, 3) := by decide +kernel
theorem dX11_year_12 : decode cX11_year 12 = .ok (.ifCond .eq 13, 3) := by decide +kernel
theorem dX11_year_15 : decode cX11_year 15 = .ok (.iload_n 3, 1) := by decide +kernel
theorem dX11_year_16 : decode cX11_year 16 = .ok (.iconst 1, 1) := by decide +kernel
theorem dX11_year_17 : decode cX11_year 17 = .ok (.bipush 20, 2) := by decide +kernel
theorem dX11_year_19 : decode cX11_year 19 = .ok (.invokestatic 282, 3) := by decide +kernel
theorem dX11_year_22 : decode cX11_year 22 = .ok (.ifCond .ne 5, 3) := by decide +kernel
theorem dX11_year_25 : decode cX11_year 25 = .ok (.iconst (-1), 1) := by decide +kernel
theorem dX11_year_26 : decode cX11_year 26 = .ok (.ireturn, 1) := by decide +kernel
theorem dX11_year_27 : decode cX11_year 27 = .ok (.iconst 0, 1) := by decide +kernel
theorem dX11_year_28 : decode cX11_year 28 = .ok (.istore 4, 2) := by decide +kernel
theorem dX11_year_30 : decode cX11_year 30 = .ok (.iconst 0, 1) := by decide +kernel
theorem dX11_year_31 : decode cX11_year 31 = .ok (.istore 5, 2) := by decide +kernel
theorem dX11_year_33 : decode cX11_year 33 = .ok (.iload 5, 2) := by decide +kernel
theorem dX11_year_35 : decode cX11_year 35 = .ok (.iload_n 3, 1) := by decide +kernel
theorem dX11_year_36 : decode cX11_year 36 = .ok (.if_icmp .ge 40, 3) := by decide +kernel
theorem dX11_year_39 : decode cX11_year 39 = .ok (.aload_n 0, 1) := by decide +kernel
theorem dX11_year_40 : decode cX11_year 40 = .ok (.invokevirtual 345, 3) := by decide +kernel
theorem dX11_year_43 : decode cX11_year 43 = .ok (.aload_n 0, 1) := by decide +kernel
theorem dX11_year_44 : decode cX11_year 44 = .ok (.dup, 1) := by decide +kernel
theorem dX11_year_45 : decode cX11_year 45 = .ok (.getfield 286, 3) := by decide +kernel
theorem dX11_year_48 : decode cX11_year 48 = .ok (.iload 5, 2) := by decide +kernel
theorem dX11_year_50 : decode cX11_year 50 = .ok (.iadd, 1) := by decide +kernel
theorem dX11_year_51 : decode cX11_year 51 = .ok (.putfield 286, 3) := by decide +kernel
theorem dX11_year_54 : decode cX11_year 54 = .ok (.aload_n 0, 1) := by decide +kernel
theorem dX11_year_55 : decode cX11_year 55 = .ok (.iload_n 2, 1) := by decide +kernel
theorem dX11_year_56 : decode cX11_year 56 = .ok (.invokevirtual 371, 3) := by decide +kernel
theorem dX11_year_59 : decode cX11_year 59 = .ok (.aload_n 0, 1) := by decide +kernel
theorem dX11_year_60 : decode cX11_year 60 = .ok (.iload_n 1, 1) := by decide +kernel
theorem dX11_year_61 : decode cX11_year 61 = .ok (.invokevirtual 348, 3) := by decide +kernel
theorem dX11_year_64 : decode cX11_year 64 = .ok (.ifCond .eq 6, 3) := by decide +kernel
theorem dX11_year_67 : decode cX11_year 67 = .ok (.iinc 4 1, 3) := by decide +kernel
theorem dX11_year_70 : decode cX11_year 70 = .ok (.iinc 5 1, 3) := by decide +kernel
theorem dX11_year_73 : decode cX11_year 73 = .ok (.goto (-40), 3) := by decide +kernel
theorem dX11_year_76 : decode cX11_year 76 = .ok (.iload 4, 2) := by decide +kernel
theorem dX11_year_78 : decode cX11_year 78 = .ok (.ireturn, 1) := by decide +kernel
theorem dX11_isMark_0 : decode cX11_isMark 0 = .ok (.iload_n 0, 1) := by decide +kernel
theorem dX11_isMark_1 : decode cX11_isMark 1 = .ok (.iconst 0, 1) := by decide +kernel
theorem dX11_isMark_2 : decode cX11_isMark 2 = .ok (.sipush 999, 3) := by decide +kernel
theorem dX11_isMark_5 : decode cX11_isMark 5 = .ok (.invokestatic 282, 3) := by decide +kernel
theorem dX11_isMark_8 : decode cX11_isMark 8 = .ok (.ireturn, 1) := by decide +kernel
theorem dX11_tell_0 : decode cX11_tell 0 = .ok (.aload_n 0, 1) := by decide +kernel
theorem dX11_tell_1 : decode cX11_tell 1 = .ok (.getfield 233, 3) := by decide +kernel
theorem dX11_tell_4 : decode cX11_tell 4 = .ok (.bipush 20, 2) := by decide +kernel
theorem dX11_tell_6 : decode cX11_tell 6 = .ok (.if_icmp .eq 20, 3) := by decide +kernel
theorem dX11_tell_9 : decode cX11_tell 9 = .ok (.iload_n 1, 1) := by decide +kernel
theorem dX11_tell_10 : decode cX11_tell 10 = .ok (.iconst 0, 1) := by decide +kernel
theorem dX11_tell_11 : decode cX11_tell 11 = .ok (.bipush 6, 2) := by decide +kernel
theorem dX11_tell_13 : decode cX11_tell 13 = .ok (.invokestatic 282, 3) := by decide +kernel
theorem dX11_tell_16 : decode cX11_tell 16 = .ok (.ifCond .eq 10, 3) := by decide +kernel
theorem dX11_tell_19 : decode cX11_tell 19 = .ok (.iload_n 2, 1) := by decide +kernel
theorem dX11_tell_20 : decode cX11_tell 20 = .ok (.invokestatic 427, 3) := by decide +kernel
theorem dX11_tell_23 : decode cX11_tell 23 = .ok (.ifCond .ne 5, 3) := by decide +kernel
theorem dX11_tell_26 : decode cX11_tell 26 = .ok (.iconst (-1), 1) := by decide +kernel
theorem dX11_tell_27 : decode cX11_tell 27 = .ok (.ireturn, 1) := by decide +kernel
theorem dX11_tell_28 : decode cX11_tell 28 = .ok (.aload_n 0, 1) := by decide +kernel
theorem dX11_tell_29 : decode cX11_tell 29 = .ok (.getfield 110, 3) := by decide +kernel
theorem dX11_tell_32 : decode cX11_tell 32 = .ok (.aload_n 0, 1) := by decide +kernel
theorem dX11_tell_33 : decode cX11_tell 33 = .ok (.getfield 233, 3) := by decide +kernel
theorem dX11_tell_36 : decode cX11_tell 36 = .ok (.iload_n 1, 1) := by decide +kernel
theorem dX11_tell_37 : decode cX11_tell 37 = .ok (.iastore, 1) := by decide +kernel
theorem dX11_tell_38 : decode cX11_tell 38 = .ok (.aload_n 0, 1) := by decide +kernel
theorem dX11_tell_39 : decode cX11_tell 39 = .ok (.getfield 113, 3) := by decide +kernel
theorem dX11_tell_42 : decode cX11_tell 42 = .ok (.aload_n 0, 1) := by decide +kernel
theorem dX11_tell_43 : decode cX11_tell 43 = .ok (.getfield 233, 3) := by decide +kernel
theorem dX11_tell_46 : decode cX11_tell 46 = .ok (.iload_n 2, 1) := by decide +kernel
theorem dX11_tell_47 : decode cX11_tell 47 = .ok (.iastore, 1) := by decide +kernel
theorem dX11_tell_48 : decode cX11_tell 48 = .ok (.aload_n 0, 1) := by decide +kernel
theorem dX11_tell_49 : decode cX11_tell 49 = .ok (.getfield 116, 3) := by decide +kernel
theorem dX11_tell_52 : decode cX11_tell 52 = .ok (.aload_n 0, 1) := by decide +kernel
theorem dX11_tell_53 : decode cX11_tell 53 = .ok (.getfield 233, 3) := by decide +kernel
theorem dX11_tell_56 : decode cX11_tell 56 = .ok (.iload_n 3, 1) := by decide +kernel
theorem dX11_tell_57 : decode cX11_tell 57 = .ok (.bastore, 1) := by decide +kernel
theorem dX11_tell_58 : decode cX11_tell 58 = .ok (.aload_n 0, 1) := by decide +kernel
theorem dX11_tell_59 : decode cX11_tell 59 = .ok (.dup, 1) := by decide +kernel
theorem dX11_tell_60 : decode cX11_tell 60 = .ok (.getfield 233, 3) := by decide +kernel
theorem dX11_tell_63 : decode cX11_tell 63 = .ok (.iconst 1, 1) := by decide +kernel
theorem dX11_tell_64 : decode cX11_tell 64 = .ok (.iadd, 1) := by decide +kernel
theorem dX11_tell_65 : decode cX11_tell 65 = .ok (.putfield 233, 3) := by decide +kernel
theorem dX11_tell_68 : decode cX11_tell 68 = .ok (.aload_n 0, 1) := by decide +kernel
theorem dX11_tell_69 : decode cX11_tell 69 = .ok (.getfield 233, 3) := by decide +kernel
theorem dX11_tell_72 : decode cX11_tell 72 = .ok (.iconst 1, 1) := by decide +kernel
theorem dX11_tell_73 : decode cX11_tell 73 = .ok (.isub, 1) := by decide +kernel
theorem dX11_tell_74 : decode cX11_tell 74 = .ok (.ireturn, 1) := by decide +kernel
theorem dX11_forget_0 : decode cX11_forget 0 = .ok (.aload_n 0, 1) := by decide +kernel
theorem dX11_forget_1 : decode cX11_forget 1 = .ok (.getfield 233, 3) := by decide +kernel
theorem dX11_forget_4 : decode cX11_forget 4 = .ok (.istore_n 1, 1) := by decide +kernel
theorem dX11_forget_5 : decode cX11_forget 5 = .ok (.aload_n 0, 1) := by decide +kernel
theorem dX11_forget_6 : decode cX11_forget 6 = .ok (.iconst 0, 1) := by decide +kernel
theorem dX11_forget_7 : decode cX11_forget 7 = .ok (.putfield 233, 3) := by decide +kernel
theorem dX11_forget_10 : decode cX11_forget 10 = .ok (.iload_n 1, 1) := by decide +kernel
theorem dX11_forget_11 : decode cX11_forget 11 = .ok (.ireturn, 1) := by decide +kernel
theorem dX11_doesFit_0 : decode cX11_doesFit 0 = .ok (.iconst 0, 1) := by decide +kernel
theorem dX11_doesFit_1 : decode cX11_doesFit 1 = .ok (.istore_n 2, 1) := by decide +kernel
theorem dX11_doesFit_2 : decode cX11_doesFit 2 = .ok (.iload_n 2, 1) := by decide +kernel
theorem dX11_doesFit_3 : decode cX11_doesFit 3 = .ok (.aload_n 0, 1) := by decide +kernel
theorem dX11_doesFit_4 : decode cX11_doesFit 4 = .ok (.getfield 98, 3) := by decide +kernel
theorem dX11_doesFit_7 : decode cX11_doesFit 7 = .ok (.bipush 7, 2) := by decide +kernel
theorem dX11_doesFit_9 : decode cX11_doesFit 9 = .ok (.iaload, 1) := by decide +kernel
theorem dX11_doesFit_10 : decode cX11_doesFit 10 = .ok (.if_icmp .ge 20, 3) := by decide +kernel
theorem dX11_doesFit_13 : decode cX11_doesFit 13 = .ok (.aload_n 0, 1) := by decide +kernel
theorem dX11_doesFit_14 : decode cX11_doesFit 14 = .ok (.getfield 119, 3) := by decide +kernel
theorem dX11_doesFit_17 : decode cX11_doesFit 17 = .ok (.iload_n 2, 1) := by decide +kernel
theorem dX11_doesFit_18 : decode cX11_doesFit 18 = .ok (.aload_n 0, 1) := by decide +kernel
theorem dX11_doesFit_19 : decode cX11_doesFit 19 = .ok (.iload_n 2, 1) := by decide +kernel
theorem dX11_doesFit_20 : decode cX11_doesFit 20 = .ok (.invokevirtual 324, 3) := by decide +kernel
theorem dX11_doesFit_23 : decode cX11_doesFit 23 = .ok (.iastore, 1) := by decide +kernel
theorem dX11_doesFit_24 : decode cX11_doesFit 24 = .ok (.iinc 2 1, 3) := by decide +kernel
theorem dX11_doesFit_27 : decode cX11_doesFit 27 = .ok (.goto (-25), 3) := by decide +kernel
theorem dX11_doesFit_30 : decode cX11_doesFit 30 = .ok (.iconst 0, 1) := by decide +kernel
theorem dX11_doesFit_31 : decode cX11_doesFit 31 = .ok (.istore_n 2, 1) := by decide +kernel
theorem dX11_doesFit_32 : decode cX11_doesFit 32 = .ok (.iload_n 2, 1) := by decide +kernel
theorem dX11_doesFit_33 : decode cX11_doesFit 33 = .ok (.iload_n 1, 1) := by decide +kernel
theorem dX11_doesFit_34 : decode cX11_doesFit 34 = .ok (.if_icmp .ge 61, 3) := by decide +kernel
theorem dX11_doesFit_37 : decode cX11_doesFit 37 = .ok (.aload_n 0, 1) := by decide +kernel
theorem dX11_doesFit_38 : decode cX11_doesFit 38 = .ok (.getfield 110, 3) := by decide +kernel
theorem dX11_doesFit_41 : decode cX11_doesFit 41 = .ok (.iload_n 2, 1) := by decide +kernel
theorem dX11_doesFit_42 : decode cX11_doesFit 42 = .ok (.iaload, 1) := by decide +kernel
theorem dX11_doesFit_43 : decode cX11_doesFit 43 = .ok (.aload_n 0, 1) := by decide +kernel
theorem dX11_doesFit_44 : decode cX11_doesFit 44 = .ok (.getfield 98, 3) := by decide +kernel
theorem dX11_doesFit_47 : decode cX11_doesFit 47 = .ok (.bipush 7, 2) := by decide +kernel
theorem dX11_doesFit_49 : decode cX11_doesFit 49 = .ok (.iaload, 1) := by decide +kernel
theorem dX11_doesFit_50 : decode cX11_doesFit 50 = .ok (.if_icmp .ge 37, 3) := by decide +kernel
theorem dX11_doesFit_53 : decode cX11_doesFit 53 = .ok (.aload_n 0, 1) := by decide +kernel
theorem dX11_doesFit_54 : decode cX11_doesFit 54 = .ok (.getfield 119, 3) := by decide +kernel
theorem dX11_doesFit_57 : decode cX11_doesFit 57 = .ok (.aload_n 0, 1) := by decide +kernel
theorem dX11_doesFit_58 : decode cX11_doesFit 58 = .ok (.getfield 110, 3) := by decide +kernel
theorem dX11_doesFit_61 : decode cX11_doesFit 61 = .ok (.iload_n 2, 1) := by decide +kernel
theorem dX11_doesFit_62 : decode cX11_doesFit 62 = .ok (.iaload, 1) := by decide +kernel
theorem dX11_doesFit_63 : decode cX11_doesFit 63 = .ok (.iaload, 1) := by decide +kernel
theorem dX11_doesFit_64 : decode cX11_doesFit 64 = .ok (.aload_n 0, 1) := by decide +kernel
theorem dX11_doesFit_65 : decode cX11_doesFit 65 = .ok (.getfield 113, 3) := by decide +kernel
theorem dX11_doesFit_68 : decode cX11_doesFit 68 = .ok (.iload_n 2, 1) := by decide +kernel
theorem dX11_doesFit_69 : decode cX11_doesFit 69 = .ok (.iaload, 1) := by decide +kernel
theorem dX11_doesFit_70 : decode cX11_doesFit 70 = .ok (.if_icmp .lt 7, 3) := by decide +kernel
theorem dX11_doesFit_73 : decode cX11_doesFit 73 = .ok (.iconst 1, 1) := by decide +kernel
theorem dX11_doesFit_74 : decode cX11_doesFit 74 = .ok (.goto 4, 3) := by decide +kernel
theorem dX11_doesFit_77 : decode cX11_doesFit 77 = .ok (.iconst 0, 1) := by decide +kernel
theorem dX11_doesFit_78 : decode cX11_doesFit 78 = .ok (.aload_n 0, 1) := by decide +kernel
theorem dX11_doesFit_79 : decode cX11_doesFit 79 = .ok (.getfield 116, 3) := by decide +kernel
theorem dX11_doesFit_82 : decode cX11_doesFit 82 = .ok (.iload_n 2, 1) := by decide +kernel
theorem dX11_doesFit_83 : decode cX11_doesFit 83 = .ok (.baload, 1) := by decide +kernel
theorem dX11_doesFit_84 : decode cX11_doesFit 84 = .ok (.if_icmp .eq 5, 3) := by decide +kernel
theorem dX11_doesFit_87 : decode cX11_doesFit 87 = .ok (.iconst 0, 1) := by decide +kernel
theorem dX11_doesFit_88 : decode cX11_doesFit 88 = .ok (.ireturn, 1) := by decide +kernel
theorem dX11_doesFit_89 : decode cX11_doesFit 89 = .ok (.iinc 2 1, 3) := by decide +kernel
theorem dX11_doesFit_92 : decode cX11_doesFit 92 = .ok (.goto (-60), 3) := by decide +kernel
theorem dX11_doesFit_95 : decode cX11_doesFit 95 = .ok (.iconst 1, 1) := by decide +kernel
theorem dX11_doesFit_96 : decode cX11_doesFit 96 = .ok (.ireturn, 1) := by decide +kernel
theorem dX11_numberNow_0 : decode cX11_numberNow 0 = .ok (.iconst 0, 1) := by decide +kernel
theorem dX11_numberNow_1 : decode cX11_numberNow 1 = .ok (.istore_n 1, 1) := by decide +kernel
theorem dX11_numberNow_2 : decode cX11_numberNow 2 = .ok (.iconst 0, 1) := by decide +kernel
theorem dX11_numberNow_3 : decode cX11_numberNow 3 = .ok (.istore_n 2, 1) := by decide +kernel
theorem dX11_numberNow_4 : decode cX11_numberNow 4 = .ok (.iload_n 2, 1) := by decide +kernel
theorem dX11_numberNow_5 : decode cX11_numberNow 5 = .ok (.aload_n 0, 1) := by decide +kernel
theorem dX11_numberNow_6 : decode cX11_numberNow 6 = .ok (.getfield 98, 3) := by decide +kernel
theorem dX11_numberNow_9 : decode cX11_numberNow 9 = .ok (.bipush 7, 2) := by decide +kernel
theorem dX11_numberNow_11 : decode cX11_numberNow 11 = .ok (.iaload, 1) := by decide +kernel
theorem dX11_numberNow_12 : decode cX11_numberNow 12 = .ok (.if_icmp .ge 21, 3) := by decide +kernel
theorem dX11_numberNow_15 : decode cX11_numberNow 15 = .ok (.bipush 8, 2) := by decide +kernel
theorem dX11_numberNow_17 : decode cX11_numberNow 17 = .ok (.iload_n 1, 1) := by decide +kernel
theorem dX11_numberNow_18 : decode cX11_numberNow 18 = .ok (.imul, 1) := by decide +kernel
theorem dX11_numberNow_19 : decode cX11_numberNow 19 = .ok (.aload_n 0, 1) := by decide +kernel
theorem dX11_numberNow_20 : decode cX11_numberNow 20 = .ok (.getfield 98, 3) := by decide +kernel
theorem dX11_numberNow_23 : decode cX11_numberNow 23 = .ok (.iload_n 2, 1) := by decide +kernel
theorem dX11_numberNow_24 : decode cX11_numberNow 24 = .ok (.iaload, 1) := by decide +kernel
theorem dX11_numberNow_25 : decode cX11_numberNow 25 = .ok (.iadd, 1) := by decide +kernel
theorem dX11_numberNow_26 : decode cX11_numberNow 26 = .ok (.istore_n 1, 1) := by decide +kernel
theorem dX11_numberNow_27 : decode cX11_numberNow 27 = .ok (.iinc 2 1, 3) := by decide +kernel
theorem dX11_numberNow_30 : decode cX11_numberNow 30 = .ok (.goto (-26), 3) := by decide +kernel
theorem dX11_numberNow_33 : decode cX11_numberNow 33 = .ok (.iload_n 1, 1) := by decide +kernel
theorem dX11_numberNow_34 : decode cX11_numberNow 34 = .ok (.ireturn, 1) := by decide +kernel
theorem dX11_fits_0 : decode cX11_fits 0 = .ok (.iload_n 1, 1) := by decide +kernel
theorem dX11_fits_1 : decode cX11_fits 1 = .ok (.iconst 0, 1) := by decide +kernel
theorem dX11_fits_2 : decode cX11_fits 2 = .ok (.aload_n 0, 1) := by decide +kernel
theorem dX11_fits_3 : decode cX11_fits 3 = .ok (.getfield 233, 3) := by decide +kernel
theorem dX11_fits_6 : decode cX11_fits 6 = .ok (.invokestatic 282, 3) := by decide +kernel
theorem dX11_fits_9 : decode cX11_fits 9 = .ok (.ifCond .eq 12, 3) := by decide +kernel
theorem dX11_fits_12 : decode cX11_fits 12 = .ok (.iload_n 2, 1) := by decide +kernel
theorem dX11_fits_13 : decode cX11_fits 13 = .ok (.iconst 0, 1) := by decide +kernel
theorem dX11_fits_14 : decode cX11_fits 14 = .ok (.iconst 1, 1) := by decide +kernel
theorem dX11_fits_15 : decode cX11_fits 15 = .ok (.invokestatic 282, 3) := by decide +kernel
theorem dX11_fits_18 : decode cX11_fits 18 = .ok (.ifCond .ne 5, 3) := by decide +kernel
theorem dX11_fits_21 : decode cX11_fits 21 = .ok (.iconst (-1), 1) := by decide +kernel
theorem dX11_fits_22 : decode cX11_fits 22 = .ok (.ireturn, 1) := by decide +kernel
theorem dX11_fits_23 : decode cX11_fits 23 = .ok (.aload_n 0, 1) := by decide +kernel
theorem dX11_fits_24 : decode cX11_fits 24 = .ok (.invokevirtual 345, 3) := by decide +kernel
theorem dX11_fits_27 : decode cX11_fits 27 = .ok (.aload_n 0, 1) := by decide +kernel
theorem dX11_fits_28 : decode cX11_fits 28 = .ok (.invokevirtual 384, 3) := by decide +kernel
theorem dX11_fits_31 : decode cX11_fits 31 = .ok (.iconst 0, 1) := by decide +kernel
theorem dX11_fits_32 : decode cX11_fits 32 = .ok (.istore_n 3, 1) := by decide +kernel
theorem dX11_fits_33 : decode cX11_fits 33 = .ok (.bipush (-2), 2) := by decide +kernel
theorem dX11_fits_35 : decode cX11_fits 35 = .ok (.istore 4, 2) := by decide +kernel
theorem dX11_fits_37 : decode cX11_fits 37 = .ok (.iconst 1, 1) := by decide +kernel
theorem dX11_fits_38 : decode cX11_fits 38 = .ok (.istore 5, 2) := by decide +kernel
theorem dX11_fits_40 : decode cX11_fits 40 = .ok (.iload 5, 2) := by decide +kernel
theorem dX11_fits_42 : decode cX11_fits 42 = .ok (.ifCond .eq 34, 3) := by decide +kernel
theorem dX11_fits_45 : decode cX11_fits 45 = .ok (.aload_n 0, 1) := by decide +kernel
theorem dX11_fits_46 : decode cX11_fits 46 = .ok (.iload_n 1, 1) := by decide +kernel
theorem dX11_fits_47 : decode cX11_fits 47 = .ok (.invokevirtual 430, 3) := by decide +kernel
theorem dX11_fits_50 : decode cX11_fits 50 = .ok (.ifCond .eq 17, 3) := by decide +kernel
theorem dX11_fits_53 : decode cX11_fits 53 = .ok (.iinc 3 1, 3) := by decide +kernel
theorem dX11_fits_56 : decode cX11_fits 56 = .ok (.iload 4, 2) := by decide +kernel
theorem dX11_fits_58 : decode cX11_fits 58 = .ok (.ifCond .ge 9, 3) := by decide +kernel
theorem dX11_fits_61 : decode cX11_fits 61 = .ok (.aload_n 0, 1) := by decide +kernel
theorem dX11_fits_62 : decode cX11_fits 62 = .ok (.invokevirtual 433, 3) := by decide +kernel
theorem dX11_fits_65 : decode cX11_fits 65 = .ok (.istore 4, 2) := by decide +kernel
theorem dX11_fits_67 : decode cX11_fits 67 = .ok (.aload_n 0, 1) := by decide +kernel
theorem dX11_fits_68 : decode cX11_fits 68 = .ok (.invokevirtual 393, 3) := by decide +kernel
theorem dX11_fits_71 : decode cX11_fits 71 = .ok (.istore 5, 2) := by decide +kernel
theorem dX11_fits_73 : decode cX11_fits 73 = .ok (.goto (-33), 3) := by decide +kernel
theorem dX11_fits_76 : decode cX11_fits 76 = .ok (.iload_n 2, 1) := by decide +kernel
theorem dX11_fits_77 : decode cX11_fits 77 = .ok (.ifCond .ne 7, 3) := by decide +kernel
theorem dX11_fits_80 : decode cX11_fits 80 = .ok (.iload_n 3, 1) := by decide +kernel
theorem dX11_fits_81 : decode cX11_fits 81 = .ok (.goto 5, 3) := by decide +kernel
theorem dX11_fits_84 : decode cX11_fits 84 = .ok (.iload 4, 2) := by decide +kernel
theorem dX11_fits_86 : decode cX11_fits 86 = .ok (.ireturn, 1) := by decide +kernel
theorem dX11_ask_0 : decode cX11_ask 0 = .ok (.iload_n 1, 1) := by decide +kernel
theorem dX11_ask_1 : decode cX11_ask 1 = .ok (.iconst 0, 1) := by decide +kernel
theorem dX11_ask_2 : decode cX11_ask 2 = .ok (.aload_n 0, 1) := by decide +kernel
theorem dX11_ask_3 : decode cX11_ask 3 = .ok (.getfield 233, 3) := by decide +kernel
theorem dX11_ask_6 : decode cX11_ask 6 = .ok (.invokestatic 282, 3) := by decide +kernel
theorem dX11_ask_9 : decode cX11_ask 9 = .ok (.ifCond .eq 10, 3) := by decide +kernel
theorem dX11_ask_12 : decode cX11_ask 12 = .ok (.iload_n 2, 1) := by decide +kernel
theorem dX11_ask_13 : decode cX11_ask 13 = .ok (.invokestatic 427, 3) := by decide +kernel
theorem dX11_ask_16 : decode cX11_ask 16 = .ok (.ifCond .ne 5, 3) := by decide +kernel
theorem dX11_ask_19 : decode cX11_ask 19 = .ok (.iconst (-1), 1) := by decide +kernel
theorem dX11_ask_20 : decode cX11_ask 20 = .ok (.ireturn, 1) := by decide +kernel
theorem dX11_ask_21 : decode cX11_ask 21 = .ok (.aload_n 0, 1) := by decide +kernel
theorem dX11_ask_22 : decode cX11_ask 22 = .ok (.invokevirtual 345, 3) := by decide +kernel
theorem dX11_ask_25 : decode cX11_ask 25 = .ok (.aload_n 0, 1) := by decide +kernel
theorem dX11_ask_26 : decode cX11_ask 26 = .ok (.invokevirtual 384, 3) := by decide +kernel
theorem dX11_ask_29 : decode cX11_ask 29 = .ok (.iconst 0, 1) := by decide +kernel
theorem dX11_ask_30 : decode cX11_ask 30 = .ok (.istore_n 3, 1) := by decide +kernel
theorem dX11_ask_31 : decode cX11_ask 31 = .ok (.iload_n 3, 1) := by decide +kernel
theorem dX11_ask_32 : decode cX11_ask 32 = .ok (.bipush 7, 2) := by decide +kernel
theorem dX11_ask_34 : decode cX11_ask 34 = .ok (.if_icmp .ge 16, 3) := by decide +kernel
theorem dX11_ask_37 : decode cX11_ask 37 = .ok (.aload_n 0, 1) := by decide +kernel
theorem dX11_ask_38 : decode cX11_ask 38 = .ok (.getfield 122, 3) := by decide +kernel
theorem dX11_ask_41 : decode cX11_ask 41 = .ok (.iload_n 3, 1) := by decide +kernel
theorem dX11_ask_42 : decode cX11_ask 42 = .ok (.iconst 0, 1) := by decide +kernel
theorem dX11_ask_43 : decode cX11_ask 43 = .ok (.iastore, 1) := by decide +kernel
theorem dX11_ask_44 : decode cX11_ask 44 = .ok (.iinc 3 1, 3) := by decide +kernel
theorem dX11_ask_47 : decode cX11_ask 47 = .ok (.goto (-16), 3) := by decide +kernel
theorem dX11_ask_50 : decode cX11_ask 50 = .ok (.iconst 0, 1) := by decide +kernel
theorem dX11_ask_51 : decode cX11_ask 51 = .ok (.istore_n 3, 1) := by decide +kernel
theorem dX11_ask_52 : decode cX11_ask 52 = .ok (.iconst 1, 1) := by decide +kernel
theorem dX11_ask_53 : decode cX11_ask 53 = .ok (.istore 4, 2) := by decide +kernel
theorem dX11_ask_55 : decode cX11_ask 55 = .ok (.iload 4, 2) := by decide +kernel
theorem dX11_ask_57 : decode cX11_ask 57 = .ok (.ifCond .eq 66, 3) := by decide +kernel
theorem dX11_ask_60 : decode cX11_ask 60 = .ok (.aload_n 0, 1) := by decide +kernel
theorem dX11_ask_61 : decode cX11_ask 61 = .ok (.iload_n 1, 1) := by decide +kernel
theorem dX11_ask_62 : decode cX11_ask 62 = .ok (.invokevirtual 430, 3) := by decide +kernel
theorem dX11_ask_65 : decode cX11_ask 65 = .ok (.ifCond .eq 49, 3) := by decide +kernel
theorem dX11_ask_68 : decode cX11_ask 68 = .ok (.iinc 3 1, 3) := by decide +kernel
theorem dX11_ask_71 : decode cX11_ask 71 = .ok (.iconst 0, 1) := by decide +kernel
theorem dX11_ask_72 : decode cX11_ask 72 = .ok (.istore 5, 2) := by decide +kernel
theorem dX11_ask_74 : decode cX11_ask 74 = .ok (.iload 5, 2) := by decide +kernel
theorem dX11_ask_76 : decode cX11_ask 76 = .ok (.aload_n 0, 1) := by decide +kernel
theorem dX11_ask_77 : decode cX11_ask 77 = .ok (.getfield 98, 3) := by decide +kernel
theorem dX11_ask_80 : decode cX11_ask 80 = .ok (.bipush 7, 2) := by decide +kernel
theorem dX11_ask_82 : decode cX11_ask 82 = .ok (.iaload, 1) := by decide +kernel
theorem dX11_ask_83 : decode cX11_ask 83 = .ok (.if_icmp .ge 31, 3) := by decide +kernel
theorem dX11_ask_86 : decode cX11_ask 86 = .ok (.aload_n 0, 1) := by decide +kernel
theorem dX11_ask_87 : decode cX11_ask 87 = .ok (.getfield 119, 3) := by decide +kernel
theorem dX11_ask_90 : decode cX11_ask 90 = .ok (.iload 5, 2) := by decide +kernel
theorem dX11_ask_92 : decode cX11_ask 92 = .ok (.iaload, 1) := by decide +kernel
theorem dX11_ask_93 : decode cX11_ask 93 = .ok (.iload_n 2, 1) := by decide +kernel
theorem dX11_ask_94 : decode cX11_ask 94 = .ok (.if_icmp .lt 14, 3) := by decide +kernel
theorem dX11_ask_97 : decode cX11_ask 97 = .ok (.aload_n 0, 1) := by decide +kernel
theorem dX11_ask_98 : decode cX11_ask 98 = .ok (.getfield 122, 3) := by decide +kernel
theorem dX11_ask_101 : decode cX11_ask 101 = .ok (.iload 5, 2) := by decide +kernel
theorem dX11_ask_103 : decode cX11_ask 103 = .ok (.dup2, 1) := by decide +kernel
theorem dX11_ask_104 : decode cX11_ask 104 = .ok (.iaload, 1) := by decide +kernel
theorem dX11_ask_105 : decode cX11_ask 105 = .ok (.iconst 1, 1) := by decide +kernel
theorem dX11_ask_106 : decode cX11_ask 106 = .ok (.iadd, 1) := by decide +kernel
theorem dX11_ask_107 : decode cX11_ask 107 = .ok (.iastore, 1) := by decide +kernel
theorem dX11_ask_108 : decode cX11_ask 108 = .ok (.iinc 5 1, 3) := by decide +kernel
theorem dX11_ask_111 : decode cX11_ask 111 = .ok (.goto (-37), 3) := by decide +kernel
theorem dX11_ask_114 : decode cX11_ask 114 = .ok (.aload_n 0, 1) := by decide +kernel
theorem dX11_ask_115 : decode cX11_ask 115 = .ok (.invokevirtual 393, 3) := by decide +kernel
theorem dX11_ask_118 : decode cX11_ask 118 = .ok (.istore 4, 2) := by decide +kernel
theorem dX11_ask_120 : decode cX11_ask 120 = .ok (.goto (-65), 3) := by decide +kernel
theorem dX11_ask_123 : decode cX11_ask 123 = .ok (.bipush (-2), 2) := by decide +kernel
theorem dX11_ask_125 : decode cX11_ask 125 = .ok (.istore 5, 2) := by decide +kernel
theorem dX11_ask_127 : decode cX11_ask 127 = .ok (.iconst 0, 1) := by decide +kernel
theorem dX11_ask_128 : decode cX11_ask 128 = .ok (.istore 6, 2) := by decide +kernel
theorem dX11_ask_130 : decode cX11_ask 130 = .ok (.iconst 0, 1) := by decide +kernel
theorem dX11_ask_131 : decode cX11_ask 131 = .ok (.istore 7, 2) := by decide +kernel
theorem dX11_ask_133 : decode cX11_ask 133 = .ok (.iload 7, 2) := by decide +kernel
theorem dX11_ask_135 : decode cX11_ask 135 = .ok (.aload_n 0, 1) := by decide +kernel
theorem dX11_ask_136 : decode cX11_ask 136 = .ok (.getfield 98, 3) := by decide +kernel
theorem dX11_ask_139 : decode cX11_ask 139 = .ok (.bipush 7, 2) := by decide +kernel
theorem dX11_ask_141 : decode cX11_ask 141 = .ok (.iaload, 1) := by decide +kernel
theorem dX11_ask_142 : decode cX11_ask 142 = .ok (.if_icmp .ge 76, 3) := by decide +kernel
theorem dX11_ask_145 : decode cX11_ask 145 = .ok (.iload_n 3, 1) := by decide +kernel
theorem dX11_ask_146 : decode cX11_ask 146 = .ok (.ifCond .le 72, 3) := by decide +kernel
theorem dX11_ask_149 : decode cX11_ask 149 = .ok (.aload_n 0, 1) := by decide +kernel
theorem dX11_ask_150 : decode cX11_ask 150 = .ok (.getfield 122, 3) := by decide +kernel
theorem dX11_ask_153 : decode cX11_ask 153 = .ok (.iload 7, 2) := by decide +kernel
theorem dX11_ask_155 : decode cX11_ask 155 = .ok (.iaload, 1) := by decide +kernel
theorem dX11_ask_156 : decode cX11_ask 156 = .ok (.iload_n 3, 1) := by decide +kernel
theorem dX11_ask_157 : decode cX11_ask 157 = .ok (.aload_n 0, 1) := by decide +kernel
theorem dX11_ask_158 : decode cX11_ask 158 = .ok (.getfield 122, 3) := by decide +kernel
theorem dX11_ask_161 : decode cX11_ask 161 = .ok (.iload 7, 2) := by decide +kernel
theorem dX11_ask_163 : decode cX11_ask 163 = .ok (.iaload, 1) := by decide +kernel
theorem dX11_ask_164 : decode cX11_ask 164 = .ok (.isub, 1) := by decide +kernel
theorem dX11_ask_165 : decode cX11_ask 165 = .ok (.if_icmp .le 13, 3) := by decide +kernel
theorem dX11_ask_168 : decode cX11_ask 168 = .ok (.aload_n 0, 1) := by decide +kernel
theorem dX11_ask_169 : decode cX11_ask 169 = .ok (.getfield 122, 3) := by decide +kernel
theorem dX11_ask_172 : decode cX11_ask 172 = .ok (.iload 7, 2) := by decide +kernel
theorem dX11_ask_174 : decode cX11_ask 174 = .ok (.iaload, 1) := by decide +kernel
theorem dX11_ask_175 : decode cX11_ask 175 = .ok (.goto 12, 3) := by decide +kernel
theorem dX11_ask_178 : decode cX11_ask 178 = .ok (.iload_n 3, 1) := by decide +kernel
theorem dX11_ask_179 : decode cX11_ask 179 = .ok (.aload_n 0, 1) := by decide +kernel
theorem dX11_ask_180 : decode cX11_ask 180 = .ok (.getfield 122, 3) := by decide +kernel
theorem dX11_ask_183 : decode cX11_ask 183 = .ok (.iload 7, 2) := by decide +kernel
theorem dX11_ask_185 : decode cX11_ask 185 = .ok (.iaload, 1) := by decide +kernel
theorem dX11_ask_186 : decode cX11_ask 186 = .ok (.isub, 1) := by decide +kernel
theorem dX11_ask_187 : decode cX11_ask 187 = .ok (.istore 8, 2) := by decide +kernel
theorem dX11_ask_189 : decode cX11_ask 189 = .ok (.iload 5, 2) := by decide +kernel
theorem dX11_ask_191 : decode cX11_ask 191 = .ok (.ifCond .lt 13, 3) := by decide +kernel
theorem dX11_ask_194 : decode cX11_ask 194 = .ok (.iload 8, 2) := by decide +kernel
theorem dX11_ask_196 : decode cX11_ask 196 = .ok (.iload 6, 2) := by decide +kernel
theorem dX11_ask_198 : decode cX11_ask 198 = .ok (.if_icmp .lt 6, 3) := by decide +kernel
theorem dX11_ask_201 : decode cX11_ask 201 = .ok (.goto 11, 3) := by decide +kernel
theorem dX11_ask_204 : decode cX11_ask 204 = .ok (.iload 7, 2) := by decide +kernel
theorem dX11_ask_206 : decode cX11_ask 206 = .ok (.istore 5, 2) := by decide +kernel
theorem dX11_ask_208 : decode cX11_ask 208 = .ok (.iload 8, 2) := by decide +kernel
theorem dX11_ask_210 : decode cX11_ask 210 = .ok (.istore 6, 2) := by decide +kernel
theorem dX11_ask_212 : decode cX11_ask 212 = .ok (.iinc 7 1, 3) := by decide +kernel
theorem dX11_ask_215 : decode cX11_ask 215 = .ok (.goto (-82), 3) := by decide +kernel
theorem dX11_ask_218 : decode cX11_ask 218 = .ok (.iload 5, 2) := by decide +kernel
theorem dX11_ask_220 : decode cX11_ask 220 = .ok (.ireturn, 1) := by decide +kernel
theorem dX11_hold_0 : decode cX11_hold 0 = .ok (.iload_n 1, 1) := by decide +kernel
theorem dX11_hold_1 : decode cX11_hold 1 = .ok (.iconst 0, 1) := by decide +kernel
theorem dX11_hold_2 : decode cX11_hold 2 = .ok (.iconst 2, 1) := by decide +kernel
theorem dX11_hold_3 : decode cX11_hold 3 = .ok (.invokestatic 282, 3) := by decide +kernel
theorem dX11_hold_6 : decode cX11_hold 6 = .ok (.ifCond .ne 5, 3) := by decide +kernel
theorem dX11_hold_9 : decode cX11_hold 9 = .ok (.iconst 0, 1) := by decide +kernel
theorem dX11_hold_10 : decode cX11_hold 10 = .ok (.ireturn, 1) := by decide +kernel
theorem dX11_hold_11 : decode cX11_hold 11 = .ok (.aload_n 0, 1) := by decide +kernel
theorem dX11_hold_12 : decode cX11_hold 12 = .ok (.getfield 125, 3) := by decide +kernel
theorem dX11_hold_15 : decode cX11_hold 15 = .ok (.iload_n 1, 1) := by decide +kernel
theorem dX11_hold_16 : decode cX11_hold 16 = .ok (.iconst 1, 1) := by decide +kernel
theorem dX11_hold_17 : decode cX11_hold 17 = .ok (.bastore, 1) := by decide +kernel
theorem dX11_hold_18 : decode cX11_hold 18 = .ok (.iconst 0, 1) := by decide +kernel
theorem dX11_hold_19 : decode cX11_hold 19 = .ok (.istore_n 2, 1) := by decide +kernel
theorem dX11_hold_20 : decode cX11_hold 20 = .ok (.iload_n 2, 1) := by decide +kernel
theorem dX11_hold_21 : decode cX11_hold 21 = .ok (.bipush 26, 2) := by decide +kernel
theorem dX11_hold_23 : decode cX11_hold 23 = .ok (.if_icmp .ge 26, 3) := by decide +kernel
theorem dX11_hold_26 : decode cX11_hold 26 = .ok (.aload_n 0, 1) := by decide +kernel
theorem dX11_hold_27 : decode cX11_hold 27 = .ok (.getfield 128, 3) := by decide +kernel
theorem dX11_hold_30 : decode cX11_hold 30 = .ok (.bipush 26, 2) := by decide +kernel
theorem dX11_hold_32 : decode cX11_hold 32 = .ok (.iload_n 1, 1) := by decide +kernel
theorem dX11_hold_33 : decode cX11_hold 33 = .ok (.imul, 1) := by decide +kernel
theorem dX11_hold_34 : decode cX11_hold 34 = .ok (.iload_n 2, 1) := by decide +kernel
theorem dX11_hold_35 : decode cX11_hold 35 = .ok (.iadd, 1) := by decide +kernel
theorem dX11_hold_36 : decode cX11_hold 36 = .ok (.aload_n 0, 1) := by decide +kernel
theorem dX11_hold_37 : decode cX11_hold 37 = .ok (.getfield 95, 3) := by decide +kernel
theorem dX11_hold_40 : decode cX11_hold 40 = .ok (.iload_n 2, 1) := by decide +kernel
theorem dX11_hold_41 : decode cX11_hold 41 = .ok (.iaload, 1) := by decide +kernel
theorem dX11_hold_42 : decode cX11_hold 42 = .ok (.iastore, 1) := by decide +kernel
theorem dX11_hold_43 : decode cX11_hold 43 = .ok (.iinc 2 1, 3) := by decide +kernel
theorem dX11_hold_46 : decode cX11_hold 46 = .ok (.goto (-26), 3) := by decide +kernel
theorem dX11_hold_49 : decode cX11_hold 49 = .ok (.iconst 1, 1) := by decide +kernel
theorem dX11_hold_50 : decode cX11_hold 50 = .ok (.ireturn, 1) := by decide +kernel
theorem dX11_restore_0 : decode cX11_restore 0 = .ok (.iload_n 1, 1) := by decide +kernel
theorem dX11_restore_1 : decode cX11_restore 1 = .ok (.iconst 0, 1) := by decide +kernel
theorem dX11_restore_2 : decode cX11_restore 2 = .ok (.iconst 2, 1) := by decide +kernel
theorem dX11_restore_3 : decode cX11_restore 3 = .ok (.invokestatic 282, 3) := by decide +kernel
theorem dX11_restore_6 : decode cX11_restore 6 = .ok (.ifCond .eq 12, 3) := by decide +kernel
theorem dX11_restore_9 : decode cX11_restore 9 = .ok (.aload_n 0, 1) := by decide +kernel
theorem dX11_restore_10 : decode cX11_restore 10 = .ok (.getfield 125, 3) := by decide +kernel
theorem dX11_restore_13 : decode cX11_restore 13 = .ok (.iload_n 1, 1) := by decide +kernel
theorem dX11_restore_14 : decode cX11_restore 14 = .ok (.baload, 1) := by decide +kernel
theorem dX11_restore_15 : decode cX11_restore 15 = .ok (.ifCond .ne 5, 3) := by decide +kernel
theorem dX11_restore_18 : decode cX11_restore 18 = .ok (.iconst 0, 1) := by decide +kernel
theorem dX11_restore_19 : decode cX11_restore 19 = .ok (.ireturn, 1) := by decide +kernel
theorem dX11_restore_20 : decode cX11_restore 20 = .ok (.iconst 0, 1) := by decide +kernel
theorem dX11_restore_21 : decode cX11_restore 21 = .ok (.istore_n 2, 1) := by decide +kernel
theorem dX11_restore_22 : decode cX11_restore 22 = .ok (.iload_n 2, 1) := by decide +kernel
theorem dX11_restore_23 : decode cX11_restore 23 = .ok (.bipush 26, 2) := by decide +kernel
theorem dX11_restore_25 : decode cX11_restore 25 = .ok (.if_icmp .ge 26, 3) := by decide +kernel
theorem dX11_restore_28 : decode cX11_restore 28 = .ok (.aload_n 0, 1) := by decide +kernel
theorem dX11_restore_29 : decode cX11_restore 29 = .ok (.getfield 95, 3) := by decide +kernel
theorem dX11_restore_32 : decode cX11_restore 32 = .ok (.iload_n 2, 1) := by decide +kernel
theorem dX11_restore_33 : decode cX11_restore 33 = .ok (.aload_n 0, 1) := by decide +kernel
theorem dX11_restore_34 : decode cX11_restore 34 = .ok (.getfield 128, 3) := by decide +kernel
theorem dX11_restore_37 : decode cX11_restore 37 = .ok (.bipush 26, 2) := by decide +kernel
theorem dX11_restore_39 : decode cX11_restore 39 = .ok (.iload_n 1, 1) := by decide +kernel
theorem dX11_restore_40 : decode cX11_restore 40 = .ok (.imul, 1) := by decide +kernel
theorem dX11_restore_41 : decode cX11_restore 41 = .ok (.iload_n 2, 1) := by decide +kernel
theorem dX11_restore_42 : decode cX11_restore 42 = .ok (.iadd, 1) := by decide +kernel
theorem dX11_restore_43 : decode cX11_restore 43 = .ok (.iaload, 1) := by decide +kernel
theorem dX11_restore_44 : decode cX11_restore 44 = .ok (.iastore, 1) := by decide +kernel
theorem dX11_restore_45 : decode cX11_restore 45 = .ok (.iinc 2 1, 3) := by decide +kernel
theorem dX11_restore_48 : decode cX11_restore 48 = .ok (.goto (-26), 3) := by decide +kernel
theorem dX11_restore_51 : decode cX11_restore 51 = .ok (.aload_n 0, 1) := by decide +kernel
theorem dX11_restore_52 : decode cX11_restore 52 = .ok (.iconst 0, 1) := by decide +kernel
theorem dX11_restore_53 : decode cX11_restore 53 = .ok (.putfield 230, 3) := by decide +kernel
theorem dX11_restore_56 : decode cX11_restore 56 = .ok (.iconst 1, 1) := by decide +kernel
theorem dX11_restore_57 : decode cX11_restore 57 = .ok (.ireturn, 1) := by decide +kernel
theorem dX11_sumNow_0 : decode cX11_sumNow 0 = .ok (.iconst 0, 1) := by decide +kernel
theorem dX11_sumNow_1 : decode cX11_sumNow 1 = .ok (.istore_n 2, 1) := by decide +kernel
theorem dX11_sumNow_2 : decode cX11_sumNow 2 = .ok (.iload_n 1, 1) := by decide +kernel
theorem dX11_sumNow_3 : decode cX11_sumNow 3 = .ok (.istore_n 3, 1) := by decide +kernel
theorem dX11_sumNow_4 : decode cX11_sumNow 4 = .ok (.iload_n 3, 1) := by decide +kernel
theorem dX11_sumNow_5 : decode cX11_sumNow 5 = .ok (.iload_n 1, 1) := by decide +kernel
theorem dX11_sumNow_6 : decode cX11_sumNow 6 = .ok (.bipush 7, 2) := by decide +kernel
theorem dX11_sumNow_8 : decode cX11_sumNow 8 = .ok (.iadd, 1) := by decide +kernel
theorem dX11_sumNow_9 : decode cX11_sumNow 9 = .ok (.if_icmp .ge 18, 3) := by decide +kernel
theorem dX11_sumNow_12 : decode cX11_sumNow 12 = .ok (.iload_n 2, 1) := by decide +kernel
theorem dX11_sumNow_13 : decode cX11_sumNow 13 = .ok (.aload_n 0, 1) := by decide +kernel
theorem dX11_sumNow_14 : decode cX11_sumNow 14 = .ok (.getfield 95, 3) := by decide +kernel
theorem dX11_sumNow_17 : decode cX11_sumNow 17 = .ok (.iload_n 3, 1) := by decide +kernel
theorem dX11_sumNow_18 : decode cX11_sumNow 18 = .ok (.iaload, 1) := by decide +kernel
theorem dX11_sumNow_19 : decode cX11_sumNow 19 = .ok (.iadd, 1) := by decide +kernel
theorem dX11_sumNow_20 : decode cX11_sumNow 20 = .ok (.istore_n 2, 1) := by decide +kernel
theorem dX11_sumNow_21 : decode cX11_sumNow 21 = .ok (.iinc 3 1, 3) := by decide +kernel
theorem dX11_sumNow_24 : decode cX11_sumNow 24 = .ok (.goto (-20), 3) := by decide +kernel
theorem dX11_sumNow_27 : decode cX11_sumNow 27 = .ok (.iload_n 2, 1) := by decide +kernel
theorem dX11_sumNow_28 : decode cX11_sumNow 28 = .ok (.ireturn, 1) := by decide +kernel
theorem dX11_count_0 : decode cX11_count 0 = .ok (.aload_n 0, 1) := by decide +kernel
theorem dX11_count_1 : decode cX11_count 1 = .ok (.invokevirtual 345, 3) := by decide +kernel
theorem dX11_count_4 : decode cX11_count 4 = .ok (.iconst 0, 1) := by decide +kernel
theorem dX11_count_5 : decode cX11_count 5 = .ok (.istore_n 2, 1) := by decide +kernel
theorem dX11_count_6 : decode cX11_count 6 = .ok (.iload_n 1, 1) := by decide +kernel
theorem dX11_count_7 : decode cX11_count 7 = .ok (.tableswitch 323 0 18 #[89, 99, 107, 115, 123, 128, 135, 143, 150, 155, 160, 165, 210, 218, 231, 236, 273, 302, 310], 89) := by decide +kernel
theorem dX11_count_96 : decode cX11_count 96 = .ok (.aload_n 0, 1) := by decide +kernel
theorem dX11_count_97 : decode cX11_count 97 = .ok (.getfield 43, 3) := by decide +kernel
theorem dX11_count_100 : decode cX11_count 100 = .ok (.aload_n 0, 1) := by decide +kernel
theorem dX11_count_101 : decode cX11_count 101 = .ok (.getfield 212, 3) := by decide +kernel
theorem dX11_count_104 : decode cX11_count 104 = .ok (.iaload, 1) := by decide +kernel
theorem dX11_count_105 : decode cX11_count 105 = .ok (.ireturn, 1) := by decide +kernel
theorem dX11_count_106 : decode cX11_count 106 = .ok (.aload_n 0, 1) := by decide +kernel
theorem dX11_count_107 : decode cX11_count 107 = .ok (.getfield 98, 3) := by decide +kernel
theorem dX11_count_110 : decode cX11_count 110 = .ok (.bipush 7, 2) := by decide +kernel
theorem dX11_count_112 : decode cX11_count 112 = .ok (.iaload, 1) := by decide +kernel
theorem dX11_count_113 : decode cX11_count 113 = .ok (.ireturn, 1) := by decide +kernel
theorem dX11_count_114 : decode cX11_count 114 = .ok (.aload_n 0, 1) := by decide +kernel
theorem dX11_count_115 : decode cX11_count 115 = .ok (.getfield 98, 3) := by decide +kernel
theorem dX11_count_118 : decode cX11_count 118 = .ok (.bipush 8, 2) := by decide +kernel
theorem dX11_count_120 : decode cX11_count 120 = .ok (.iaload, 1) := by decide +kernel
theorem dX11_count_121 : decode cX11_count 121 = .ok (.ireturn, 1) := by decide +kernel
theorem dX11_count_122 : decode cX11_count 122 = .ok (.aload_n 0, 1) := by decide +kernel
theorem dX11_count_123 : decode cX11_count 123 = .ok (.getfield 98, 3) := by decide +kernel
theorem dX11_count_126 : decode cX11_count 126 = .ok (.bipush 9, 2) := by decide +kernel
theorem dX11_count_128 : decode cX11_count 128 = .ok (.iaload, 1) := by decide +kernel
theorem dX11_count_129 : decode cX11_count 129 = .ok (.ireturn, 1) := by decide +kernel
theorem dX11_count_130 : decode cX11_count 130 = .ok (.aload_n 0, 1) := by decide +kernel
theorem dX11_count_131 : decode cX11_count 131 = .ok (.invokevirtual 374, 3) := by decide +kernel
theorem dX11_count_134 : decode cX11_count 134 = .ok (.ireturn, 1) := by decide +kernel
theorem dX11_count_135 : decode cX11_count 135 = .ok (.aload_n 0, 1) := by decide +kernel
theorem dX11_count_136 : decode cX11_count 136 = .ok (.bipush 17, 2) := by decide +kernel
theorem dX11_count_138 : decode cX11_count 138 = .ok (.invokevirtual 436, 3) := by decide +kernel
theorem dX11_count_141 : decode cX11_count 141 = .ok (.ireturn, 1) := by decide +kernel
theorem dX11_count_142 : decode cX11_count 142 = .ok (.aload_n 0, 1) := by decide +kernel
theorem dX11_count_143 : decode cX11_count 143 = .ok (.getfield 98, 3) := by decide +kernel
theorem dX11_count_146 : decode cX11_count 146 = .ok (.bipush 24, 2) := by decide +kernel
theorem dX11_count_148 : decode cX11_count 148 = .ok (.iaload, 1) := by decide +kernel
theorem dX11_count_149 : decode cX11_count 149 = .ok (.ireturn, 1) := by decide +kernel
theorem dX11_count_150 : decode cX11_count 150 = .ok (.aload_n 0, 1) := by decide +kernel
theorem dX11_count_151 : decode cX11_count 151 = .ok (.bipush 10, 2) := by decide +kernel
theorem dX11_count_153 : decode cX11_count 153 = .ok (.invokevirtual 436, 3) := by decide +kernel
theorem dX11_count_156 : decode cX11_count 156 = .ok (.ireturn, 1) := by decide +kernel
theorem dX11_count_157 : decode cX11_count 157 = .ok (.aload_n 0, 1) := by decide +kernel
theorem dX11_count_158 : decode cX11_count 158 = .ok (.getfield 149, 3) := by decide +kernel
theorem dX11_count_161 : decode cX11_count 161 = .ok (.ireturn, 1) := by decide +kernel
theorem dX11_count_162 : decode cX11_count 162 = .ok (.aload_n 0, 1) := by decide +kernel
theorem dX11_count_163 : decode cX11_count 163 = .ok (.getfield 230, 3) := by decide +kernel
theorem dX11_count_166 : decode cX11_count 166 = .ok (.ireturn, 1) := by decide +kernel
theorem dX11_count_167 : decode cX11_count 167 = .ok (.aload_n 0, 1) := by decide +kernel
theorem dX11_count_168 : decode cX11_count 168 = .ok (.getfield 233, 3) := by decide +kernel
theorem dX11_count_171 : decode cX11_count 171 = .ok (.ireturn, 1) := by decide +kernel
theorem dX11_count_172 : decode cX11_count 172 = .ok (.aload_n 0, 1) := by decide +kernel
theorem dX11_count_173 : decode cX11_count 173 = .ok (.getfield 125, 3) := by decide +kernel
theorem dX11_count_176 : decode cX11_count 176 = .ok (.iconst 0, 1) := by decide +kernel
theorem dX11_count_177 : decode cX11_count 177 = .ok (.baload, 1) := by decide +kernel
theorem dX11_count_178 : decode cX11_count 178 = .ok (.ifCond .eq 7, 3) := by decide +kernel
theorem dX11_count_181 : decode cX11_count 181 = .ok (.iconst 1, 1) := by decide +kernel
theorem dX11_count_182 : decode cX11_count 182 = .ok (.goto 4, 3) := by decide +kernel
theorem dX11_count_185 : decode cX11_count 185 = .ok (.iconst 0, 1) := by decide +kernel
theorem dX11_count_186 : decode cX11_count 186 = .ok (.aload_n 0, 1) := by decide +kernel
theorem dX11_count_187 : decode cX11_count 187 = .ok (.getfield 125, 3) := by decide +kernel
theorem dX11_count_190 : decode cX11_count 190 = .ok (.iconst 1, 1) := by decide +kernel
theorem dX11_count_191 : decode cX11_count 191 = .ok (.baload, 1) := by decide +kernel
theorem dX11_count_192 : decode cX11_count 192 = .ok (.ifCond .eq 7, 3) := by decide +kernel
theorem dX11_count_195 : decode cX11_count 195 = .ok (.iconst 1, 1) := by decide +kernel
theorem dX11_count_196 : decode cX11_count 196 = .ok (.goto 4, 3) := by decide +kernel
theorem dX11_count_199 : decode cX11_count 199 = .ok (.iconst 0, 1) := by decide +kernel
theorem dX11_count_200 : decode cX11_count 200 = .ok (.iadd, 1) := by decide +kernel
theorem dX11_count_201 : decode cX11_count 201 = .ok (.aload_n 0, 1) := by decide +kernel
theorem dX11_count_202 : decode cX11_count 202 = .ok (.getfield 125, 3) := by decide +kernel
theorem dX11_count_205 : decode cX11_count 205 = .ok (.iconst 2, 1) := by decide +kernel
theorem dX11_count_206 : decode cX11_count 206 = .ok (.baload, 1) := by decide +kernel
theorem dX11_count_207 : decode cX11_count 207 = .ok (.ifCond .eq 7, 3) := by decide +kernel
theorem dX11_count_210 : decode cX11_count 210 = .ok (.iconst 1, 1) := by decide +kernel
theorem dX11_count_211 : decode cX11_count 211 = .ok (.goto 4, 3) := by decide +kernel
theorem dX11_count_214 : decode cX11_count 214 = .ok (.iconst 0, 1) := by decide +kernel
theorem dX11_count_215 : decode cX11_count 215 = .ok (.iadd, 1) := by decide +kernel
theorem dX11_count_216 : decode cX11_count 216 = .ok (.ireturn, 1) := by decide +kernel
theorem dX11_count_217 : decode cX11_count 217 = .ok (.aload_n 0, 1) := by decide +kernel
theorem dX11_count_218 : decode cX11_count 218 = .ok (.getfield 98, 3) := by decide +kernel
theorem dX11_count_221 : decode cX11_count 221 = .ok (.bipush 25, 2) := by decide +kernel
theorem dX11_count_223 : decode cX11_count 223 = .ok (.iaload, 1) := by decide +kernel
theorem dX11_count_224 : decode cX11_count 224 = .ok (.ireturn, 1) := by decide +kernel
theorem dX11_count_225 : decode cX11_count 225 = .ok (.aload_n 0, 1) := by decide +kernel
theorem dX11_count_226 : decode cX11_count 226 = .ok (.invokevirtual 406, 3) := by decide +kernel
theorem dX11_count_229 : decode cX11_count 229 = .ok (.ifCond .eq 7, 3) := by decide +kernel
theorem dX11_count_232 : decode cX11_count 232 = .ok (.iconst 1, 1) := by decide +kernel
theorem dX11_count_233 : decode cX11_count 233 = .ok (.goto 4, 3) := by decide +kernel
theorem dX11_count_236 : decode cX11_count 236 = .ok (.iconst 0, 1) := by decide +kernel
theorem dX11_count_237 : decode cX11_count 237 = .ok (.ireturn, 1) := by decide +kernel
theorem dX11_count_238 : decode cX11_count 238 = .ok (.aload_n 0, 1) := by decide +kernel
theorem dX11_count_239 : decode cX11_count 239 = .ok (.invokevirtual 381, 3) := by decide +kernel
theorem dX11_count_242 : decode cX11_count 242 = .ok (.ireturn, 1) := by decide +kernel
theorem dX11_count_243 : decode cX11_count 243 = .ok (.iconst 0, 1) := by decide +kernel
theorem dX11_count_244 : decode cX11_count 244 = .ok (.istore_n 3, 1) := by decide +kernel
theorem dX11_count_245 : decode cX11_count 245 = .ok (.iload_n 3, 1) := by decide +kernel
theorem dX11_count_246 : decode cX11_count 246 = .ok (.aload_n 0, 1) := by decide +kernel
theorem dX11_count_247 : decode cX11_count 247 = .ok (.getfield 43, 3) := by decide +kernel
theorem dX11_count_250 : decode cX11_count 250 = .ok (.aload_n 0, 1) := by decide +kernel
theorem dX11_count_251 : decode cX11_count 251 = .ok (.getfield 212, 3) := by decide +kernel
theorem dX11_count_254 : decode cX11_count 254 = .ok (.iaload, 1) := by decide +kernel
theorem dX11_count_255 : decode cX11_count 255 = .ok (.if_icmp .ge 23, 3) := by decide +kernel
theorem dX11_count_258 : decode cX11_count 258 = .ok (.aload_n 0, 1) := by decide +kernel
theorem dX11_count_259 : decode cX11_count 259 = .ok (.iload_n 3, 1) := by decide +kernel
theorem dX11_count_260 : decode cX11_count 260 = .ok (.invokevirtual 348, 3) := by decide +kernel
theorem dX11_count_263 : decode cX11_count 263 = .ok (.ifCond .ne 9, 3) := by decide +kernel
theorem dX11_count_266 : decode cX11_count 266 = .ok (.iload_n 2, 1) := by decide +kernel
theorem dX11_count_267 : decode cX11_count 267 = .ok (.iconst 1, 1) := by decide +kernel
theorem dX11_count_268 : decode cX11_count 268 = .ok (.iload_n 3, 1) := by decide +kernel
theorem dX11_count_269 : decode cX11_count 269 = .ok (.ishl, 1) := by decide +kernel
theorem dX11_count_270 : decode cX11_count 270 = .ok (.ior, 1) := by decide +kernel
theorem dX11_count_271 : decode cX11_count 271 = .ok (.istore_n 2, 1) := by decide +kernel
theorem dX11_count_272 : decode cX11_count 272 = .ok (.iinc 3 1, 3) := by decide +kernel
theorem dX11_count_275 : decode cX11_count 275 = .ok (.goto (-30), 3) := by decide +kernel
theorem dX11_count_278 : decode cX11_count 278 = .ok (.iload_n 2, 1) := by decide +kernel
theorem dX11_count_279 : decode cX11_count 279 = .ok (.ireturn, 1) := by decide +kernel
theorem dX11_count_280 : decode cX11_count 280 = .ok (.iconst 0, 1) := by decide +kernel
theorem dX11_count_281 : decode cX11_count 281 = .ok (.istore_n 3, 1) := by decide +kernel
theorem dX11_count_282 : decode cX11_count 282 = .ok (.iload_n 3, 1) := by decide +kernel
theorem dX11_count_283 : decode cX11_count 283 = .ok (.aload_n 0, 1) := by decide +kernel
theorem dX11_count_284 : decode cX11_count 284 = .ok (.getfield 98, 3) := by decide +kernel
theorem dX11_count_287 : decode cX11_count 287 = .ok (.bipush 7, 2) := by decide +kernel
theorem dX11_count_289 : decode cX11_count 289 = .ok (.iaload, 1) := by decide +kernel
theorem dX11_count_290 : decode cX11_count 290 = .ok (.if_icmp .ge 17, 3) := by decide +kernel
theorem dX11_count_293 : decode cX11_count 293 = .ok (.iload_n 2, 1) := by decide +kernel
theorem dX11_count_294 : decode cX11_count 294 = .ok (.aload_n 0, 1) := by decide +kernel
theorem dX11_count_295 : decode cX11_count 295 = .ok (.iload_n 3, 1) := by decide +kernel
theorem dX11_count_296 : decode cX11_count 296 = .ok (.invokevirtual 327, 3) := by decide +kernel
theorem dX11_count_299 : decode cX11_count 299 = .ok (.iadd, 1) := by decide +kernel
theorem dX11_count_300 : decode cX11_count 300 = .ok (.istore_n 2, 1) := by decide +kernel
theorem dX11_count_301 : decode cX11_count 301 = .ok (.iinc 3 1, 3) := by decide +kernel
theorem dX11_count_304 : decode cX11_count 304 = .ok (.goto (-22), 3) := by decide +kernel
theorem dX11_count_307 : decode cX11_count 307 = .ok (.iload_n 2, 1) := by decide +kernel
theorem dX11_count_308 : decode cX11_count 308 = .ok (.ireturn, 1) := by decide +kernel
theorem dX11_count_309 : decode cX11_count 309 = .ok (.aload_n 0, 1) := by decide +kernel
theorem dX11_count_310 : decode cX11_count 310 = .ok (.invokevirtual 421, 3) := by decide +kernel
theorem dX11_count_313 : decode cX11_count 313 = .ok (.invokestatic 439, 3) := by decide +kernel
theorem dX11_count_316 : decode cX11_count 316 = .ok (.ireturn, 1) := by decide +kernel
theorem dX11_count_317 : decode cX11_count 317 = .ok (.aload_n 0, 1) := by decide +kernel
theorem dX11_count_318 : decode cX11_count 318 = .ok (.invokevirtual 374, 3) := by decide +kernel
theorem dX11_count_321 : decode cX11_count 321 = .ok (.istore_n 2, 1) := by decide +kernel
theorem dX11_count_322 : decode cX11_count 322 = .ok (.iload_n 2, 1) := by decide +kernel
theorem dX11_count_323 : decode cX11_count 323 = .ok (.aload_n 0, 1) := by decide +kernel
theorem dX11_count_324 : decode cX11_count 324 = .ok (.iconst 0, 1) := by decide +kernel
theorem dX11_count_325 : decode cX11_count 325 = .ok (.invokevirtual 396, 3) := by decide +kernel
theorem dX11_count_328 : decode cX11_count 328 = .ok (.isub, 1) := by decide +kernel
theorem dX11_count_329 : decode cX11_count 329 = .ok (.ireturn, 1) := by decide +kernel
theorem dX11_count_330 : decode cX11_count 330 = .ok (.iconst (-1), 1) := by decide +kernel
theorem dX11_count_331 : decode cX11_count 331 = .ok (.ireturn, 1) := by decide +kernel
theorem dJ11_isValidCodePoint_9a6ad_0 : decode cJ11_isValidCodePoint_9a6ad 0 = .ok (.iload_n 0, 1) := by decide +kernel
theorem dJ11_isValidCodePoint_9a6ad_1 : decode cJ11_isValidCodePoint_9a6ad 1 = .ok (.bipush 16, 2) := by decide +kernel
theorem dJ11_isValidCodePoint_9a6ad_3 : decode cJ11_isValidCodePoint_9a6ad 3 = .ok (.iushr, 1) := by decide +kernel
theorem dJ11_isValidCodePoint_9a6ad_4 : decode cJ11_isValidCodePoint_9a6ad 4 = .ok (.istore_n 1, 1) := by decide +kernel
theorem dJ11_isValidCodePoint_9a6ad_5 : decode cJ11_isValidCodePoint_9a6ad 5 = .ok (.iload_n 1, 1) := by decide +kernel
theorem dJ11_isValidCodePoint_9a6ad_6 : decode cJ11_isValidCodePoint_9a6ad 6 = .ok (.bipush 17, 2) := by decide +kernel
theorem dJ11_isValidCodePoint_9a6ad_8 : decode cJ11_isValidCodePoint_9a6ad 8 = .ok (.if_icmp .ge 7, 3) := by decide +kernel
theorem dJ11_isValidCodePoint_9a6ad_11 : decode cJ11_isValidCodePoint_9a6ad 11 = .ok (.iconst 1, 1) := by decide +kernel
theorem dJ11_isValidCodePoint_9a6ad_12 : decode cJ11_isValidCodePoint_9a6ad 12 = .ok (.goto 4, 3) := by decide +kernel
theorem dJ11_isValidCodePoint_9a6ad_15 : decode cJ11_isValidCodePoint_9a6ad 15 = .ok (.iconst 0, 1) := by decide +kernel
theorem dJ11_isValidCodePoint_9a6ad_16 : decode cJ11_isValidCodePoint_9a6ad 16 = .ok (.ireturn, 1) := by decide +kernel
theorem dJ11_highSurrogate_5068e_0 : decode cJ11_highSurrogate_5068e 0 = .ok (.iload_n 0, 1) := by decide +kernel
theorem dJ11_highSurrogate_5068e_1 : decode cJ11_highSurrogate_5068e 1 = .ok (.bipush 10, 2) := by decide +kernel
theorem dJ11_highSurrogate_5068e_3 : decode cJ11_highSurrogate_5068e 3 = .ok (.iushr, 1) := by decide +kernel
theorem dJ11_highSurrogate_5068e_4 : decode cJ11_highSurrogate_5068e 4 = .ok (.ldc 110, 2) := by decide +kernel
theorem dJ11_highSurrogate_5068e_6 : decode cJ11_highSurrogate_5068e 6 = .ok (.iadd, 1) := by decide +kernel
theorem dJ11_highSurrogate_5068e_7 : decode cJ11_highSurrogate_5068e 7 = .ok (.i2c, 1) := by decide +kernel
theorem dJ11_highSurrogate_5068e_8 : decode cJ11_highSurrogate_5068e 8 = .ok (.ireturn, 1) := by decide +kernel
theorem dJ11_lowSurrogate_5068e_0 : decode cJ11_lowSurrogate_5068e 0 = .ok (.iload_n 0, 1) := by decide +kernel
theorem dJ11_lowSurrogate_5068e_1 : decode cJ11_lowSurrogate_5068e 1 = .ok (.sipush 1023, 3) := by decide +kernel
theorem dJ11_lowSurrogate_5068e_4 : decode cJ11_lowSurrogate_5068e 4 = .ok (.iand, 1) := by decide +kernel
theorem dJ11_lowSurrogate_5068e_5 : decode cJ11_lowSurrogate_5068e 5 = .ok (.ldc 76, 2) := by decide +kernel
theorem dJ11_lowSurrogate_5068e_7 : decode cJ11_lowSurrogate_5068e 7 = .ok (.iadd, 1) := by decide +kernel
theorem dJ11_lowSurrogate_5068e_8 : decode cJ11_lowSurrogate_5068e 8 = .ok (.i2c, 1) := by decide +kernel
theorem dJ11_lowSurrogate_5068e_9 : decode cJ11_lowSurrogate_5068e 9 = .ok (.ireturn, 1) := by decide +kernel
theorem dJ6_numberOfTrailingZeros_0f7a4_0 : decode cJ6_numberOfTrailingZeros_0f7a4 0 = .ok (.iload_n 0, 1) := by decide +kernel
theorem dJ6_numberOfTrailingZeros_0f7a4_1 : decode cJ6_numberOfTrailingZeros_0f7a4 1 = .ok (.iconst (-1), 1) := by decide +kernel
theorem dJ6_numberOfTrailingZeros_0f7a4_2 : decode cJ6_numberOfTrailingZeros_0f7a4 2 = .ok (.ixor, 1) := by decide +kernel
theorem dJ6_numberOfTrailingZeros_0f7a4_3 : decode cJ6_numberOfTrailingZeros_0f7a4 3 = .ok (.iload_n 0, 1) := by decide +kernel
theorem dJ6_numberOfTrailingZeros_0f7a4_4 : decode cJ6_numberOfTrailingZeros_0f7a4 4 = .ok (.iconst 1, 1) := by decide +kernel
theorem dJ6_numberOfTrailingZeros_0f7a4_5 : decode cJ6_numberOfTrailingZeros_0f7a4 5 = .ok (.isub, 1) := by decide +kernel
theorem dJ6_numberOfTrailingZeros_0f7a4_6 : decode cJ6_numberOfTrailingZeros_0f7a4 6 = .ok (.iand, 1) := by decide +kernel
theorem dJ6_numberOfTrailingZeros_0f7a4_7 : decode cJ6_numberOfTrailingZeros_0f7a4 7 = .ok (.istore_n 0, 1) := by decide +kernel
theorem dJ6_numberOfTrailingZeros_0f7a4_8 : decode cJ6_numberOfTrailingZeros_0f7a4 8 = .ok (.iload_n 0, 1) := by decide +kernel
theorem dJ6_numberOfTrailingZeros_0f7a4_9 : decode cJ6_numberOfTrailingZeros_0f7a4 9 = .ok (.ifCond .gt 8, 3) := by decide +kernel
theorem dJ6_numberOfTrailingZeros_0f7a4_12 : decode cJ6_numberOfTrailingZeros_0f7a4 12 = .ok (.iload_n 0, 1) := by decide +kernel
theorem dJ6_numberOfTrailingZeros_0f7a4_13 : decode cJ6_numberOfTrailingZeros_0f7a4 13 = .ok (.bipush 32, 2) := by decide +kernel
theorem dJ6_numberOfTrailingZeros_0f7a4_15 : decode cJ6_numberOfTrailingZeros_0f7a4 15 = .ok (.iand, 1) := by decide +kernel
theorem dJ6_numberOfTrailingZeros_0f7a4_16 : decode cJ6_numberOfTrailingZeros_0f7a4 16 = .ok (.ireturn, 1) := by decide +kernel
theorem dJ6_numberOfTrailingZeros_0f7a4_17 : decode cJ6_numberOfTrailingZeros_0f7a4 17 = .ok (.iconst 1, 1) := by decide +kernel
theorem dJ6_numberOfTrailingZeros_0f7a4_18 : decode cJ6_numberOfTrailingZeros_0f7a4 18 = .ok (.istore_n 1, 1) := by decide +kernel
theorem dJ6_numberOfTrailingZeros_0f7a4_19 : decode cJ6_numberOfTrailingZeros_0f7a4 19 = .ok (.iload_n 0, 1) := by decide +kernel
theorem dJ6_numberOfTrailingZeros_0f7a4_20 : decode cJ6_numberOfTrailingZeros_0f7a4 20 = .ok (.ldc_w 264, 3) := by decide +kernel
theorem dJ6_numberOfTrailingZeros_0f7a4_23 : decode cJ6_numberOfTrailingZeros_0f7a4 23 = .ok (.if_icmp .le 11, 3) := by decide +kernel
theorem dJ6_numberOfTrailingZeros_0f7a4_26 : decode cJ6_numberOfTrailingZeros_0f7a4 26 = .ok (.iinc 1 16, 3) := by decide +kernel
theorem dJ6_numberOfTrailingZeros_0f7a4_29 : decode cJ6_numberOfTrailingZeros_0f7a4 29 = .ok (.iload_n 0, 1) := by decide +kernel
theorem dJ6_numberOfTrailingZeros_0f7a4_30 : decode cJ6_numberOfTrailingZeros_0f7a4 30 = .ok (.bipush 16, 2) := by decide +kernel
theorem dJ6_numberOfTrailingZeros_0f7a4_32 : decode cJ6_numberOfTrailingZeros_0f7a4 32 = .ok (.iushr, 1) := by decide +kernel
theorem dJ6_numberOfTrailingZeros_0f7a4_33 : decode cJ6_numberOfTrailingZeros_0f7a4 33 = .ok (.istore_n 0, 1) := by decide +kernel
theorem dJ6_numberOfTrailingZeros_0f7a4_34 : decode cJ6_numberOfTrailingZeros_0f7a4 34 = .ok (.iload_n 0, 1) := by decide +kernel
theorem dJ6_numberOfTrailingZeros_0f7a4_35 : decode cJ6_numberOfTrailingZeros_0f7a4 35 = .ok (.sipush 256, 3) := by decide +kernel
theorem dJ6_numberOfTrailingZeros_0f7a4_38 : decode cJ6_numberOfTrailingZeros_0f7a4 38 = .ok (.if_icmp .le 11, 3) := by decide +kernel
theorem dJ6_numberOfTrailingZeros_0f7a4_41 : decode cJ6_numberOfTrailingZeros_0f7a4 41 = .ok (.iinc 1 8, 3) := by decide +kernel
theorem dJ6_numberOfTrailingZeros_0f7a4_44 : decode cJ6_numberOfTrailingZeros_0f7a4 44 = .ok (.iload_n 0, 1) := by decide +kernel
theorem dJ6_numberOfTrailingZeros_0f7a4_45 : decode cJ6_numberOfTrailingZeros_0f7a4 45 = .ok (.bipush 8, 2) := by decide +kernel
theorem dJ6_numberOfTrailingZeros_0f7a4_47 : decode cJ6_numberOfTrailingZeros_0f7a4 47 = .ok (.iushr, 1) := by decide +kernel
theorem dJ6_numberOfTrailingZeros_0f7a4_48 : decode cJ6_numberOfTrailingZeros_0f7a4 48 = .ok (.istore_n 0, 1) := by decide +kernel
theorem dJ6_numberOfTrailingZeros_0f7a4_49 : decode cJ6_numberOfTrailingZeros_0f7a4 49 = .ok (.iload_n 0, 1) := by decide +kernel
theorem dJ6_numberOfTrailingZeros_0f7a4_50 : decode cJ6_numberOfTrailingZeros_0f7a4 50 = .ok (.bipush 16, 2) := by decide +kernel
theorem dJ6_numberOfTrailingZeros_0f7a4_52 : decode cJ6_numberOfTrailingZeros_0f7a4 52 = .ok (.if_icmp .le 10, 3) := by decide +kernel
theorem dJ6_numberOfTrailingZeros_0f7a4_55 : decode cJ6_numberOfTrailingZeros_0f7a4 55 = .ok (.iinc 1 4, 3) := by decide +kernel
theorem dJ6_numberOfTrailingZeros_0f7a4_58 : decode cJ6_numberOfTrailingZeros_0f7a4 58 = .ok (.iload_n 0, 1) := by decide +kernel
theorem dJ6_numberOfTrailingZeros_0f7a4_59 : decode cJ6_numberOfTrailingZeros_0f7a4 59 = .ok (.iconst 4, 1) := by decide +kernel
theorem dJ6_numberOfTrailingZeros_0f7a4_60 : decode cJ6_numberOfTrailingZeros_0f7a4 60 = .ok (.iushr, 1) := by decide +kernel
theorem dJ6_numberOfTrailingZeros_0f7a4_61 : decode cJ6_numberOfTrailingZeros_0f7a4 61 = .ok (.istore_n 0, 1) := by decide +kernel
theorem dJ6_numberOfTrailingZeros_0f7a4_62 : decode cJ6_numberOfTrailingZeros_0f7a4 62 = .ok (.iload_n 0, 1) := by decide +kernel
theorem dJ6_numberOfTrailingZeros_0f7a4_63 : decode cJ6_numberOfTrailingZeros_0f7a4 63 = .ok (.iconst 4, 1) := by decide +kernel
theorem dJ6_numberOfTrailingZeros_0f7a4_64 : decode cJ6_numberOfTrailingZeros_0f7a4 64 = .ok (.if_icmp .le 10, 3) := by decide +kernel
theorem dJ6_numberOfTrailingZeros_0f7a4_67 : decode cJ6_numberOfTrailingZeros_0f7a4 67 = .ok (.iinc 1 2, 3) := by decide +kernel
theorem dJ6_numberOfTrailingZeros_0f7a4_70 : decode cJ6_numberOfTrailingZeros_0f7a4 70 = .ok (.iload_n 0, 1) := by decide +kernel
theorem dJ6_numberOfTrailingZeros_0f7a4_71 : decode cJ6_numberOfTrailingZeros_0f7a4 71 = .ok (.iconst 2, 1) := by decide +kernel
theorem dJ6_numberOfTrailingZeros_0f7a4_72 : decode cJ6_numberOfTrailingZeros_0f7a4 72 = .ok (.iushr, 1) := by decide +kernel
theorem dJ6_numberOfTrailingZeros_0f7a4_73 : decode cJ6_numberOfTrailingZeros_0f7a4 73 = .ok (.istore_n 0, 1) := by decide +kernel
theorem dJ6_numberOfTrailingZeros_0f7a4_74 : decode cJ6_numberOfTrailingZeros_0f7a4 74 = .ok (.iload_n 1, 1) := by decide +kernel
theorem dJ6_numberOfTrailingZeros_0f7a4_75 : decode cJ6_numberOfTrailingZeros_0f7a4 75 = .ok (.iload_n 0, 1) := by decide +kernel
theorem dJ6_numberOfTrailingZeros_0f7a4_76 : decode cJ6_numberOfTrailingZeros_0f7a4 76 = .ok (.iconst 1, 1) := by decide +kernel
theorem dJ6_numberOfTrailingZeros_0f7a4_77 : decode cJ6_numberOfTrailingZeros_0f7a4 77 = .ok (.iushr, 1) := by decide +kernel
theorem dJ6_numberOfTrailingZeros_0f7a4_78 : decode cJ6_numberOfTrailingZeros_0f7a4 78 = .ok (.iadd, 1) := by decide +kernel
theorem dJ6_numberOfTrailingZeros_0f7a4_79 : decode cJ6_numberOfTrailingZeros_0f7a4 79 = .ok (.ireturn, 1) := by decide +kernel
theorem dJ6_bitCount_0f7a4_0 : decode cJ6_bitCount_0f7a4 0 = .ok (.iload_n 0, 1) := by decide +kernel
theorem dJ6_bitCount_0f7a4_1 : decode cJ6_bitCount_0f7a4 1 = .ok (.iload_n 0, 1) := by decide +kernel
theorem dJ6_bitCount_0f7a4_2 : decode cJ6_bitCount_0f7a4 2 = .ok (.iconst 1, 1) := by decide +kernel
theorem dJ6_bitCount_0f7a4_3 : decode cJ6_bitCount_0f7a4 3 = .ok (.iushr, 1) := by decide +kernel
theorem dJ6_bitCount_0f7a4_4 : decode cJ6_bitCount_0f7a4 4 = .ok (.ldc_w 265, 3) := by decide +kernel
theorem dJ6_bitCount_0f7a4_7 : decode cJ6_bitCount_0f7a4 7 = .ok (.iand, 1) := by decide +kernel
theorem dJ6_bitCount_0f7a4_8 : decode cJ6_bitCount_0f7a4 8 = .ok (.isub, 1) := by decide +kernel
theorem dJ6_bitCount_0f7a4_9 : decode cJ6_bitCount_0f7a4 9 = .ok (.istore_n 0, 1) := by decide +kernel
theorem dJ6_bitCount_0f7a4_10 : decode cJ6_bitCount_0f7a4 10 = .ok (.iload_n 0, 1) := by decide +kernel
theorem dJ6_bitCount_0f7a4_11 : decode cJ6_bitCount_0f7a4 11 = .ok (.ldc_w 266, 3) := by decide +kernel
theorem dJ6_bitCount_0f7a4_14 : decode cJ6_bitCount_0f7a4 14 = .ok (.iand, 1) := by decide +kernel
theorem dJ6_bitCount_0f7a4_15 : decode cJ6_bitCount_0f7a4 15 = .ok (.iload_n 0, 1) := by decide +kernel
theorem dJ6_bitCount_0f7a4_16 : decode cJ6_bitCount_0f7a4 16 = .ok (.iconst 2, 1) := by decide +kernel
theorem dJ6_bitCount_0f7a4_17 : decode cJ6_bitCount_0f7a4 17 = .ok (.iushr, 1) := by decide +kernel
theorem dJ6_bitCount_0f7a4_18 : decode cJ6_bitCount_0f7a4 18 = .ok (.ldc_w 266, 3) := by decide +kernel
theorem dJ6_bitCount_0f7a4_21 : decode cJ6_bitCount_0f7a4 21 = .ok (.iand, 1) := by decide +kernel
theorem dJ6_bitCount_0f7a4_22 : decode cJ6_bitCount_0f7a4 22 = .ok (.iadd, 1) := by decide +kernel
theorem dJ6_bitCount_0f7a4_23 : decode cJ6_bitCount_0f7a4 23 = .ok (.istore_n 0, 1) := by decide +kernel
theorem dJ6_bitCount_0f7a4_24 : decode cJ6_bitCount_0f7a4 24 = .ok (.iload_n 0, 1) := by decide +kernel
theorem dJ6_bitCount_0f7a4_25 : decode cJ6_bitCount_0f7a4 25 = .ok (.iload_n 0, 1) := by decide +kernel
theorem dJ6_bitCount_0f7a4_26 : decode cJ6_bitCount_0f7a4 26 = .ok (.iconst 4, 1) := by decide +kernel
theorem dJ6_bitCount_0f7a4_27 : decode cJ6_bitCount_0f7a4 27 = .ok (.iushr, 1) := by decide +kernel
theorem dJ6_bitCount_0f7a4_28 : decode cJ6_bitCount_0f7a4 28 = .ok (.iadd, 1) := by decide +kernel
theorem dJ6_bitCount_0f7a4_29 : decode cJ6_bitCount_0f7a4 29 = .ok (.ldc_w 267, 3) := by decide +kernel
theorem dJ6_bitCount_0f7a4_32 : decode cJ6_bitCount_0f7a4 32 = .ok (.iand, 1) := by decide +kernel
theorem dJ6_bitCount_0f7a4_33 : decode cJ6_bitCount_0f7a4 33 = .ok (.istore_n 0, 1) := by decide +kernel
theorem dJ6_bitCount_0f7a4_34 : decode cJ6_bitCount_0f7a4 34 = .ok (.iload_n 0, 1) := by decide +kernel
theorem dJ6_bitCount_0f7a4_35 : decode cJ6_bitCount_0f7a4 35 = .ok (.iload_n 0, 1) := by decide +kernel
theorem dJ6_bitCount_0f7a4_36 : decode cJ6_bitCount_0f7a4 36 = .ok (.bipush 8, 2) := by decide +kernel
theorem dJ6_bitCount_0f7a4_38 : decode cJ6_bitCount_0f7a4 38 = .ok (.iushr, 1) := by decide +kernel
theorem dJ6_bitCount_0f7a4_39 : decode cJ6_bitCount_0f7a4 39 = .ok (.iadd, 1) := by decide +kernel
theorem dJ6_bitCount_0f7a4_40 : decode cJ6_bitCount_0f7a4 40 = .ok (.istore_n 0, 1) := by decide +kernel
theorem dJ6_bitCount_0f7a4_41 : decode cJ6_bitCount_0f7a4 41 = .ok (.iload_n 0, 1) := by decide +kernel
theorem dJ6_bitCount_0f7a4_42 : decode cJ6_bitCount_0f7a4 42 = .ok (.iload_n 0, 1) := by decide +kernel
theorem dJ6_bitCount_0f7a4_43 : decode cJ6_bitCount_0f7a4 43 = .ok (.bipush 16, 2) := by decide +kernel
theorem dJ6_bitCount_0f7a4_45 : decode cJ6_bitCount_0f7a4 45 = .ok (.iushr, 1) := by decide +kernel
theorem dJ6_bitCount_0f7a4_46 : decode cJ6_bitCount_0f7a4 46 = .ok (.iadd, 1) := by decide +kernel
theorem dJ6_bitCount_0f7a4_47 : decode cJ6_bitCount_0f7a4 47 = .ok (.istore_n 0, 1) := by decide +kernel
theorem dJ6_bitCount_0f7a4_48 : decode cJ6_bitCount_0f7a4 48 = .ok (.iload_n 0, 1) := by decide +kernel
theorem dJ6_bitCount_0f7a4_49 : decode cJ6_bitCount_0f7a4 49 = .ok (.bipush 63, 2) := by decide +kernel
theorem dJ6_bitCount_0f7a4_51 : decode cJ6_bitCount_0f7a4 51 = .ok (.iand, 1) := by decide +kernel
theorem dJ6_bitCount_0f7a4_52 : decode cJ6_bitCount_0f7a4 52 = .ok (.ireturn, 1) := by decide +kernel
theorem dJ9_floorMod_7cf53_0 : decode cJ9_floorMod_7cf53 0 = .ok (.iload_n 0, 1) := by decide +kernel
theorem dJ9_floorMod_7cf53_1 : decode cJ9_floorMod_7cf53 1 = .ok (.iload_n 1, 1) := by decide +kernel
theorem dJ9_floorMod_7cf53_2 : decode cJ9_floorMod_7cf53 2 = .ok (.irem, 1) := by decide +kernel
theorem dJ9_floorMod_7cf53_3 : decode cJ9_floorMod_7cf53 3 = .ok (.istore_n 2, 1) := by decide +kernel
theorem dJ9_floorMod_7cf53_4 : decode cJ9_floorMod_7cf53 4 = .ok (.iload_n 0, 1) := by decide +kernel
theorem dJ9_floorMod_7cf53_5 : decode cJ9_floorMod_7cf53 5 = .ok (.iload_n 1, 1) := by decide +kernel
theorem dJ9_floorMod_7cf53_6 : decode cJ9_floorMod_7cf53 6 = .ok (.ixor, 1) := by decide +kernel
theorem dJ9_floorMod_7cf53_7 : decode cJ9_floorMod_7cf53 7 = .ok (.ifCond .ge 11, 3) := by decide +kernel
theorem dJ9_floorMod_7cf53_10 : decode cJ9_floorMod_7cf53 10 = .ok (.iload_n 2, 1) := by decide +kernel
theorem dJ9_floorMod_7cf53_11 : decode cJ9_floorMod_7cf53 11 = .ok (.ifCond .eq 7, 3) := by decide +kernel
theorem dJ9_floorMod_7cf53_14 : decode cJ9_floorMod_7cf53 14 = .ok (.iload_n 2, 1) := by decide +kernel
theorem dJ9_floorMod_7cf53_15 : decode cJ9_floorMod_7cf53 15 = .ok (.iload_n 1, 1) := by decide +kernel
theorem dJ9_floorMod_7cf53_16 : decode cJ9_floorMod_7cf53 16 = .ok (.iadd, 1) := by decide +kernel
theorem dJ9_floorMod_7cf53_17 : decode cJ9_floorMod_7cf53 17 = .ok (.ireturn, 1) := by decide +kernel
theorem dJ9_floorMod_7cf53_18 : decode cJ9_floorMod_7cf53 18 = .ok (.iload_n 2, 1) := by decide +kernel
theorem dJ9_floorMod_7cf53_19 : decode cJ9_floorMod_7cf53 19 = .ok (.ireturn, 1) := by decide +kernel
theorem dJ9_abs_0f7a4_0 : decode cJ9_abs_0f7a4 0 = .ok (.iload_n 0, 1) := by decide +kernel
theorem dJ9_abs_0f7a4_1 : decode cJ9_abs_0f7a4 1 = .ok (.ifCond .ge 8, 3) := by decide +kernel
theorem dJ9_abs_0f7a4_4 : decode cJ9_abs_0f7a4 4 = .ok (.iload_n 0, 1) := by decide +kernel
theorem dJ9_abs_0f7a4_5 : decode cJ9_abs_0f7a4 5 = .ok (.ineg, 1) := by decide +kernel
theorem dJ9_abs_0f7a4_6 : decode cJ9_abs_0f7a4 6 = .ok (.goto 4, 3) := by decide +kernel
theorem dJ9_abs_0f7a4_9 : decode cJ9_abs_0f7a4 9 = .ok (.iload_n 0, 1) := by decide +kernel
theorem dJ9_abs_0f7a4_10 : decode cJ9_abs_0f7a4 10 = .ok (.ireturn, 1) := by decide +kernel
theorem dJ9_max_7cf53_0 : decode cJ9_max_7cf53 0 = .ok (.iload_n 0, 1) := by decide +kernel
theorem dJ9_max_7cf53_1 : decode cJ9_max_7cf53 1 = .ok (.iload_n 1, 1) := by decide +kernel
theorem dJ9_max_7cf53_2 : decode cJ9_max_7cf53 2 = .ok (.if_icmp .lt 7, 3) := by decide +kernel
theorem dJ9_max_7cf53_5 : decode cJ9_max_7cf53 5 = .ok (.iload_n 0, 1) := by decide +kernel
theorem dJ9_max_7cf53_6 : decode cJ9_max_7cf53 6 = .ok (.goto 4, 3) := by decide +kernel
theorem dJ9_max_7cf53_9 : decode cJ9_max_7cf53 9 = .ok (.iload_n 1, 1) := by decide +kernel
theorem dJ9_max_7cf53_10 : decode cJ9_max_7cf53 10 = .ok (.ireturn, 1) := by decide +kernel
theorem dJ9_min_7cf53_0 : decode cJ9_min_7cf53 0 = .ok (.iload_n 0, 1) := by decide +kernel
theorem dJ9_min_7cf53_1 : decode cJ9_min_7cf53 1 = .ok (.iload_n 1, 1) := by decide +kernel
theorem dJ9_min_7cf53_2 : decode cJ9_min_7cf53 2 = .ok (.if_icmp .gt 7, 3) := by decide +kernel
theorem dJ9_min_7cf53_5 : decode cJ9_min_7cf53 5 = .ok (.iload_n 0, 1) := by decide +kernel
theorem dJ9_min_7cf53_6 : decode cJ9_min_7cf53 6 = .ok (.goto 4, 3) := by decide +kernel
theorem dJ9_min_7cf53_9 : decode cJ9_min_7cf53 9 = .ok (.iload_n 1, 1) := by decide +kernel
theorem dJ9_min_7cf53_10 : decode cJ9_min_7cf53 10 = .ok (.ireturn, 1) := by decide +kernel
theorem dJ0_length_8abf5_0 : decode cJ0_length_8abf5 0 = .ok (.aload_n 0, 1) := by decide +kernel
theorem dJ0_length_8abf5_1 : decode cJ0_length_8abf5 1 = .ok (.getfield 9, 3) := by decide +kernel
theorem dJ0_length_8abf5_4 : decode cJ0_length_8abf5 4 = .ok (.arraylength, 1) := by decide +kernel
theorem dJ0_length_8abf5_5 : decode cJ0_length_8abf5 5 = .ok (.aload_n 0, 1) := by decide +kernel
theorem dJ0_length_8abf5_6 : decode cJ0_length_8abf5 6 = .ok (.invokevirtual 335, 3) := by decide +kernel
theorem dJ0_length_8abf5_9 : decode cJ0_length_8abf5 9 = .ok (.ishr, 1) := by decide +kernel
theorem dJ0_length_8abf5_10 : decode cJ0_length_8abf5 10 = .ok (.ireturn, 1) := by decide +kernel
theorem dJ0_charAt_5068e_0 : decode cJ0_charAt_5068e 0 = .ok (.aload_n 0, 1) := by decide +kernel
theorem dJ0_charAt_5068e_1 : decode cJ0_charAt_5068e 1 = .ok (.invokevirtual 492, 3) := by decide +kernel
theorem dJ0_charAt_5068e_4 : decode cJ0_charAt_5068e 4 = .ok (.ifCond .eq 12, 3) := by decide +kernel
theorem dJ0_charAt_5068e_7 : decode cJ0_charAt_5068e 7 = .ok (.aload_n 0, 1) := by decide +kernel
theorem dJ0_charAt_5068e_8 : decode cJ0_charAt_5068e 8 = .ok (.getfield 9, 3) := by decide +kernel
theorem dJ0_charAt_5068e_11 : decode cJ0_charAt_5068e 11 = .ok (.iload_n 1, 1) := by decide +kernel
theorem dJ0_charAt_5068e_12 : decode cJ0_charAt_5068e 12 = .ok (.invokestatic 495, 3) := by decide +kernel
theorem dJ0_charAt_5068e_15 : decode cJ0_charAt_5068e 15 = .ok (.ireturn, 1) := by decide +kernel
theorem dJ0_charAt_5068e_16 : decode cJ0_charAt_5068e 16 = .ok (.aload_n 0, 1) := by decide +kernel
theorem dJ0_charAt_5068e_17 : decode cJ0_charAt_5068e 17 = .ok (.getfield 9, 3) := by decide +kernel
theorem dJ0_charAt_5068e_20 : decode cJ0_charAt_5068e 20 = .ok (.iload_n 1, 1) := by decide +kernel
theorem dJ0_charAt_5068e_21 : decode cJ0_charAt_5068e 21 = .ok (.invokestatic 498, 3) := by decide +kernel
theorem dJ0_charAt_5068e_24 : decode cJ0_charAt_5068e 24 = .ok (.ireturn, 1) := by decide +kernel
theorem dJ0_indexOf_0f7a4_0 : decode cJ0_indexOf_0f7a4 0 = .ok (.aload_n 0, 1) := by decide +kernel
theorem dJ0_indexOf_0f7a4_1 : decode cJ0_indexOf_0f7a4 1 = .ok (.iload_n 1, 1) := by decide +kernel
theorem dJ0_indexOf_0f7a4_2 : decode cJ0_indexOf_0f7a4 2 = .ok (.iconst 0, 1) := by decide +kernel
theorem dJ0_indexOf_0f7a4_3 : decode cJ0_indexOf_0f7a4 3 = .ok (.invokevirtual 633, 3) := by decide +kernel
theorem dJ0_indexOf_0f7a4_6 : decode cJ0_indexOf_0f7a4 6 = .ok (.ireturn, 1) := by decide +kernel
theorem dJ0_indexOf_7cf53_0 : decode cJ0_indexOf_7cf53 0 = .ok (.aload_n 0, 1) := by decide +kernel
theorem dJ0_indexOf_7cf53_1 : decode cJ0_indexOf_7cf53 1 = .ok (.invokevirtual 492, 3) := by decide +kernel
theorem dJ0_indexOf_7cf53_4 : decode cJ0_indexOf_7cf53 4 = .ok (.ifCond .eq 19, 3) := by decide +kernel
theorem dJ0_indexOf_7cf53_7 : decode cJ0_indexOf_7cf53 7 = .ok (.aload_n 0, 1) := by decide +kernel
theorem dJ0_indexOf_7cf53_8 : decode cJ0_indexOf_7cf53 8 = .ok (.getfield 9, 3) := by decide +kernel
theorem dJ0_indexOf_7cf53_11 : decode cJ0_indexOf_7cf53 11 = .ok (.iload_n 1, 1) := by decide +kernel
theorem dJ0_indexOf_7cf53_12 : decode cJ0_indexOf_7cf53 12 = .ok (.iload_n 2, 1) := by decide +kernel
theorem dJ0_indexOf_7cf53_13 : decode cJ0_indexOf_7cf53 13 = .ok (.aload_n 0, 1) := by decide +kernel
theorem dJ0_indexOf_7cf53_14 : decode cJ0_indexOf_7cf53 14 = .ok (.invokevirtual 505, 3) := by decide +kernel
theorem dJ0_indexOf_7cf53_17 : decode cJ0_indexOf_7cf53 17 = .ok (.invokestatic 637, 3) := by decide +kernel
theorem dJ0_indexOf_7cf53_20 : decode cJ0_indexOf_7cf53 20 = .ok (.goto 16, 3) := by decide +kernel
theorem dJ0_indexOf_7cf53_23 : decode cJ0_indexOf_7cf53 23 = .ok (.aload_n 0, 1) := by decide +kernel
theorem dJ0_indexOf_7cf53_24 : decode cJ0_indexOf_7cf53 24 = .ok (.getfield 9, 3) := by decide +kernel
theorem dJ0_indexOf_7cf53_27 : decode cJ0_indexOf_7cf53 27 = .ok (.iload_n 1, 1) := by decide +kernel
theorem dJ0_indexOf_7cf53_28 : decode cJ0_indexOf_7cf53 28 = .ok (.iload_n 2, 1) := by decide +kernel
theorem dJ0_indexOf_7cf53_29 : decode cJ0_indexOf_7cf53 29 = .ok (.aload_n 0, 1) := by decide +kernel
theorem dJ0_indexOf_7cf53_30 : decode cJ0_indexOf_7cf53 30 = .ok (.invokevirtual 505, 3) := by decide +kernel
theorem dJ0_indexOf_7cf53_33 : decode cJ0_indexOf_7cf53 33 = .ok (.invokestatic 640, 3) := by decide +kernel
theorem dJ0_indexOf_7cf53_36 : decode cJ0_indexOf_7cf53 36 = .ok (.ireturn, 1) := by decide +kernel
theorem dJ0_coder_7d493_0 : decode cJ0_coder_7d493 0 = .ok (.getstatic 38, 3) := by decide +kernel
theorem dJ0_coder_7d493_3 : decode cJ0_coder_7d493 3 = .ok (.ifCond .eq 10, 3) := by decide +kernel
theorem dJ0_coder_7d493_6 : decode cJ0_coder_7d493 6 = .ok (.aload_n 0, 1) := by decide +kernel
theorem dJ0_coder_7d493_7 : decode cJ0_coder_7d493 7 = .ok (.getfield 15, 3) := by decide +kernel
theorem dJ0_coder_7d493_10 : decode cJ0_coder_7d493 10 = .ok (.goto 4, 3) := by decide +kernel
theorem dJ0_coder_7d493_13 : decode cJ0_coder_7d493 13 = .ok (.iconst 1, 1) := by decide +kernel
theorem dJ0_coder_7d493_14 : decode cJ0_coder_7d493 14 = .ok (.ireturn, 1) := by decide +kernel
theorem dJ0_isLatin1_aae02_0 : decode cJ0_isLatin1_aae02 0 = .ok (.getstatic 38, 3) := by decide +kernel
theorem dJ0_isLatin1_aae02_3 : decode cJ0_isLatin1_aae02 3 = .ok (.ifCond .eq 14, 3) := by decide +kernel
theorem dJ0_isLatin1_aae02_6 : decode cJ0_isLatin1_aae02 6 = .ok (.aload_n 0, 1) := by decide +kernel
theorem dJ0_isLatin1_aae02_7 : decode cJ0_isLatin1_aae02 7 = .ok (.getfield 15, 3) := by decide +kernel
theorem dJ0_isLatin1_aae02_10 : decode cJ0_isLatin1_aae02 10 = .ok (.ifCond .ne 7, 3) := by decide +kernel
theorem dJ0_isLatin1_aae02_13 : decode cJ0_isLatin1_aae02 13 = .ok (.iconst 1, 1) := by decide +kernel
theorem dJ0_isLatin1_aae02_14 : decode cJ0_isLatin1_aae02 14 = .ok (.goto 4, 3) := by decide +kernel
theorem dJ0_isLatin1_aae02_17 : decode cJ0_isLatin1_aae02 17 = .ok (.iconst 0, 1) := by decide +kernel
theorem dJ0_isLatin1_aae02_18 : decode cJ0_isLatin1_aae02 18 = .ok (.ireturn, 1) := by decide +kernel
theorem dJ0_checkIndex_df160_0 : decode cJ0_checkIndex_df160 0 = .ok (.iload_n 0, 1) := by decide +kernel
theorem dJ0_checkIndex_df160_1 : decode cJ0_checkIndex_df160 1 = .ok (.iload_n 1, 1) := by decide +kernel
theorem dJ0_checkIndex_df160_2 : decode cJ0_checkIndex_df160 2 = .ok (.getstatic 1053, 3) := by decide +kernel
theorem dJ0_checkIndex_df160_5 : decode cJ0_checkIndex_df160 5 = .ok (.invokestatic 1059, 3) := by decide +kernel
theorem dJ0_checkIndex_df160_8 : decode cJ0_checkIndex_df160 8 = .ok (.pop, 1) := by decide +kernel
theorem dJ0_checkIndex_df160_9 : decode cJ0_checkIndex_df160 9 = .ok (.return_, 1) := by decide +kernel
theorem dJ0_checkBoundsBeginEnd_23922_0 : decode cJ0_checkBoundsBeginEnd_23922 0 = .ok (.iload_n 0, 1) := by decide +kernel
theorem dJ0_checkBoundsBeginEnd_23922_1 : decode cJ0_checkBoundsBeginEnd_23922 1 = .ok (.iload_n 1, 1) := by decide +kernel
theorem dJ0_checkBoundsBeginEnd_23922_2 : decode cJ0_checkBoundsBeginEnd_23922 2 = .ok (.iload_n 2, 1) := by decide +kernel
theorem dJ0_checkBoundsBeginEnd_23922_3 : decode cJ0_checkBoundsBeginEnd_23922 3 = .ok (.getstatic 1053, 3) := by decide +kernel
theorem dJ0_checkBoundsBeginEnd_23922_6 : decode cJ0_checkBoundsBeginEnd_23922 6 = .ok (.invokestatic 1062, 3) := by decide +kernel
theorem dJ0_checkBoundsBeginEnd_23922_9 : decode cJ0_checkBoundsBeginEnd_23922 9 = .ok (.pop, 1) := by decide +kernel
theorem dJ0_checkBoundsBeginEnd_23922_10 : decode cJ0_checkBoundsBeginEnd_23922 10 = .ok (.return_, 1) := by decide +kernel
theorem dJ1_charAt_3b067_0 : decode cJ1_charAt_3b067 0 = .ok (.iload_n 1, 1) := by decide +kernel
theorem dJ1_charAt_3b067_1 : decode cJ1_charAt_3b067 1 = .ok (.aload_n 0, 1) := by decide +kernel
theorem dJ1_charAt_3b067_2 : decode cJ1_charAt_3b067 2 = .ok (.arraylength, 1) := by decide +kernel
theorem dJ1_charAt_3b067_3 : decode cJ1_charAt_3b067 3 = .ok (.invokestatic 9, 3) := by decide +kernel
theorem dJ1_charAt_3b067_6 : decode cJ1_charAt_3b067 6 = .ok (.aload_n 0, 1) := by decide +kernel
theorem dJ1_charAt_3b067_7 : decode cJ1_charAt_3b067 7 = .ok (.iload_n 1, 1) := by decide +kernel
theorem dJ1_charAt_3b067_8 : decode cJ1_charAt_3b067 8 = .ok (.baload, 1) := by decide +kernel
theorem dJ1_charAt_3b067_9 : decode cJ1_charAt_3b067 9 = .ok (.sipush 255, 3) := by decide +kernel
theorem dJ1_charAt_3b067_12 : decode cJ1_charAt_3b067 12 = .ok (.iand, 1) := by decide +kernel
theorem dJ1_charAt_3b067_13 : decode cJ1_charAt_3b067 13 = .ok (.i2c, 1) := by decide +kernel
theorem dJ1_charAt_3b067_14 : decode cJ1_charAt_3b067 14 = .ok (.ireturn, 1) := by decide +kernel
theorem dJ1_canEncode_9a6ad_0 : decode cJ1_canEncode_9a6ad 0 = .ok (.iload_n 0, 1) := by decide +kernel
theorem dJ1_canEncode_9a6ad_1 : decode cJ1_canEncode_9a6ad 1 = .ok (.ifCond .lt 14, 3) := by decide +kernel
theorem dJ1_canEncode_9a6ad_4 : decode cJ1_canEncode_9a6ad 4 = .ok (.iload_n 0, 1) := by decide +kernel
theorem dJ1_canEncode_9a6ad_5 : decode cJ1_canEncode_9a6ad 5 = .ok (.sipush 255, 3) := by decide +kernel
theorem dJ1_canEncode_9a6ad_8 : decode cJ1_canEncode_9a6ad 8 = .ok (.if_icmp .gt 7, 3) := by decide +kernel
theorem dJ1_canEncode_9a6ad_11 : decode cJ1_canEncode_9a6ad 11 = .ok (.iconst 1, 1) := by decide +kernel
theorem dJ1_canEncode_9a6ad_12 : decode cJ1_canEncode_9a6ad 12 = .ok (.goto 4, 3) := by decide +kernel
theorem dJ1_canEncode_9a6ad_15 : decode cJ1_canEncode_9a6ad 15 = .ok (.iconst 0, 1) := by decide +kernel
theorem dJ1_canEncode_9a6ad_16 : decode cJ1_canEncode_9a6ad 16 = .ok (.ireturn, 1) := by decide +kernel
theorem dJ1_indexOf_4cfef_0 : decode cJ1_indexOf_4cfef 0 = .ok (.iload_n 1, 1) := by decide +kernel
theorem dJ1_indexOf_4cfef_1 : decode cJ1_indexOf_4cfef 1 = .ok (.invokestatic 88, 3) := by decide +kernel
theorem dJ1_indexOf_4cfef_4 : decode cJ1_indexOf_4cfef 4 = .ok (.ifCond .ne 5, 3) := by decide +kernel
theorem dJ1_indexOf_4cfef_7 : decode cJ1_indexOf_4cfef 7 = .ok (.iconst (-1), 1) := by decide +kernel
theorem dJ1_indexOf_4cfef_8 : decode cJ1_indexOf_4cfef 8 = .ok (.ireturn, 1) := by decide +kernel
theorem dJ1_indexOf_4cfef_9 : decode cJ1_indexOf_4cfef 9 = .ok (.iload_n 2, 1) := by decide +kernel
theorem dJ1_indexOf_4cfef_10 : decode cJ1_indexOf_4cfef 10 = .ok (.iconst 0, 1) := by decide +kernel
theorem dJ1_indexOf_4cfef_11 : decode cJ1_indexOf_4cfef 11 = .ok (.invokestatic 92, 3) := by decide +kernel
theorem dJ1_indexOf_4cfef_14 : decode cJ1_indexOf_4cfef 14 = .ok (.istore_n 2, 1) := by decide +kernel
theorem dJ1_indexOf_4cfef_15 : decode cJ1_indexOf_4cfef 15 = .ok (.iload_n 3, 1) := by decide +kernel
theorem dJ1_indexOf_4cfef_16 : decode cJ1_indexOf_4cfef 16 = .ok (.aload_n 0, 1) := by decide +kernel
theorem dJ1_indexOf_4cfef_17 : decode cJ1_indexOf_4cfef 17 = .ok (.arraylength, 1) := by decide +kernel
theorem dJ1_indexOf_4cfef_18 : decode cJ1_indexOf_4cfef 18 = .ok (.invokestatic 38, 3) := by decide +kernel
theorem dJ1_indexOf_4cfef_21 : decode cJ1_indexOf_4cfef 21 = .ok (.istore_n 3, 1) := by decide +kernel
theorem dJ1_indexOf_4cfef_22 : decode cJ1_indexOf_4cfef 22 = .ok (.iload_n 2, 1) := by decide +kernel
theorem dJ1_indexOf_4cfef_23 : decode cJ1_indexOf_4cfef 23 = .ok (.iload_n 3, 1) := by decide +kernel
theorem dJ1_indexOf_4cfef_24 : decode cJ1_indexOf_4cfef 24 = .ok (.if_icmp .lt 5, 3) := by decide +kernel
theorem dJ1_indexOf_4cfef_27 : decode cJ1_indexOf_4cfef 27 = .ok (.iconst (-1), 1) := by decide +kernel
theorem dJ1_indexOf_4cfef_28 : decode cJ1_indexOf_4cfef 28 = .ok (.ireturn, 1) := by decide +kernel
theorem dJ1_indexOf_4cfef_29 : decode cJ1_indexOf_4cfef 29 = .ok (.aload_n 0, 1) := by decide +kernel
theorem dJ1_indexOf_4cfef_30 : decode cJ1_indexOf_4cfef 30 = .ok (.iload_n 1, 1) := by decide +kernel
theorem dJ1_indexOf_4cfef_31 : decode cJ1_indexOf_4cfef 31 = .ok (.iload_n 2, 1) := by decide +kernel
theorem dJ1_indexOf_4cfef_32 : decode cJ1_indexOf_4cfef 32 = .ok (.iload_n 3, 1) := by decide +kernel
theorem dJ1_indexOf_4cfef_33 : decode cJ1_indexOf_4cfef 33 = .ok (.invokestatic 95, 3) := by decide +kernel
theorem dJ1_indexOf_4cfef_36 : decode cJ1_indexOf_4cfef 36 = .ok (.ireturn, 1) := by decide +kernel
theorem dJ1_indexOfChar_4cfef_0 : decode cJ1_indexOfChar_4cfef 0 = .ok (.iload_n 1, 1) := by decide +kernel
theorem dJ1_indexOfChar_4cfef_1 : decode cJ1_indexOfChar_4cfef 1 = .ok (.i2b, 1) := by decide +kernel
theorem dJ1_indexOfChar_4cfef_2 : decode cJ1_indexOfChar_4cfef 2 = .ok (.istore 4, 2) := by decide +kernel
theorem dJ1_indexOfChar_4cfef_4 : decode cJ1_indexOfChar_4cfef 4 = .ok (.iload_n 2, 1) := by decide +kernel
theorem dJ1_indexOfChar_4cfef_5 : decode cJ1_indexOfChar_4cfef 5 = .ok (.istore 5, 2) := by decide +kernel
theorem dJ1_indexOfChar_4cfef_7 : decode cJ1_indexOfChar_4cfef 7 = .ok (.iload 5, 2) := by decide +kernel
theorem dJ1_indexOfChar_4cfef_9 : decode cJ1_indexOfChar_4cfef 9 = .ok (.iload_n 3, 1) := by decide +kernel
theorem dJ1_indexOfChar_4cfef_10 : decode cJ1_indexOfChar_4cfef 10 = .ok (.if_icmp .ge 21, 3) := by decide +kernel
theorem dJ1_indexOfChar_4cfef_13 : decode cJ1_indexOfChar_4cfef 13 = .ok (.aload_n 0, 1) := by decide +kernel
theorem dJ1_indexOfChar_4cfef_14 : decode cJ1_indexOfChar_4cfef 14 = .ok (.iload 5, 2) := by decide +kernel
theorem dJ1_indexOfChar_4cfef_16 : decode cJ1_indexOfChar_4cfef 16 = .ok (.baload, 1) := by decide +kernel
theorem dJ1_indexOfChar_4cfef_17 : decode cJ1_indexOfChar_4cfef 17 = .ok (.iload 4, 2) := by decide +kernel
theorem dJ1_indexOfChar_4cfef_19 : decode cJ1_indexOfChar_4cfef 19 = .ok (.if_icmp .ne 6, 3) := by decide +kernel
theorem dJ1_indexOfChar_4cfef_22 : decode cJ1_indexOfChar_4cfef 22 = .ok (.iload 5, 2) := by decide +kernel
theorem dJ1_indexOfChar_4cfef_24 : decode cJ1_indexOfChar_4cfef 24 = .ok (.ireturn, 1) := by decide +kernel
theorem dJ1_indexOfChar_4cfef_25 : decode cJ1_indexOfChar_4cfef 25 = .ok (.iinc 5 1, 3) := by decide +kernel
theorem dJ1_indexOfChar_4cfef_28 : decode cJ1_indexOfChar_4cfef 28 = .ok (.goto (-21), 3) := by decide +kernel
theorem dJ1_indexOfChar_4cfef_31 : decode cJ1_indexOfChar_4cfef 31 = .ok (.iconst (-1), 1) := by decide +kernel
theorem dJ1_indexOfChar_4cfef_32 : decode cJ1_indexOfChar_4cfef 32 = .ok (.ireturn, 1) := by decide +kernel
theorem dJ2_getChar_3b067_0 : decode cJ2_getChar_3b067 0 = .ok (.getstatic 44, 3) := by decide +kernel
theorem dJ2_getChar_3b067_3 : decode cJ2_getChar_3b067 3 = .ok (.ifCond .ne 25, 3) := by decide +kernel
theorem dJ2_getChar_3b067_6 : decode cJ2_getChar_3b067 6 = .ok (.iload_n 1, 1) := by decide +kernel
theorem dJ2_getChar_3b067_7 : decode cJ2_getChar_3b067 7 = .ok (.ifCond .lt 11, 3) := by decide +kernel
theorem dJ2_getChar_3b067_10 : decode cJ2_getChar_3b067 10 = .ok (.iload_n 1, 1) := by decide +kernel
theorem dJ2_getChar_3b067_11 : decode cJ2_getChar_3b067 11 = .ok (.aload_n 0, 1) := by decide +kernel
theorem dJ2_getChar_3b067_12 : decode cJ2_getChar_3b067 12 = .ok (.invokestatic 48, 3) := by decide +kernel
theorem dJ2_getChar_3b067_15 : decode cJ2_getChar_3b067 15 = .ok (.if_icmp .lt 13, 3) := by decide +kernel
theorem dJ2_getChar_3b067_18 : decode cJ2_getChar_3b067 18 = .ok (.new 52, 3) := by decide +kernel
theorem dJ2_getChar_3b067_21 : decode cJ2_getChar_3b067 21 = .ok (.dup, 1) := by decide +kernel
theorem dJ2_getChar_3b067_22 : decode cJ2_getChar_3b067 22 = .ok (.ldc 54, 2) := by decide +kernel
theorem dJ2_getChar_3b067_24 : decode cJ2_getChar_3b067 24 = .ok (.invokespecial 56, 3) := by decide +kernel
theorem dJ2_getChar_3b067_27 : decode cJ2_getChar_3b067 27 = .ok (.athrow, 1) := by decide +kernel
theorem dJ2_getChar_3b067_28 : decode cJ2_getChar_3b067 28 = .ok (.iload_n 1, 1) := by decide +kernel
theorem dJ2_getChar_3b067_29 : decode cJ2_getChar_3b067 29 = .ok (.iconst 1, 1) := by decide +kernel
theorem dJ2_getChar_3b067_30 : decode cJ2_getChar_3b067 30 = .ok (.ishl, 1) := by decide +kernel
theorem dJ2_getChar_3b067_31 : decode cJ2_getChar_3b067 31 = .ok (.istore_n 1, 1) := by decide +kernel
theorem dJ2_getChar_3b067_32 : decode cJ2_getChar_3b067 32 = .ok (.aload_n 0, 1) := by decide +kernel
theorem dJ2_getChar_3b067_33 : decode cJ2_getChar_3b067 33 = .ok (.iload_n 1, 1) := by decide +kernel
theorem dJ2_getChar_3b067_34 : decode cJ2_getChar_3b067 34 = .ok (.iinc 1 1, 3) := by decide +kernel
theorem dJ2_getChar_3b067_37 : decode cJ2_getChar_3b067 37 = .ok (.baload, 1) := by decide +kernel
theorem dJ2_getChar_3b067_38 : decode cJ2_getChar_3b067 38 = .ok (.sipush 255, 3) := by decide +kernel
theorem dJ2_getChar_3b067_41 : decode cJ2_getChar_3b067 41 = .ok (.iand, 1) := by decide +kernel
theorem dJ2_getChar_3b067_42 : decode cJ2_getChar_3b067 42 = .ok (.getstatic 59, 3) := by decide +kernel
theorem dJ2_getChar_3b067_45 : decode cJ2_getChar_3b067 45 = .ok (.ishl, 1) := by decide +kernel
theorem dJ2_getChar_3b067_46 : decode cJ2_getChar_3b067 46 = .ok (.aload_n 0, 1) := by decide +kernel
theorem dJ2_getChar_3b067_47 : decode cJ2_getChar_3b067 47 = .ok (.iload_n 1, 1) := by decide +kernel
theorem dJ2_getChar_3b067_48 : decode cJ2_getChar_3b067 48 = .ok (.baload, 1) := by decide +kernel
theorem dJ2_getChar_3b067_49 : decode cJ2_getChar_3b067 49 = .ok (.sipush 255, 3) := by decide +kernel
theorem dJ2_getChar_3b067_52 : decode cJ2_getChar_3b067 52 = .ok (.iand, 1) := by decide +kernel
theorem dJ2_getChar_3b067_53 : decode cJ2_getChar_3b067 53 = .ok (.getstatic 63, 3) := by decide +kernel
theorem dJ2_getChar_3b067_56 : decode cJ2_getChar_3b067 56 = .ok (.ishl, 1) := by decide +kernel
theorem dJ2_getChar_3b067_57 : decode cJ2_getChar_3b067 57 = .ok (.ior, 1) := by decide +kernel
theorem dJ2_getChar_3b067_58 : decode cJ2_getChar_3b067 58 = .ok (.i2c, 1) := by decide +kernel
theorem dJ2_getChar_3b067_59 : decode cJ2_getChar_3b067 59 = .ok (.ireturn, 1) := by decide +kernel
theorem dJ2_length_9d52b_0 : decode cJ2_length_9d52b 0 = .ok (.aload_n 0, 1) := by decide +kernel
theorem dJ2_length_9d52b_1 : decode cJ2_length_9d52b 1 = .ok (.arraylength, 1) := by decide +kernel
theorem dJ2_length_9d52b_2 : decode cJ2_length_9d52b 2 = .ok (.iconst 1, 1) := by decide +kernel
theorem dJ2_length_9d52b_3 : decode cJ2_length_9d52b 3 = .ok (.ishr, 1) := by decide +kernel
theorem dJ2_length_9d52b_4 : decode cJ2_length_9d52b 4 = .ok (.ireturn, 1) := by decide +kernel
theorem dJ2_indexOf_4cfef_0 : decode cJ2_indexOf_4cfef 0 = .ok (.iload_n 2, 1) := by decide +kernel
theorem dJ2_indexOf_4cfef_1 : decode cJ2_indexOf_4cfef 1 = .ok (.iconst 0, 1) := by decide +kernel
theorem dJ2_indexOf_4cfef_2 : decode cJ2_indexOf_4cfef 2 = .ok (.invokestatic 224, 3) := by decide +kernel
theorem dJ2_indexOf_4cfef_5 : decode cJ2_indexOf_4cfef 5 = .ok (.istore_n 2, 1) := by decide +kernel
theorem dJ2_indexOf_4cfef_6 : decode cJ2_indexOf_4cfef 6 = .ok (.iload_n 3, 1) := by decide +kernel
theorem dJ2_indexOf_4cfef_7 : decode cJ2_indexOf_4cfef 7 = .ok (.aload_n 0, 1) := by decide +kernel
theorem dJ2_indexOf_4cfef_8 : decode cJ2_indexOf_4cfef 8 = .ok (.arraylength, 1) := by decide +kernel
theorem dJ2_indexOf_4cfef_9 : decode cJ2_indexOf_4cfef 9 = .ok (.iconst 1, 1) := by decide +kernel
theorem dJ2_indexOf_4cfef_10 : decode cJ2_indexOf_4cfef 10 = .ok (.ishr, 1) := by decide +kernel
theorem dJ2_indexOf_4cfef_11 : decode cJ2_indexOf_4cfef 11 = .ok (.invokestatic 183, 3) := by decide +kernel
theorem dJ2_indexOf_4cfef_14 : decode cJ2_indexOf_4cfef 14 = .ok (.istore_n 3, 1) := by decide +kernel
theorem dJ2_indexOf_4cfef_15 : decode cJ2_indexOf_4cfef 15 = .ok (.iload_n 2, 1) := by decide +kernel
theorem dJ2_indexOf_4cfef_16 : decode cJ2_indexOf_4cfef 16 = .ok (.iload_n 3, 1) := by decide +kernel
theorem dJ2_indexOf_4cfef_17 : decode cJ2_indexOf_4cfef 17 = .ok (.if_icmp .lt 5, 3) := by decide +kernel
theorem dJ2_indexOf_4cfef_20 : decode cJ2_indexOf_4cfef 20 = .ok (.iconst (-1), 1) := by decide +kernel
theorem dJ2_indexOf_4cfef_21 : decode cJ2_indexOf_4cfef 21 = .ok (.ireturn, 1) := by decide +kernel
theorem dJ2_indexOf_4cfef_22 : decode cJ2_indexOf_4cfef 22 = .ok (.iload_n 1, 1) := by decide +kernel
theorem dJ2_indexOf_4cfef_23 : decode cJ2_indexOf_4cfef 23 = .ok (.ldc 227, 2) := by decide +kernel
theorem dJ2_indexOf_4cfef_25 : decode cJ2_indexOf_4cfef 25 = .ok (.if_icmp .ge 11, 3) := by decide +kernel
theorem dJ2_indexOf_4cfef_28 : decode cJ2_indexOf_4cfef 28 = .ok (.aload_n 0, 1) := by decide +kernel
theorem dJ2_indexOf_4cfef_29 : decode cJ2_indexOf_4cfef 29 = .ok (.iload_n 1, 1) := by decide +kernel
theorem dJ2_indexOf_4cfef_30 : decode cJ2_indexOf_4cfef 30 = .ok (.iload_n 2, 1) := by decide +kernel
theorem dJ2_indexOf_4cfef_31 : decode cJ2_indexOf_4cfef 31 = .ok (.iload_n 3, 1) := by decide +kernel
theorem dJ2_indexOf_4cfef_32 : decode cJ2_indexOf_4cfef 32 = .ok (.invokestatic 228, 3) := by decide +kernel
theorem dJ2_indexOf_4cfef_35 : decode cJ2_indexOf_4cfef 35 = .ok (.ireturn, 1) := by decide +kernel
theorem dJ2_indexOf_4cfef_36 : decode cJ2_indexOf_4cfef 36 = .ok (.aload_n 0, 1) := by decide +kernel
theorem dJ2_indexOf_4cfef_37 : decode cJ2_indexOf_4cfef 37 = .ok (.iload_n 1, 1) := by decide +kernel
theorem dJ2_indexOf_4cfef_38 : decode cJ2_indexOf_4cfef 38 = .ok (.iload_n 2, 1) := by decide +kernel
theorem dJ2_indexOf_4cfef_39 : decode cJ2_indexOf_4cfef 39 = .ok (.iload_n 3, 1) := by decide +kernel
theorem dJ2_indexOf_4cfef_40 : decode cJ2_indexOf_4cfef 40 = .ok (.invokestatic 232, 3) := by decide +kernel
theorem dJ2_indexOf_4cfef_43 : decode cJ2_indexOf_4cfef 43 = .ok (.ireturn, 1) := by decide +kernel
theorem dJ2_indexOfChar_4cfef_0 : decode cJ2_indexOfChar_4cfef 0 = .ok (.iload_n 2, 1) := by decide +kernel
theorem dJ2_indexOfChar_4cfef_1 : decode cJ2_indexOfChar_4cfef 1 = .ok (.iload_n 3, 1) := by decide +kernel
theorem dJ2_indexOfChar_4cfef_2 : decode cJ2_indexOfChar_4cfef 2 = .ok (.aload_n 0, 1) := by decide +kernel
theorem dJ2_indexOfChar_4cfef_3 : decode cJ2_indexOfChar_4cfef 3 = .ok (.invokestatic 96, 3) := by decide +kernel
theorem dJ2_indexOfChar_4cfef_6 : decode cJ2_indexOfChar_4cfef 6 = .ok (.aload_n 0, 1) := by decide +kernel
theorem dJ2_indexOfChar_4cfef_7 : decode cJ2_indexOfChar_4cfef 7 = .ok (.iload_n 1, 1) := by decide +kernel
theorem dJ2_indexOfChar_4cfef_8 : decode cJ2_indexOfChar_4cfef 8 = .ok (.iload_n 2, 1) := by decide +kernel
theorem dJ2_indexOfChar_4cfef_9 : decode cJ2_indexOfChar_4cfef 9 = .ok (.iload_n 3, 1) := by decide +kernel
theorem dJ2_indexOfChar_4cfef_10 : decode cJ2_indexOfChar_4cfef 10 = .ok (.invokestatic 244, 3) := by decide +kernel
theorem dJ2_indexOfChar_4cfef_13 : decode cJ2_indexOfChar_4cfef 13 = .ok (.ireturn, 1) := by decide +kernel
theorem dJ2_indexOfCharUnsafe_4cfef_0 : decode cJ2_indexOfCharUnsafe_4cfef 0 = .ok (.iload_n 2, 1) := by decide +kernel
theorem dJ2_indexOfCharUnsafe_4cfef_1 : decode cJ2_indexOfCharUnsafe_4cfef 1 = .ok (.istore 4, 2) := by decide +kernel
theorem dJ2_indexOfCharUnsafe_4cfef_3 : decode cJ2_indexOfCharUnsafe_4cfef 3 = .ok (.iload 4, 2) := by decide +kernel
theorem dJ2_indexOfCharUnsafe_4cfef_5 : decode cJ2_indexOfCharUnsafe_4cfef 5 = .ok (.iload_n 3, 1) := by decide +kernel
theorem dJ2_indexOfCharUnsafe_4cfef_6 : decode cJ2_indexOfCharUnsafe_4cfef 6 = .ok (.if_icmp .ge 22, 3) := by decide +kernel
theorem dJ2_indexOfCharUnsafe_4cfef_9 : decode cJ2_indexOfCharUnsafe_4cfef 9 = .ok (.aload_n 0, 1) := by decide +kernel
theorem dJ2_indexOfCharUnsafe_4cfef_10 : decode cJ2_indexOfCharUnsafe_4cfef 10 = .ok (.iload 4, 2) := by decide +kernel
theorem dJ2_indexOfCharUnsafe_4cfef_12 : decode cJ2_indexOfCharUnsafe_4cfef 12 = .ok (.invokestatic 71, 3) := by decide +kernel
theorem dJ2_indexOfCharUnsafe_4cfef_15 : decode cJ2_indexOfCharUnsafe_4cfef 15 = .ok (.iload_n 1, 1) := by decide +kernel
theorem dJ2_indexOfCharUnsafe_4cfef_16 : decode cJ2_indexOfCharUnsafe_4cfef 16 = .ok (.if_icmp .ne 6, 3) := by decide +kernel
theorem dJ2_indexOfCharUnsafe_4cfef_19 : decode cJ2_indexOfCharUnsafe_4cfef 19 = .ok (.iload 4, 2) := by decide +kernel
theorem dJ2_indexOfCharUnsafe_4cfef_21 : decode cJ2_indexOfCharUnsafe_4cfef 21 = .ok (.ireturn, 1) := by decide +kernel
theorem dJ2_indexOfCharUnsafe_4cfef_22 : decode cJ2_indexOfCharUnsafe_4cfef 22 = .ok (.iinc 4 1, 3) := by decide +kernel
theorem dJ2_indexOfCharUnsafe_4cfef_25 : decode cJ2_indexOfCharUnsafe_4cfef 25 = .ok (.goto (-22), 3) := by decide +kernel
theorem dJ2_indexOfCharUnsafe_4cfef_28 : decode cJ2_indexOfCharUnsafe_4cfef 28 = .ok (.iconst (-1), 1) := by decide +kernel
theorem dJ2_indexOfCharUnsafe_4cfef_29 : decode cJ2_indexOfCharUnsafe_4cfef 29 = .ok (.ireturn, 1) := by decide +kernel
theorem dJ2_indexOfSupplementary_4cfef_0 : decode cJ2_indexOfSupplementary_4cfef 0 = .ok (.iload_n 1, 1) := by decide +kernel
theorem dJ2_indexOfSupplementary_4cfef_1 : decode cJ2_indexOfSupplementary_4cfef 1 = .ok (.invokestatic 164, 3) := by decide +kernel
theorem dJ2_indexOfSupplementary_4cfef_4 : decode cJ2_indexOfSupplementary_4cfef 4 = .ok (.ifCond .eq 65, 3) := by decide +kernel
theorem dJ2_indexOfSupplementary_4cfef_7 : decode cJ2_indexOfSupplementary_4cfef 7 = .ok (.iload_n 1, 1) := by decide +kernel
theorem dJ2_indexOfSupplementary_4cfef_8 : decode cJ2_indexOfSupplementary_4cfef 8 = .ok (.invokestatic 157, 3) := by decide +kernel
theorem dJ2_indexOfSupplementary_4cfef_11 : decode cJ2_indexOfSupplementary_4cfef 11 = .ok (.istore 4, 2) := by decide +kernel
theorem dJ2_indexOfSupplementary_4cfef_13 : decode cJ2_indexOfSupplementary_4cfef 13 = .ok (.iload_n 1, 1) := by decide +kernel
theorem dJ2_indexOfSupplementary_4cfef_14 : decode cJ2_indexOfSupplementary_4cfef 14 = .ok (.invokestatic 161, 3) := by decide +kernel
theorem dJ2_indexOfSupplementary_4cfef_17 : decode cJ2_indexOfSupplementary_4cfef 17 = .ok (.istore 5, 2) := by decide +kernel
theorem dJ2_indexOfSupplementary_4cfef_19 : decode cJ2_indexOfSupplementary_4cfef 19 = .ok (.iload_n 2, 1) := by decide +kernel
theorem dJ2_indexOfSupplementary_4cfef_20 : decode cJ2_indexOfSupplementary_4cfef 20 = .ok (.iload_n 3, 1) := by decide +kernel
theorem dJ2_indexOfSupplementary_4cfef_21 : decode cJ2_indexOfSupplementary_4cfef 21 = .ok (.aload_n 0, 1) := by decide +kernel
theorem dJ2_indexOfSupplementary_4cfef_22 : decode cJ2_indexOfSupplementary_4cfef 22 = .ok (.invokestatic 96, 3) := by decide +kernel
theorem dJ2_indexOfSupplementary_4cfef_25 : decode cJ2_indexOfSupplementary_4cfef 25 = .ok (.iload_n 2, 1) := by decide +kernel
theorem dJ2_indexOfSupplementary_4cfef_26 : decode cJ2_indexOfSupplementary_4cfef 26 = .ok (.istore 6, 2) := by decide +kernel
theorem dJ2_indexOfSupplementary_4cfef_28 : decode cJ2_indexOfSupplementary_4cfef 28 = .ok (.iload 6, 2) := by decide +kernel
theorem dJ2_indexOfSupplementary_4cfef_30 : decode cJ2_indexOfSupplementary_4cfef 30 = .ok (.iload_n 3, 1) := by decide +kernel
theorem dJ2_indexOfSupplementary_4cfef_31 : decode cJ2_indexOfSupplementary_4cfef 31 = .ok (.iconst 1, 1) := by decide +kernel
theorem dJ2_indexOfSupplementary_4cfef_32 : decode cJ2_indexOfSupplementary_4cfef 32 = .ok (.isub, 1) := by decide +kernel
theorem dJ2_indexOfSupplementary_4cfef_33 : decode cJ2_indexOfSupplementary_4cfef 33 = .ok (.if_icmp .ge 36, 3) := by decide +kernel
theorem dJ2_indexOfSupplementary_4cfef_36 : decode cJ2_indexOfSupplementary_4cfef 36 = .ok (.aload_n 0, 1) := by decide +kernel
theorem dJ2_indexOfSupplementary_4cfef_37 : decode cJ2_indexOfSupplementary_4cfef 37 = .ok (.iload 6, 2) := by decide +kernel
theorem dJ2_indexOfSupplementary_4cfef_39 : decode cJ2_indexOfSupplementary_4cfef 39 = .ok (.invokestatic 71, 3) := by decide +kernel
theorem dJ2_indexOfSupplementary_4cfef_42 : decode cJ2_indexOfSupplementary_4cfef 42 = .ok (.iload 4, 2) := by decide +kernel
theorem dJ2_indexOfSupplementary_4cfef_44 : decode cJ2_indexOfSupplementary_4cfef 44 = .ok (.if_icmp .ne 19, 3) := by decide +kernel
theorem dJ2_indexOfSupplementary_4cfef_47 : decode cJ2_indexOfSupplementary_4cfef 47 = .ok (.aload_n 0, 1) := by decide +kernel
theorem dJ2_indexOfSupplementary_4cfef_48 : decode cJ2_indexOfSupplementary_4cfef 48 = .ok (.iload 6, 2) := by decide +kernel
theorem dJ2_indexOfSupplementary_4cfef_50 : decode cJ2_indexOfSupplementary_4cfef 50 = .ok (.iconst 1, 1) := by decide +kernel
theorem dJ2_indexOfSupplementary_4cfef_51 : decode cJ2_indexOfSupplementary_4cfef 51 = .ok (.iadd, 1) := by decide +kernel
theorem dJ2_indexOfSupplementary_4cfef_52 : decode cJ2_indexOfSupplementary_4cfef 52 = .ok (.invokestatic 71, 3) := by decide +kernel
theorem dJ2_indexOfSupplementary_4cfef_55 : decode cJ2_indexOfSupplementary_4cfef 55 = .ok (.iload 5, 2) := by decide +kernel
theorem dJ2_indexOfSupplementary_4cfef_57 : decode cJ2_indexOfSupplementary_4cfef 57 = .ok (.if_icmp .ne 6, 3) := by decide +kernel
theorem dJ2_indexOfSupplementary_4cfef_60 : decode cJ2_indexOfSupplementary_4cfef 60 = .ok (.iload 6, 2) := by decide +kernel
theorem dJ2_indexOfSupplementary_4cfef_62 : decode cJ2_indexOfSupplementary_4cfef 62 = .ok (.ireturn, 1) := by decide +kernel
theorem dJ2_indexOfSupplementary_4cfef_63 : decode cJ2_indexOfSupplementary_4cfef 63 = .ok (.iinc 6 1, 3) := by decide +kernel
theorem dJ2_indexOfSupplementary_4cfef_66 : decode cJ2_indexOfSupplementary_4cfef 66 = .ok (.goto (-38), 3) := by decide +kernel
theorem dJ2_indexOfSupplementary_4cfef_69 : decode cJ2_indexOfSupplementary_4cfef 69 = .ok (.iconst (-1), 1) := by decide +kernel
theorem dJ2_indexOfSupplementary_4cfef_70 : decode cJ2_indexOfSupplementary_4cfef 70 = .ok (.ireturn, 1) := by decide +kernel
theorem dJ2_charAt_3b067_0 : decode cJ2_charAt_3b067 0 = .ok (.iload_n 1, 1) := by decide +kernel
theorem dJ2_charAt_3b067_1 : decode cJ2_charAt_3b067 1 = .ok (.aload_n 0, 1) := by decide +kernel
theorem dJ2_charAt_3b067_2 : decode cJ2_charAt_3b067 2 = .ok (.invokestatic 67, 3) := by decide +kernel
theorem dJ2_charAt_3b067_5 : decode cJ2_charAt_3b067 5 = .ok (.aload_n 0, 1) := by decide +kernel
theorem dJ2_charAt_3b067_6 : decode cJ2_charAt_3b067 6 = .ok (.iload_n 1, 1) := by decide +kernel
theorem dJ2_charAt_3b067_7 : decode cJ2_charAt_3b067 7 = .ok (.invokestatic 71, 3) := by decide +kernel
theorem dJ2_charAt_3b067_10 : decode cJ2_charAt_3b067 10 = .ok (.ireturn, 1) := by decide +kernel
theorem dJ2_checkIndex_2214a_0 : decode cJ2_checkIndex_2214a 0 = .ok (.iload_n 0, 1) := by decide +kernel
theorem dJ2_checkIndex_2214a_1 : decode cJ2_checkIndex_2214a 1 = .ok (.aload_n 1, 1) := by decide +kernel
theorem dJ2_checkIndex_2214a_2 : decode cJ2_checkIndex_2214a 2 = .ok (.invokestatic 48, 3) := by decide +kernel
theorem dJ2_checkIndex_2214a_5 : decode cJ2_checkIndex_2214a 5 = .ok (.invokestatic 414, 3) := by decide +kernel
theorem dJ2_checkIndex_2214a_8 : decode cJ2_checkIndex_2214a 8 = .ok (.return_, 1) := by decide +kernel
theorem dJ2_checkBoundsBeginEnd_d044e_0 : decode cJ2_checkBoundsBeginEnd_d044e 0 = .ok (.iload_n 0, 1) := by decide +kernel
theorem dJ2_checkBoundsBeginEnd_d044e_1 : decode cJ2_checkBoundsBeginEnd_d044e 1 = .ok (.iload_n 1, 1) := by decide +kernel
theorem dJ2_checkBoundsBeginEnd_d044e_2 : decode cJ2_checkBoundsBeginEnd_d044e 2 = .ok (.aload_n 2, 1) := by decide +kernel
theorem dJ2_checkBoundsBeginEnd_d044e_3 : decode cJ2_checkBoundsBeginEnd_d044e 3 = .ok (.invokestatic 48, 3) := by decide +kernel
theorem dJ2_checkBoundsBeginEnd_d044e_6 : decode cJ2_checkBoundsBeginEnd_d044e 6 = .ok (.invokestatic 241, 3) := by decide +kernel
theorem dJ2_checkBoundsBeginEnd_d044e_9 : decode cJ2_checkBoundsBeginEnd_d044e 9 = .ok (.return_, 1) := by decide +kernel
theorem dJ3_checkIndex_8e157_0 : decode cJ3_checkIndex_8e157 0 = .ok (.iload_n 0, 1) := by decide +kernel
theorem dJ3_checkIndex_8e157_1 : decode cJ3_checkIndex_8e157 1 = .ok (.ifCond .lt 8, 3) := by decide +kernel
theorem dJ3_checkIndex_8e157_4 : decode cJ3_checkIndex_8e157 4 = .ok (.iload_n 0, 1) := by decide +kernel
theorem dJ3_checkIndex_8e157_5 : decode cJ3_checkIndex_8e157 5 = .ok (.iload_n 1, 1) := by decide +kernel
theorem dJ3_checkIndex_8e157_6 : decode cJ3_checkIndex_8e157 6 = .ok (.if_icmp .lt 10, 3) := by decide +kernel
theorem dJ3_checkIndex_8e157_9 : decode cJ3_checkIndex_8e157 9 = .ok (.aload_n 2, 1) := by decide +kernel
theorem dJ3_checkIndex_8e157_10 : decode cJ3_checkIndex_8e157 10 = .ok (.iload_n 0, 1) := by decide +kernel
theorem dJ3_checkIndex_8e157_11 : decode cJ3_checkIndex_8e157 11 = .ok (.iload_n 1, 1) := by decide +kernel
theorem dJ3_checkIndex_8e157_12 : decode cJ3_checkIndex_8e157 12 = .ok (.invokestatic 95, 3) := by decide +kernel
theorem dJ3_checkIndex_8e157_15 : decode cJ3_checkIndex_8e157 15 = .ok (.athrow, 1) := by decide +kernel
theorem dJ3_checkIndex_8e157_16 : decode cJ3_checkIndex_8e157 16 = .ok (.iload_n 0, 1) := by decide +kernel
theorem dJ3_checkIndex_8e157_17 : decode cJ3_checkIndex_8e157 17 = .ok (.ireturn, 1) := by decide +kernel
theorem dJ3_checkFromToIndex_8c36e_0 : decode cJ3_checkFromToIndex_8c36e 0 = .ok (.iload_n 0, 1) := by decide +kernel
theorem dJ3_checkFromToIndex_8c36e_1 : decode cJ3_checkFromToIndex_8c36e 1 = .ok (.ifCond .lt 13, 3) := by decide +kernel
theorem dJ3_checkFromToIndex_8c36e_4 : decode cJ3_checkFromToIndex_8c36e 4 = .ok (.iload_n 0, 1) := by decide +kernel
theorem dJ3_checkFromToIndex_8c36e_5 : decode cJ3_checkFromToIndex_8c36e 5 = .ok (.iload_n 1, 1) := by decide +kernel
theorem dJ3_checkFromToIndex_8c36e_6 : decode cJ3_checkFromToIndex_8c36e 6 = .ok (.if_icmp .gt 8, 3) := by decide +kernel
theorem dJ3_checkFromToIndex_8c36e_9 : decode cJ3_checkFromToIndex_8c36e 9 = .ok (.iload_n 1, 1) := by decide +kernel
theorem dJ3_checkFromToIndex_8c36e_10 : decode cJ3_checkFromToIndex_8c36e 10 = .ok (.iload_n 2, 1) := by decide +kernel
theorem dJ3_checkFromToIndex_8c36e_11 : decode cJ3_checkFromToIndex_8c36e 11 = .ok (.if_icmp .le 11, 3) := by decide +kernel
theorem dJ3_checkFromToIndex_8c36e_14 : decode cJ3_checkFromToIndex_8c36e 14 = .ok (.aload_n 3, 1) := by decide +kernel
theorem dJ3_checkFromToIndex_8c36e_15 : decode cJ3_checkFromToIndex_8c36e 15 = .ok (.iload_n 0, 1) := by decide +kernel
theorem dJ3_checkFromToIndex_8c36e_16 : decode cJ3_checkFromToIndex_8c36e 16 = .ok (.iload_n 1, 1) := by decide +kernel
theorem dJ3_checkFromToIndex_8c36e_17 : decode cJ3_checkFromToIndex_8c36e 17 = .ok (.iload_n 2, 1) := by decide +kernel
theorem dJ3_checkFromToIndex_8c36e_18 : decode cJ3_checkFromToIndex_8c36e 18 = .ok (.invokestatic 99, 3) := by decide +kernel
theorem dJ3_checkFromToIndex_8c36e_21 : decode cJ3_checkFromToIndex_8c36e 21 = .ok (.athrow, 1) := by decide +kernel
theorem dJ3_checkFromToIndex_8c36e_22 : decode cJ3_checkFromToIndex_8c36e 22 = .ok (.iload_n 0, 1) := by decide +kernel
theorem dJ3_checkFromToIndex_8c36e_23 : decode cJ3_checkFromToIndex_8c36e 23 = .ok (.ireturn, 1) := by decide +kernel
theorem dL_law_0 : decode cL_law 0 = .ok (.new 7, 3) := by decide +kernel
theorem dL_law_3 : decode cL_law 3 = .ok (.dup, 1) := by decide +kernel
theorem dL_law_4 : decode cL_law 4 = .ok (.invokespecial 9, 3) := by decide +kernel
theorem dL_law_7 : decode cL_law 7 = .ok (.astore_n 1, 1) := by decide +kernel
theorem dL_law_8 : decode cL_law 8 = .ok (.new 10, 3) := by decide +kernel
theorem dL_law_11 : decode cL_law 11 = .ok (.dup, 1) := by decide +kernel
theorem dL_law_12 : decode cL_law 12 = .ok (.invokespecial 12, 3) := by decide +kernel
theorem dL_law_15 : decode cL_law 15 = .ok (.astore_n 2, 1) := by decide +kernel
theorem dL_law_16 : decode cL_law 16 = .ok (.iconst 0, 1) := by decide +kernel
theorem dL_law_17 : decode cL_law 17 = .ok (.istore_n 3, 1) := by decide +kernel
theorem dL_law_18 : decode cL_law 18 = .ok (.iload_n 3, 1) := by decide +kernel
theorem dL_law_19 : decode cL_law 19 = .ok (.aload_n 0, 1) := by decide +kernel
theorem dL_law_20 : decode cL_law 20 = .ok (.arraylength, 1) := by decide +kernel
theorem dL_law_21 : decode cL_law 21 = .ok (.bipush 6, 2) := by decide +kernel
theorem dL_law_23 : decode cL_law 23 = .ok (.isub, 1) := by decide +kernel
theorem dL_law_24 : decode cL_law 24 = .ok (.if_icmp .gt 1131, 3) := by decide +kernel
theorem dL_law_27 : decode cL_law 27 = .ok (.aload_n 0, 1) := by decide +kernel
theorem dL_law_28 : decode cL_law 28 = .ok (.iload_n 3, 1) := by decide +kernel
theorem dL_law_29 : decode cL_law 29 = .ok (.iaload, 1) := by decide +kernel
theorem dL_law_30 : decode cL_law 30 = .ok (.bipush 63, 2) := by decide +kernel
theorem dL_law_32 : decode cL_law 32 = .ok (.iand, 1) := by decide +kernel
theorem dL_law_33 : decode cL_law 33 = .ok (.tableswitch 1116 0 34 #[155, 218, 241, 254, 267, 300, 333, 376, 399, 432, 465, 488, 511, 534, 557, 570, 603, 626, 659, 682, 695, 708, 731, 744, 767, 800, 833, 866, 909, 968, 981, 1014, 1047, 1070, 1093], 155) := by decide +kernel
theorem dL_law_188 : decode cL_law 188 = .ok (.aload_n 1, 1) := by decide +kernel
theorem dL_law_189 : decode cL_law 189 = .ok (.aload_n 0, 1) := by decide +kernel
theorem dL_law_190 : decode cL_law 190 = .ok (.iload_n 3, 1) := by decide +kernel
theorem dL_law_191 : decode cL_law 191 = .ok (.iconst 1, 1) := by decide +kernel
theorem dL_law_192 : decode cL_law 192 = .ok (.iadd, 1) := by decide +kernel
theorem dL_law_193 : decode cL_law 193 = .ok (.iaload, 1) := by decide +kernel
theorem dL_law_194 : decode cL_law 194 = .ok (.aload_n 0, 1) := by decide +kernel
theorem dL_law_195 : decode cL_law 195 = .ok (.iload_n 3, 1) := by decide +kernel
theorem dL_law_196 : decode cL_law 196 = .ok (.iconst 2, 1) := by decide +kernel
theorem dL_law_197 : decode cL_law 197 = .ok (.iadd, 1) := by decide +kernel
theorem dL_law_198 : decode cL_law 198 = .ok (.iaload, 1) := by decide +kernel
theorem dL_law_199 : decode cL_law 199 = .ok (.aload_n 0, 1) := by decide +kernel
theorem dL_law_200 : decode cL_law 200 = .ok (.iload_n 3, 1) := by decide +kernel
theorem dL_law_201 : decode cL_law 201 = .ok (.iconst 3, 1) := by decide +kernel
theorem dL_law_202 : decode cL_law 202 = .ok (.iadd, 1) := by decide +kernel
theorem dL_law_203 : decode cL_law 203 = .ok (.iaload, 1) := by decide +kernel
theorem dL_law_204 : decode cL_law 204 = .ok (.aload_n 0, 1) := by decide +kernel
theorem dL_law_205 : decode cL_law 205 = .ok (.iload_n 3, 1) := by decide +kernel
theorem dL_law_206 : decode cL_law 206 = .ok (.iconst 4, 1) := by decide +kernel
theorem dL_law_207 : decode cL_law 207 = .ok (.iadd, 1) := by decide +kernel
theorem dL_law_208 : decode cL_law 208 = .ok (.iaload, 1) := by decide +kernel
theorem dL_law_209 : decode cL_law 209 = .ok (.aload_n 0, 1) := by decide +kernel
theorem dL_law_210 : decode cL_law 210 = .ok (.iload_n 3, 1) := by decide +kernel
theorem dL_law_211 : decode cL_law 211 = .ok (.iconst 5, 1) := by decide +kernel
theorem dL_law_212 : decode cL_law 212 = .ok (.iadd, 1) := by decide +kernel
theorem dL_law_213 : decode cL_law 213 = .ok (.iaload, 1) := by decide +kernel
theorem dL_law_214 : decode cL_law 214 = .ok (.invokevirtual 13, 3) := by decide +kernel
theorem dL_law_217 : decode cL_law 217 = .ok (.aload_n 2, 1) := by decide +kernel
theorem dL_law_218 : decode cL_law 218 = .ok (.aload_n 0, 1) := by decide +kernel
theorem dL_law_219 : decode cL_law 219 = .ok (.iload_n 3, 1) := by decide +kernel
theorem dL_law_220 : decode cL_law 220 = .ok (.iconst 1, 1) := by decide +kernel
theorem dL_law_221 : decode cL_law 221 = .ok (.iadd, 1) := by decide +kernel
theorem dL_law_222 : decode cL_law 222 = .ok (.iaload, 1) := by decide +kernel
theorem dL_law_223 : decode cL_law 223 = .ok (.aload_n 0, 1) := by decide +kernel
theorem dL_law_224 : decode cL_law 224 = .ok (.iload_n 3, 1) := by decide +kernel
theorem dL_law_225 : decode cL_law 225 = .ok (.iconst 2, 1) := by decide +kernel
theorem dL_law_226 : decode cL_law 226 = .ok (.iadd, 1) := by decide +kernel
theorem dL_law_227 : decode cL_law 227 = .ok (.iaload, 1) := by decide +kernel
theorem dL_law_228 : decode cL_law 228 = .ok (.aload_n 0, 1) := by decide +kernel
theorem dL_law_229 : decode cL_law 229 = .ok (.iload_n 3, 1) := by decide +kernel
theorem dL_law_230 : decode cL_law 230 = .ok (.iconst 3, 1) := by decide +kernel
theorem dL_law_231 : decode cL_law 231 = .ok (.iadd, 1) := by decide +kernel
theorem dL_law_232 : decode cL_law 232 = .ok (.iaload, 1) := by decide +kernel
theorem dL_law_233 : decode cL_law 233 = .ok (.aload_n 0, 1) := by decide +kernel
theorem dL_law_234 : decode cL_law 234 = .ok (.iload_n 3, 1) := by decide +kernel
theorem dL_law_235 : decode cL_law 235 = .ok (.iconst 4, 1) := by decide +kernel
theorem dL_law_236 : decode cL_law 236 = .ok (.iadd, 1) := by decide +kernel
theorem dL_law_237 : decode cL_law 237 = .ok (.iaload, 1) := by decide +kernel
theorem dL_law_238 : decode cL_law 238 = .ok (.aload_n 0, 1) := by decide +kernel
theorem dL_law_239 : decode cL_law 239 = .ok (.iload_n 3, 1) := by decide +kernel
theorem dL_law_240 : decode cL_law 240 = .ok (.iconst 5, 1) := by decide +kernel
theorem dL_law_241 : decode cL_law 241 = .ok (.iadd, 1) := by decide +kernel
theorem dL_law_242 : decode cL_law 242 = .ok (.iaload, 1) := by decide +kernel
theorem dL_law_243 : decode cL_law 243 = .ok (.invokevirtual 17, 3) := by decide +kernel
theorem dL_law_246 : decode cL_law 246 = .ok (.if_icmp .eq 903, 3) := by decide +kernel
theorem dL_law_249 : decode cL_law 249 = .ok (.iconst 0, 1) := by decide +kernel
theorem dL_law_250 : decode cL_law 250 = .ok (.ireturn, 1) := by decide +kernel
theorem dL_law_251 : decode cL_law 251 = .ok (.aload_n 1, 1) := by decide +kernel
theorem dL_law_252 : decode cL_law 252 = .ok (.aload_n 0, 1) := by decide +kernel
theorem dL_law_253 : decode cL_law 253 = .ok (.iload_n 3, 1) := by decide +kernel
theorem dL_law_254 : decode cL_law 254 = .ok (.iconst 1, 1) := by decide +kernel
theorem dL_law_255 : decode cL_law 255 = .ok (.iadd, 1) := by decide +kernel
theorem dL_law_256 : decode cL_law 256 = .ok (.iaload, 1) := by decide +kernel
theorem dL_law_257 : decode cL_law 257 = .ok (.invokevirtual 18, 3) := by decide +kernel
theorem dL_law_260 : decode cL_law 260 = .ok (.aload_n 2, 1) := by decide +kernel
theorem dL_law_261 : decode cL_law 261 = .ok (.aload_n 0, 1) := by decide +kernel
theorem dL_law_262 : decode cL_law 262 = .ok (.iload_n 3, 1) := by decide +kernel
theorem dL_law_263 : decode cL_law 263 = .ok (.iconst 1, 1) := by decide +kernel
theorem dL_law_264 : decode cL_law 264 = .ok (.iadd, 1) := by decide +kernel
theorem dL_law_265 : decode cL_law 265 = .ok (.iaload, 1) := by decide +kernel
theorem dL_law_266 : decode cL_law 266 = .ok (.invokevirtual 22, 3) := by decide +kernel
theorem dL_law_269 : decode cL_law 269 = .ok (.if_icmp .eq 880, 3) := by decide +kernel
theorem dL_law_272 : decode cL_law 272 = .ok (.iconst 0, 1) := by decide +kernel
theorem dL_law_273 : decode cL_law 273 = .ok (.ireturn, 1) := by decide +kernel
theorem dL_law_274 : decode cL_law 274 = .ok (.aload_n 1, 1) := by decide +kernel
theorem dL_law_275 : decode cL_law 275 = .ok (.invokevirtual 23, 3) := by decide +kernel
theorem dL_law_278 : decode cL_law 278 = .ok (.aload_n 2, 1) := by decide +kernel
theorem dL_law_279 : decode cL_law 279 = .ok (.invokevirtual 27, 3) := by decide +kernel
theorem dL_law_282 : decode cL_law 282 = .ok (.if_icmp .eq 867, 3) := by decide +kernel
theorem dL_law_285 : decode cL_law 285 = .ok (.iconst 0, 1) := by decide +kernel
theorem dL_law_286 : decode cL_law 286 = .ok (.ireturn, 1) := by decide +kernel
theorem dL_law_287 : decode cL_law 287 = .ok (.aload_n 1, 1) := by decide +kernel
theorem dL_law_288 : decode cL_law 288 = .ok (.invokevirtual 28, 3) := by decide +kernel
theorem dL_law_291 : decode cL_law 291 = .ok (.aload_n 2, 1) := by decide +kernel
theorem dL_law_292 : decode cL_law 292 = .ok (.invokevirtual 31, 3) := by decide +kernel
theorem dL_law_295 : decode cL_law 295 = .ok (.if_icmp .eq 854, 3) := by decide +kernel
theorem dL_law_298 : decode cL_law 298 = .ok (.iconst 0, 1) := by decide +kernel
theorem dL_law_299 : decode cL_law 299 = .ok (.ireturn, 1) := by decide +kernel
theorem dL_law_300 : decode cL_law 300 = .ok (.aload_n 1, 1) := by decide +kernel
theorem dL_law_301 : decode cL_law 301 = .ok (.aload_n 0, 1) := by decide +kernel
theorem dL_law_302 : decode cL_law 302 = .ok (.iload_n 3, 1) := by decide +kernel
theorem dL_law_303 : decode cL_law 303 = .ok (.iconst 1, 1) := by decide +kernel
theorem dL_law_304 : decode cL_law 304 = .ok (.iadd, 1) := by decide +kernel
theorem dL_law_305 : decode cL_law 305 = .ok (.iaload, 1) := by decide +kernel
theorem dL_law_306 : decode cL_law 306 = .ok (.aload_n 0, 1) := by decide +kernel
theorem dL_law_307 : decode cL_law 307 = .ok (.iload_n 3, 1) := by decide +kernel
theorem dL_law_308 : decode cL_law 308 = .ok (.iconst 2, 1) := by decide +kernel
theorem dL_law_309 : decode cL_law 309 = .ok (.iadd, 1) := by decide +kernel
theorem dL_law_310 : decode cL_law 310 = .ok (.iaload, 1) := by decide +kernel
theorem dL_law_311 : decode cL_law 311 = .ok (.invokevirtual 32, 3) := by decide +kernel
theorem dL_law_314 : decode cL_law 314 = .ok (.aload_n 2, 1) := by decide +kernel
theorem dL_law_315 : decode cL_law 315 = .ok (.aload_n 0, 1) := by decide +kernel
theorem dL_law_316 : decode cL_law 316 = .ok (.iload_n 3, 1) := by decide +kernel
theorem dL_law_317 : decode cL_law 317 = .ok (.iconst 1, 1) := by decide +kernel
theorem dL_law_318 : decode cL_law 318 = .ok (.iadd, 1) := by decide +kernel
theorem dL_law_319 : decode cL_law 319 = .ok (.iaload, 1) := by decide +kernel
theorem dL_law_320 : decode cL_law 320 = .ok (.aload_n 0, 1) := by decide +kernel
theorem dL_law_321 : decode cL_law 321 = .ok (.iload_n 3, 1) := by decide +kernel
theorem dL_law_322 : decode cL_law 322 = .ok (.iconst 2, 1) := by decide +kernel
theorem dL_law_323 : decode cL_law 323 = .ok (.iadd, 1) := by decide +kernel
theorem dL_law_324 : decode cL_law 324 = .ok (.iaload, 1) := by decide +kernel
theorem dL_law_325 : decode cL_law 325 = .ok (.invokevirtual 36, 3) := by decide +kernel
theorem dL_law_328 : decode cL_law 328 = .ok (.if_icmp .eq 821, 3) := by decide +kernel
theorem dL_law_331 : decode cL_law 331 = .ok (.iconst 0, 1) := by decide +kernel
theorem dL_law_332 : decode cL_law 332 = .ok (.ireturn, 1) := by decide +kernel
theorem dL_law_333 : decode cL_law 333 = .ok (.aload_n 1, 1) := by decide +kernel
theorem dL_law_334 : decode cL_law 334 = .ok (.aload_n 0, 1) := by decide +kernel
theorem dL_law_335 : decode cL_law 335 = .ok (.iload_n 3, 1) := by decide +kernel
theorem dL_law_336 : decode cL_law 336 = .ok (.iconst 1, 1) := by decide +kernel
theorem dL_law_337 : decode cL_law 337 = .ok (.iadd, 1) := by decide +kernel
theorem dL_law_338 : decode cL_law 338 = .ok (.iaload, 1) := by decide +kernel
theorem dL_law_339 : decode cL_law 339 = .ok (.aload_n 0, 1) := by decide +kernel
theorem dL_law_340 : decode cL_law 340 = .ok (.iload_n 3, 1) := by decide +kernel
theorem dL_law_341 : decode cL_law 341 = .ok (.iconst 2, 1) := by decide +kernel
theorem dL_law_342 : decode cL_law 342 = .ok (.iadd, 1) := by decide +kernel
theorem dL_law_343 : decode cL_law 343 = .ok (.iaload, 1) := by decide +kernel
theorem dL_law_344 : decode cL_law 344 = .ok (.invokevirtual 37, 3) := by decide +kernel
theorem dL_law_347 : decode cL_law 347 = .ok (.aload_n 2, 1) := by decide +kernel
theorem dL_law_348 : decode cL_law 348 = .ok (.aload_n 0, 1) := by decide +kernel
theorem dL_law_349 : decode cL_law 349 = .ok (.iload_n 3, 1) := by decide +kernel
theorem dL_law_350 : decode cL_law 350 = .ok (.iconst 1, 1) := by decide +kernel
theorem dL_law_351 : decode cL_law 351 = .ok (.iadd, 1) := by decide +kernel
theorem dL_law_352 : decode cL_law 352 = .ok (.iaload, 1) := by decide +kernel
theorem dL_law_353 : decode cL_law 353 = .ok (.aload_n 0, 1) := by decide +kernel
theorem dL_law_354 : decode cL_law 354 = .ok (.iload_n 3, 1) := by decide +kernel
theorem dL_law_355 : decode cL_law 355 = .ok (.iconst 2, 1) := by decide +kernel
theorem dL_law_356 : decode cL_law 356 = .ok (.iadd, 1) := by decide +kernel
theorem dL_law_357 : decode cL_law 357 = .ok (.iaload, 1) := by decide +kernel
theorem dL_law_358 : decode cL_law 358 = .ok (.invokevirtual 40, 3) := by decide +kernel
theorem dL_law_361 : decode cL_law 361 = .ok (.if_icmp .eq 788, 3) := by decide +kernel
theorem dL_law_364 : decode cL_law 364 = .ok (.iconst 0, 1) := by decide +kernel
theorem dL_law_365 : decode cL_law 365 = .ok (.ireturn, 1) := by decide +kernel
theorem dL_law_366 : decode cL_law 366 = .ok (.aload_n 1, 1) := by decide +kernel
theorem dL_law_367 : decode cL_law 367 = .ok (.aload_n 0, 1) := by decide +kernel
theorem dL_law_368 : decode cL_law 368 = .ok (.iload_n 3, 1) := by decide +kernel
theorem dL_law_369 : decode cL_law 369 = .ok (.iconst 1, 1) := by decide +kernel
theorem dL_law_370 : decode cL_law 370 = .ok (.iadd, 1) := by decide +kernel
theorem dL_law_371 : decode cL_law 371 = .ok (.iaload, 1) := by decide +kernel
theorem dL_law_372 : decode cL_law 372 = .ok (.aload_n 0, 1) := by decide +kernel
theorem dL_law_373 : decode cL_law 373 = .ok (.iload_n 3, 1) := by decide +kernel
theorem dL_law_374 : decode cL_law 374 = .ok (.iconst 2, 1) := by decide +kernel
theorem dL_law_375 : decode cL_law 375 = .ok (.iadd, 1) := by decide +kernel
theorem dL_law_376 : decode cL_law 376 = .ok (.iaload, 1) := by decide +kernel
theorem dL_law_377 : decode cL_law 377 = .ok (.aload_n 0, 1) := by decide +kernel
theorem dL_law_378 : decode cL_law 378 = .ok (.iload_n 3, 1) := by decide +kernel
theorem dL_law_379 : decode cL_law 379 = .ok (.iconst 3, 1) := by decide +kernel
theorem dL_law_380 : decode cL_law 380 = .ok (.iadd, 1) := by decide +kernel
theorem dL_law_381 : decode cL_law 381 = .ok (.iaload, 1) := by decide +kernel
theorem dL_law_382 : decode cL_law 382 = .ok (.invokevirtual 41, 3) := by decide +kernel
theorem dL_law_385 : decode cL_law 385 = .ok (.aload_n 2, 1) := by decide +kernel
theorem dL_law_386 : decode cL_law 386 = .ok (.aload_n 0, 1) := by decide +kernel
theorem dL_law_387 : decode cL_law 387 = .ok (.iload_n 3, 1) := by decide +kernel
theorem dL_law_388 : decode cL_law 388 = .ok (.iconst 1, 1) := by decide +kernel
theorem dL_law_389 : decode cL_law 389 = .ok (.iadd, 1) := by decide +kernel
theorem dL_law_390 : decode cL_law 390 = .ok (.iaload, 1) := by decide +kernel
theorem dL_law_391 : decode cL_law 391 = .ok (.aload_n 0, 1) := by decide +kernel
theorem dL_law_392 : decode cL_law 392 = .ok (.iload_n 3, 1) := by decide +kernel
theorem dL_law_393 : decode cL_law 393 = .ok (.iconst 2, 1) := by decide +kernel
theorem dL_law_394 : decode cL_law 394 = .ok (.iadd, 1) := by decide +kernel
theorem dL_law_395 : decode cL_law 395 = .ok (.iaload, 1) := by decide +kernel
theorem dL_law_396 : decode cL_law 396 = .ok (.aload_n 0, 1) := by decide +kernel
theorem dL_law_397 : decode cL_law 397 = .ok (.iload_n 3, 1) := by decide +kernel
theorem dL_law_398 : decode cL_law 398 = .ok (.iconst 3, 1) := by decide +kernel
theorem dL_law_399 : decode cL_law 399 = .ok (.iadd, 1) := by decide +kernel
theorem dL_law_400 : decode cL_law 400 = .ok (.iaload, 1) := by decide +kernel
theorem dL_law_401 : decode cL_law 401 = .ok (.invokevirtual 45, 3) := by decide +kernel
theorem dL_law_404 : decode cL_law 404 = .ok (.if_icmp .eq 745, 3) := by decide +kernel
theorem dL_law_407 : decode cL_law 407 = .ok (.iconst 0, 1) := by decide +kernel
theorem dL_law_408 : decode cL_law 408 = .ok (.ireturn, 1) := by decide +kernel
theorem dL_law_409 : decode cL_law 409 = .ok (.aload_n 1, 1) := by decide +kernel
theorem dL_law_410 : decode cL_law 410 = .ok (.aload_n 0, 1) := by decide +kernel
theorem dL_law_411 : decode cL_law 411 = .ok (.iload_n 3, 1) := by decide +kernel
theorem dL_law_412 : decode cL_law 412 = .ok (.iconst 1, 1) := by decide +kernel
theorem dL_law_413 : decode cL_law 413 = .ok (.iadd, 1) := by decide +kernel
theorem dL_law_414 : decode cL_law 414 = .ok (.iaload, 1) := by decide +kernel
theorem dL_law_415 : decode cL_law 415 = .ok (.invokevirtual 46, 3) := by decide +kernel
theorem dL_law_418 : decode cL_law 418 = .ok (.aload_n 2, 1) := by decide +kernel
theorem dL_law_419 : decode cL_law 419 = .ok (.aload_n 0, 1) := by decide +kernel
theorem dL_law_420 : decode cL_law 420 = .ok (.iload_n 3, 1) := by decide +kernel
theorem dL_law_421 : decode cL_law 421 = .ok (.iconst 1, 1) := by decide +kernel
theorem dL_law_422 : decode cL_law 422 = .ok (.iadd, 1) := by decide +kernel
theorem dL_law_423 : decode cL_law 423 = .ok (.iaload, 1) := by decide +kernel
theorem dL_law_424 : decode cL_law 424 = .ok (.invokevirtual 49, 3) := by decide +kernel
theorem dL_law_427 : decode cL_law 427 = .ok (.if_icmp .eq 722, 3) := by decide +kernel
theorem dL_law_430 : decode cL_law 430 = .ok (.iconst 0, 1) := by decide +kernel
theorem dL_law_431 : decode cL_law 431 = .ok (.ireturn, 1) := by decide +kernel
theorem dL_law_432 : decode cL_law 432 = .ok (.aload_n 1, 1) := by decide +kernel
theorem dL_law_433 : decode cL_law 433 = .ok (.aload_n 0, 1) := by decide +kernel
theorem dL_law_434 : decode cL_law 434 = .ok (.iload_n 3, 1) := by decide +kernel
theorem dL_law_435 : decode cL_law 435 = .ok (.iconst 1, 1) := by decide +kernel
theorem dL_law_436 : decode cL_law 436 = .ok (.iadd, 1) := by decide +kernel
theorem dL_law_437 : decode cL_law 437 = .ok (.iaload, 1) := by decide +kernel
theorem dL_law_438 : decode cL_law 438 = .ok (.aload_n 0, 1) := by decide +kernel
theorem dL_law_439 : decode cL_law 439 = .ok (.iload_n 3, 1) := by decide +kernel
theorem dL_law_440 : decode cL_law 440 = .ok (.iconst 2, 1) := by decide +kernel
theorem dL_law_441 : decode cL_law 441 = .ok (.iadd, 1) := by decide +kernel
theorem dL_law_442 : decode cL_law 442 = .ok (.iaload, 1) := by decide +kernel
theorem dL_law_443 : decode cL_law 443 = .ok (.invokevirtual 50, 3) := by decide +kernel
theorem dL_law_446 : decode cL_law 446 = .ok (.aload_n 2, 1) := by decide +kernel
theorem dL_law_447 : decode cL_law 447 = .ok (.aload_n 0, 1) := by decide +kernel
theorem dL_law_448 : decode cL_law 448 = .ok (.iload_n 3, 1) := by decide +kernel
theorem dL_law_449 : decode cL_law 449 = .ok (.iconst 1, 1) := by decide +kernel
theorem dL_law_450 : decode cL_law 450 = .ok (.iadd, 1) := by decide +kernel
theorem dL_law_451 : decode cL_law 451 = .ok (.iaload, 1) := by decide +kernel
theorem dL_law_452 : decode cL_law 452 = .ok (.aload_n 0, 1) := by decide +kernel
theorem dL_law_453 : decode cL_law 453 = .ok (.iload_n 3, 1) := by decide +kernel
theorem dL_law_454 : decode cL_law 454 = .ok (.iconst 2, 1) := by decide +kernel
theorem dL_law_455 : decode cL_law 455 = .ok (.iadd, 1) := by decide +kernel
theorem dL_law_456 : decode cL_law 456 = .ok (.iaload, 1) := by decide +kernel
theorem dL_law_457 : decode cL_law 457 = .ok (.invokevirtual 54, 3) := by decide +kernel
theorem dL_law_460 : decode cL_law 460 = .ok (.if_icmp .eq 689, 3) := by decide +kernel
theorem dL_law_463 : decode cL_law 463 = .ok (.iconst 0, 1) := by decide +kernel
theorem dL_law_464 : decode cL_law 464 = .ok (.ireturn, 1) := by decide +kernel
theorem dL_law_465 : decode cL_law 465 = .ok (.aload_n 1, 1) := by decide +kernel
theorem dL_law_466 : decode cL_law 466 = .ok (.aload_n 0, 1) := by decide +kernel
theorem dL_law_467 : decode cL_law 467 = .ok (.iload_n 3, 1) := by decide +kernel
theorem dL_law_468 : decode cL_law 468 = .ok (.iconst 1, 1) := by decide +kernel
theorem dL_law_469 : decode cL_law 469 = .ok (.iadd, 1) := by decide +kernel
theorem dL_law_470 : decode cL_law 470 = .ok (.iaload, 1) := by decide +kernel
theorem dL_law_471 : decode cL_law 471 = .ok (.aload_n 0, 1) := by decide +kernel
theorem dL_law_472 : decode cL_law 472 = .ok (.iload_n 3, 1) := by decide +kernel
theorem dL_law_473 : decode cL_law 473 = .ok (.iconst 2, 1) := by decide +kernel
theorem dL_law_474 : decode cL_law 474 = .ok (.iadd, 1) := by decide +kernel
theorem dL_law_475 : decode cL_law 475 = .ok (.iaload, 1) := by decide +kernel
theorem dL_law_476 : decode cL_law 476 = .ok (.invokevirtual 55, 3) := by decide +kernel
theorem dL_law_479 : decode cL_law 479 = .ok (.aload_n 2, 1) := by decide +kernel
theorem dL_law_480 : decode cL_law 480 = .ok (.aload_n 0, 1) := by decide +kernel
theorem dL_law_481 : decode cL_law 481 = .ok (.iload_n 3, 1) := by decide +kernel
theorem dL_law_482 : decode cL_law 482 = .ok (.iconst 1, 1) := by decide +kernel
theorem dL_law_483 : decode cL_law 483 = .ok (.iadd, 1) := by decide +kernel
theorem dL_law_484 : decode cL_law 484 = .ok (.iaload, 1) := by decide +kernel
theorem dL_law_485 : decode cL_law 485 = .ok (.aload_n 0, 1) := by decide +kernel
theorem dL_law_486 : decode cL_law 486 = .ok (.iload_n 3, 1) := by decide +kernel
theorem dL_law_487 : decode cL_law 487 = .ok (.iconst 2, 1) := by decide +kernel
theorem dL_law_488 : decode cL_law 488 = .ok (.iadd, 1) := by decide +kernel
theorem dL_law_489 : decode cL_law 489 = .ok (.iaload, 1) := by decide +kernel
theorem dL_law_490 : decode cL_law 490 = .ok (.invokevirtual 58, 3) := by decide +kernel
theorem dL_law_493 : decode cL_law 493 = .ok (.if_icmp .eq 656, 3) := by decide +kernel
theorem dL_law_496 : decode cL_law 496 = .ok (.iconst 0, 1) := by decide +kernel
theorem dL_law_497 : decode cL_law 497 = .ok (.ireturn, 1) := by decide +kernel
theorem dL_law_498 : decode cL_law 498 = .ok (.aload_n 1, 1) := by decide +kernel
theorem dL_law_499 : decode cL_law 499 = .ok (.aload_n 0, 1) := by decide +kernel
theorem dL_law_500 : decode cL_law 500 = .ok (.iload_n 3, 1) := by decide +kernel
theorem dL_law_501 : decode cL_law 501 = .ok (.iconst 1, 1) := by decide +kernel
theorem dL_law_502 : decode cL_law 502 = .ok (.iadd, 1) := by decide +kernel
theorem dL_law_503 : decode cL_law 503 = .ok (.iaload, 1) := by decide +kernel
theorem dL_law_504 : decode cL_law 504 = .ok (.invokevirtual 59, 3) := by decide +kernel
theorem dL_law_507 : decode cL_law 507 = .ok (.aload_n 2, 1) := by decide +kernel
theorem dL_law_508 : decode cL_law 508 = .ok (.aload_n 0, 1) := by decide +kernel
theorem dL_law_509 : decode cL_law 509 = .ok (.iload_n 3, 1) := by decide +kernel
theorem dL_law_510 : decode cL_law 510 = .ok (.iconst 1, 1) := by decide +kernel
theorem dL_law_511 : decode cL_law 511 = .ok (.iadd, 1) := by decide +kernel
theorem dL_law_512 : decode cL_law 512 = .ok (.iaload, 1) := by decide +kernel
theorem dL_law_513 : decode cL_law 513 = .ok (.invokevirtual 63, 3) := by decide +kernel
theorem dL_law_516 : decode cL_law 516 = .ok (.if_icmp .eq 633, 3) := by decide +kernel
theorem dL_law_519 : decode cL_law 519 = .ok (.iconst 0, 1) := by decide +kernel
theorem dL_law_520 : decode cL_law 520 = .ok (.ireturn, 1) := by decide +kernel
theorem dL_law_521 : decode cL_law 521 = .ok (.aload_n 1, 1) := by decide +kernel
theorem dL_law_522 : decode cL_law 522 = .ok (.aload_n 0, 1) := by decide +kernel
theorem dL_law_523 : decode cL_law 523 = .ok (.iload_n 3, 1) := by decide +kernel
theorem dL_law_524 : decode cL_law 524 = .ok (.iconst 1, 1) := by decide +kernel
theorem dL_law_525 : decode cL_law 525 = .ok (.iadd, 1) := by decide +kernel
theorem dL_law_526 : decode cL_law 526 = .ok (.iaload, 1) := by decide +kernel
theorem dL_law_527 : decode cL_law 527 = .ok (.invokevirtual 64, 3) := by decide +kernel
theorem dL_law_530 : decode cL_law 530 = .ok (.aload_n 2, 1) := by decide +kernel
theorem dL_law_531 : decode cL_law 531 = .ok (.aload_n 0, 1) := by decide +kernel
theorem dL_law_532 : decode cL_law 532 = .ok (.iload_n 3, 1) := by decide +kernel
theorem dL_law_533 : decode cL_law 533 = .ok (.iconst 1, 1) := by decide +kernel
theorem dL_law_534 : decode cL_law 534 = .ok (.iadd, 1) := by decide +kernel
theorem dL_law_535 : decode cL_law 535 = .ok (.iaload, 1) := by decide +kernel
theorem dL_law_536 : decode cL_law 536 = .ok (.invokevirtual 67, 3) := by decide +kernel
theorem dL_law_539 : decode cL_law 539 = .ok (.if_icmp .eq 610, 3) := by decide +kernel
theorem dL_law_542 : decode cL_law 542 = .ok (.iconst 0, 1) := by decide +kernel
theorem dL_law_543 : decode cL_law 543 = .ok (.ireturn, 1) := by decide +kernel
theorem dL_law_544 : decode cL_law 544 = .ok (.aload_n 1, 1) := by decide +kernel
theorem dL_law_545 : decode cL_law 545 = .ok (.aload_n 0, 1) := by decide +kernel
theorem dL_law_546 : decode cL_law 546 = .ok (.iload_n 3, 1) := by decide +kernel
theorem dL_law_547 : decode cL_law 547 = .ok (.iconst 1, 1) := by decide +kernel
theorem dL_law_548 : decode cL_law 548 = .ok (.iadd, 1) := by decide +kernel
theorem dL_law_549 : decode cL_law 549 = .ok (.iaload, 1) := by decide +kernel
theorem dL_law_550 : decode cL_law 550 = .ok (.invokevirtual 68, 3) := by decide +kernel
theorem dL_law_553 : decode cL_law 553 = .ok (.aload_n 2, 1) := by decide +kernel
theorem dL_law_554 : decode cL_law 554 = .ok (.aload_n 0, 1) := by decide +kernel
theorem dL_law_555 : decode cL_law 555 = .ok (.iload_n 3, 1) := by decide +kernel
theorem dL_law_556 : decode cL_law 556 = .ok (.iconst 1, 1) := by decide +kernel
theorem dL_law_557 : decode cL_law 557 = .ok (.iadd, 1) := by decide +kernel
theorem dL_law_558 : decode cL_law 558 = .ok (.iaload, 1) := by decide +kernel
theorem dL_law_559 : decode cL_law 559 = .ok (.invokevirtual 71, 3) := by decide +kernel
theorem dL_law_562 : decode cL_law 562 = .ok (.if_icmp .eq 587, 3) := by decide +kernel
theorem dL_law_565 : decode cL_law 565 = .ok (.iconst 0, 1) := by decide +kernel
theorem dL_law_566 : decode cL_law 566 = .ok (.ireturn, 1) := by decide +kernel
theorem dL_law_567 : decode cL_law 567 = .ok (.aload_n 1, 1) := by decide +kernel
theorem dL_law_568 : decode cL_law 568 = .ok (.aload_n 0, 1) := by decide +kernel
theorem dL_law_569 : decode cL_law 569 = .ok (.iload_n 3, 1) := by decide +kernel
theorem dL_law_570 : decode cL_law 570 = .ok (.iconst 1, 1) := by decide +kernel
theorem dL_law_571 : decode cL_law 571 = .ok (.iadd, 1) := by decide +kernel
theorem dL_law_572 : decode cL_law 572 = .ok (.iaload, 1) := by decide +kernel
theorem dL_law_573 : decode cL_law 573 = .ok (.invokevirtual 72, 3) := by decide +kernel
theorem dL_law_576 : decode cL_law 576 = .ok (.aload_n 2, 1) := by decide +kernel
theorem dL_law_577 : decode cL_law 577 = .ok (.aload_n 0, 1) := by decide +kernel
theorem dL_law_578 : decode cL_law 578 = .ok (.iload_n 3, 1) := by decide +kernel
theorem dL_law_579 : decode cL_law 579 = .ok (.iconst 1, 1) := by decide +kernel
theorem dL_law_580 : decode cL_law 580 = .ok (.iadd, 1) := by decide +kernel
theorem dL_law_581 : decode cL_law 581 = .ok (.iaload, 1) := by decide +kernel
theorem dL_law_582 : decode cL_law 582 = .ok (.invokevirtual 75, 3) := by decide +kernel
theorem dL_law_585 : decode cL_law 585 = .ok (.if_icmp .eq 564, 3) := by decide +kernel
theorem dL_law_588 : decode cL_law 588 = .ok (.iconst 0, 1) := by decide +kernel
theorem dL_law_589 : decode cL_law 589 = .ok (.ireturn, 1) := by decide +kernel
theorem dL_law_590 : decode cL_law 590 = .ok (.aload_n 1, 1) := by decide +kernel
theorem dL_law_591 : decode cL_law 591 = .ok (.invokevirtual 76, 3) := by decide +kernel
theorem dL_law_594 : decode cL_law 594 = .ok (.aload_n 2, 1) := by decide +kernel
theorem dL_law_595 : decode cL_law 595 = .ok (.invokevirtual 80, 3) := by decide +kernel
theorem dL_law_598 : decode cL_law 598 = .ok (.if_icmp .eq 551, 3) := by decide +kernel
theorem dL_law_601 : decode cL_law 601 = .ok (.iconst 0, 1) := by decide +kernel
theorem dL_law_602 : decode cL_law 602 = .ok (.ireturn, 1) := by decide +kernel
theorem dL_law_603 : decode cL_law 603 = .ok (.aload_n 1, 1) := by decide +kernel
theorem dL_law_604 : decode cL_law 604 = .ok (.aload_n 0, 1) := by decide +kernel
theorem dL_law_605 : decode cL_law 605 = .ok (.iload_n 3, 1) := by decide +kernel
theorem dL_law_606 : decode cL_law 606 = .ok (.iconst 1, 1) := by decide +kernel
theorem dL_law_607 : decode cL_law 607 = .ok (.iadd, 1) := by decide +kernel
theorem dL_law_608 : decode cL_law 608 = .ok (.iaload, 1) := by decide +kernel
theorem dL_law_609 : decode cL_law 609 = .ok (.aload_n 0, 1) := by decide +kernel
theorem dL_law_610 : decode cL_law 610 = .ok (.iload_n 3, 1) := by decide +kernel
theorem dL_law_611 : decode cL_law 611 = .ok (.iconst 2, 1) := by decide +kernel
theorem dL_law_612 : decode cL_law 612 = .ok (.iadd, 1) := by decide +kernel
theorem dL_law_613 : decode cL_law 613 = .ok (.iaload, 1) := by decide +kernel
theorem dL_law_614 : decode cL_law 614 = .ok (.invokevirtual 81, 3) := by decide +kernel
theorem dL_law_617 : decode cL_law 617 = .ok (.aload_n 2, 1) := by decide +kernel
theorem dL_law_618 : decode cL_law 618 = .ok (.aload_n 0, 1) := by decide +kernel
theorem dL_law_619 : decode cL_law 619 = .ok (.iload_n 3, 1) := by decide +kernel
theorem dL_law_620 : decode cL_law 620 = .ok (.iconst 1, 1) := by decide +kernel
theorem dL_law_621 : decode cL_law 621 = .ok (.iadd, 1) := by decide +kernel
theorem dL_law_622 : decode cL_law 622 = .ok (.iaload, 1) := by decide +kernel
theorem dL_law_623 : decode cL_law 623 = .ok (.aload_n 0, 1) := by decide +kernel
theorem dL_law_624 : decode cL_law 624 = .ok (.iload_n 3, 1) := by decide +kernel
theorem dL_law_625 : decode cL_law 625 = .ok (.iconst 2, 1) := by decide +kernel
theorem dL_law_626 : decode cL_law 626 = .ok (.iadd, 1) := by decide +kernel
theorem dL_law_627 : decode cL_law 627 = .ok (.iaload, 1) := by decide +kernel
theorem dL_law_628 : decode cL_law 628 = .ok (.invokevirtual 84, 3) := by decide +kernel
theorem dL_law_631 : decode cL_law 631 = .ok (.if_icmp .eq 518, 3) := by decide +kernel
theorem dL_law_634 : decode cL_law 634 = .ok (.iconst 0, 1) := by decide +kernel
theorem dL_law_635 : decode cL_law 635 = .ok (.ireturn, 1) := by decide +kernel
theorem dL_law_636 : decode cL_law 636 = .ok (.aload_n 1, 1) := by decide +kernel
theorem dL_law_637 : decode cL_law 637 = .ok (.aload_n 0, 1) := by decide +kernel
theorem dL_law_638 : decode cL_law 638 = .ok (.iload_n 3, 1) := by decide +kernel
theorem dL_law_639 : decode cL_law 639 = .ok (.iconst 1, 1) := by decide +kernel
theorem dL_law_640 : decode cL_law 640 = .ok (.iadd, 1) := by decide +kernel
theorem dL_law_641 : decode cL_law 641 = .ok (.iaload, 1) := by decide +kernel
theorem dL_law_642 : decode cL_law 642 = .ok (.invokevirtual 85, 3) := by decide +kernel
theorem dL_law_645 : decode cL_law 645 = .ok (.aload_n 2, 1) := by decide +kernel
theorem dL_law_646 : decode cL_law 646 = .ok (.aload_n 0, 1) := by decide +kernel
theorem dL_law_647 : decode cL_law 647 = .ok (.iload_n 3, 1) := by decide +kernel
theorem dL_law_648 : decode cL_law 648 = .ok (.iconst 1, 1) := by decide +kernel
theorem dL_law_649 : decode cL_law 649 = .ok (.iadd, 1) := by decide +kernel
theorem dL_law_650 : decode cL_law 650 = .ok (.iaload, 1) := by decide +kernel
theorem dL_law_651 : decode cL_law 651 = .ok (.invokevirtual 88, 3) := by decide +kernel
theorem dL_law_654 : decode cL_law 654 = .ok (.if_icmp .eq 495, 3) := by decide +kernel
theorem dL_law_657 : decode cL_law 657 = .ok (.iconst 0, 1) := by decide +kernel
theorem dL_law_658 : decode cL_law 658 = .ok (.ireturn, 1) := by decide +kernel
theorem dL_law_659 : decode cL_law 659 = .ok (.aload_n 1, 1) := by decide +kernel
theorem dL_law_660 : decode cL_law 660 = .ok (.aload_n 0, 1) := by decide +kernel
theorem dL_law_661 : decode cL_law 661 = .ok (.iload_n 3, 1) := by decide +kernel
theorem dL_law_662 : decode cL_law 662 = .ok (.iconst 1, 1) := by decide +kernel
theorem dL_law_663 : decode cL_law 663 = .ok (.iadd, 1) := by decide +kernel
theorem dL_law_664 : decode cL_law 664 = .ok (.iaload, 1) := by decide +kernel
theorem dL_law_665 : decode cL_law 665 = .ok (.aload_n 0, 1) := by decide +kernel
theorem dL_law_666 : decode cL_law 666 = .ok (.iload_n 3, 1) := by decide +kernel
theorem dL_law_667 : decode cL_law 667 = .ok (.iconst 2, 1) := by decide +kernel
theorem dL_law_668 : decode cL_law 668 = .ok (.iadd, 1) := by decide +kernel
theorem dL_law_669 : decode cL_law 669 = .ok (.iaload, 1) := by decide +kernel
theorem dL_law_670 : decode cL_law 670 = .ok (.invokevirtual 89, 3) := by decide +kernel
theorem dL_law_673 : decode cL_law 673 = .ok (.aload_n 2, 1) := by decide +kernel
theorem dL_law_674 : decode cL_law 674 = .ok (.aload_n 0, 1) := by decide +kernel
theorem dL_law_675 : decode cL_law 675 = .ok (.iload_n 3, 1) := by decide +kernel
theorem dL_law_676 : decode cL_law 676 = .ok (.iconst 1, 1) := by decide +kernel
theorem dL_law_677 : decode cL_law 677 = .ok (.iadd, 1) := by decide +kernel
theorem dL_law_678 : decode cL_law 678 = .ok (.iaload, 1) := by decide +kernel
theorem dL_law_679 : decode cL_law 679 = .ok (.aload_n 0, 1) := by decide +kernel
theorem dL_law_680 : decode cL_law 680 = .ok (.iload_n 3, 1) := by decide +kernel
theorem dL_law_681 : decode cL_law 681 = .ok (.iconst 2, 1) := by decide +kernel
theorem dL_law_682 : decode cL_law 682 = .ok (.iadd, 1) := by decide +kernel
theorem dL_law_683 : decode cL_law 683 = .ok (.iaload, 1) := by decide +kernel
theorem dL_law_684 : decode cL_law 684 = .ok (.invokevirtual 92, 3) := by decide +kernel
theorem dL_law_687 : decode cL_law 687 = .ok (.if_icmp .eq 462, 3) := by decide +kernel
theorem dL_law_690 : decode cL_law 690 = .ok (.iconst 0, 1) := by decide +kernel
theorem dL_law_691 : decode cL_law 691 = .ok (.ireturn, 1) := by decide +kernel
theorem dL_law_692 : decode cL_law 692 = .ok (.aload_n 1, 1) := by decide +kernel
theorem dL_law_693 : decode cL_law 693 = .ok (.aload_n 0, 1) := by decide +kernel
theorem dL_law_694 : decode cL_law 694 = .ok (.iload_n 3, 1) := by decide +kernel
theorem dL_law_695 : decode cL_law 695 = .ok (.iconst 1, 1) := by decide +kernel
theorem dL_law_696 : decode cL_law 696 = .ok (.iadd, 1) := by decide +kernel
theorem dL_law_697 : decode cL_law 697 = .ok (.iaload, 1) := by decide +kernel
theorem dL_law_698 : decode cL_law 698 = .ok (.invokevirtual 93, 3) := by decide +kernel
theorem dL_law_701 : decode cL_law 701 = .ok (.aload_n 2, 1) := by decide +kernel
theorem dL_law_702 : decode cL_law 702 = .ok (.aload_n 0, 1) := by decide +kernel
theorem dL_law_703 : decode cL_law 703 = .ok (.iload_n 3, 1) := by decide +kernel
theorem dL_law_704 : decode cL_law 704 = .ok (.iconst 1, 1) := by decide +kernel
theorem dL_law_705 : decode cL_law 705 = .ok (.iadd, 1) := by decide +kernel
theorem dL_law_706 : decode cL_law 706 = .ok (.iaload, 1) := by decide +kernel
theorem dL_law_707 : decode cL_law 707 = .ok (.invokevirtual 96, 3) := by decide +kernel
theorem dL_law_710 : decode cL_law 710 = .ok (.if_icmp .eq 439, 3) := by decide +kernel
theorem dL_law_713 : decode cL_law 713 = .ok (.iconst 0, 1) := by decide +kernel
theorem dL_law_714 : decode cL_law 714 = .ok (.ireturn, 1) := by decide +kernel
theorem dL_law_715 : decode cL_law 715 = .ok (.aload_n 1, 1) := by decide +kernel
theorem dL_law_716 : decode cL_law 716 = .ok (.invokevirtual 97, 3) := by decide +kernel
theorem dL_law_719 : decode cL_law 719 = .ok (.aload_n 2, 1) := by decide +kernel
theorem dL_law_720 : decode cL_law 720 = .ok (.invokevirtual 100, 3) := by decide +kernel
theorem dL_law_723 : decode cL_law 723 = .ok (.if_icmp .eq 426, 3) := by decide +kernel
theorem dL_law_726 : decode cL_law 726 = .ok (.iconst 0, 1) := by decide +kernel
theorem dL_law_727 : decode cL_law 727 = .ok (.ireturn, 1) := by decide +kernel
theorem dL_law_728 : decode cL_law 728 = .ok (.aload_n 1, 1) := by decide +kernel
theorem dL_law_729 : decode cL_law 729 = .ok (.invokevirtual 101, 3) := by decide +kernel
theorem dL_law_732 : decode cL_law 732 = .ok (.aload_n 2, 1) := by decide +kernel
theorem dL_law_733 : decode cL_law 733 = .ok (.invokevirtual 104, 3) := by decide +kernel
theorem dL_law_736 : decode cL_law 736 = .ok (.if_icmp .eq 413, 3) := by decide +kernel
theorem dL_law_739 : decode cL_law 739 = .ok (.iconst 0, 1) := by decide +kernel
theorem dL_law_740 : decode cL_law 740 = .ok (.ireturn, 1) := by decide +kernel
theorem dL_law_741 : decode cL_law 741 = .ok (.aload_n 1, 1) := by decide +kernel
theorem dL_law_742 : decode cL_law 742 = .ok (.aload_n 0, 1) := by decide +kernel
theorem dL_law_743 : decode cL_law 743 = .ok (.iload_n 3, 1) := by decide +kernel
theorem dL_law_744 : decode cL_law 744 = .ok (.iconst 1, 1) := by decide +kernel
theorem dL_law_745 : decode cL_law 745 = .ok (.iadd, 1) := by decide +kernel
theorem dL_law_746 : decode cL_law 746 = .ok (.iaload, 1) := by decide +kernel
theorem dL_law_747 : decode cL_law 747 = .ok (.invokevirtual 105, 3) := by decide +kernel
theorem dL_law_750 : decode cL_law 750 = .ok (.aload_n 2, 1) := by decide +kernel
theorem dL_law_751 : decode cL_law 751 = .ok (.aload_n 0, 1) := by decide +kernel
theorem dL_law_752 : decode cL_law 752 = .ok (.iload_n 3, 1) := by decide +kernel
theorem dL_law_753 : decode cL_law 753 = .ok (.iconst 1, 1) := by decide +kernel
theorem dL_law_754 : decode cL_law 754 = .ok (.iadd, 1) := by decide +kernel
theorem dL_law_755 : decode cL_law 755 = .ok (.iaload, 1) := by decide +kernel
theorem dL_law_756 : decode cL_law 756 = .ok (.invokevirtual 108, 3) := by decide +kernel
theorem dL_law_759 : decode cL_law 759 = .ok (.if_icmp .eq 390, 3) := by decide +kernel
theorem dL_law_762 : decode cL_law 762 = .ok (.iconst 0, 1) := by decide +kernel
theorem dL_law_763 : decode cL_law 763 = .ok (.ireturn, 1) := by decide +kernel
theorem dL_law_764 : decode cL_law 764 = .ok (.aload_n 1, 1) := by decide +kernel
theorem dL_law_765 : decode cL_law 765 = .ok (.invokevirtual 109, 3) := by decide +kernel
theorem dL_law_768 : decode cL_law 768 = .ok (.aload_n 2, 1) := by decide +kernel
theorem dL_law_769 : decode cL_law 769 = .ok (.invokevirtual 112, 3) := by decide +kernel
theorem dL_law_772 : decode cL_law 772 = .ok (.if_icmp .eq 377, 3) := by decide +kernel
theorem dL_law_775 : decode cL_law 775 = .ok (.iconst 0, 1) := by decide +kernel
theorem dL_law_776 : decode cL_law 776 = .ok (.ireturn, 1) := by decide +kernel
theorem dL_law_777 : decode cL_law 777 = .ok (.aload_n 1, 1) := by decide +kernel
theorem dL_law_778 : decode cL_law 778 = .ok (.aload_n 0, 1) := by decide +kernel
theorem dL_law_779 : decode cL_law 779 = .ok (.iload_n 3, 1) := by decide +kernel
theorem dL_law_780 : decode cL_law 780 = .ok (.iconst 1, 1) := by decide +kernel
theorem dL_law_781 : decode cL_law 781 = .ok (.iadd, 1) := by decide +kernel
theorem dL_law_782 : decode cL_law 782 = .ok (.iaload, 1) := by decide +kernel
theorem dL_law_783 : decode cL_law 783 = .ok (.invokevirtual 113, 3) := by decide +kernel
theorem dL_law_786 : decode cL_law 786 = .ok (.aload_n 2, 1) := by decide +kernel
theorem dL_law_787 : decode cL_law 787 = .ok (.aload_n 0, 1) := by decide +kernel
theorem dL_law_788 : decode cL_law 788 = .ok (.iload_n 3, 1) := by decide +kernel
theorem dL_law_789 : decode cL_law 789 = .ok (.iconst 1, 1) := by decide +kernel
theorem dL_law_790 : decode cL_law 790 = .ok (.iadd, 1) := by decide +kernel
theorem dL_law_791 : decode cL_law 791 = .ok (.iaload, 1) := by decide +kernel
theorem dL_law_792 : decode cL_law 792 = .ok (.invokevirtual 116, 3) := by decide +kernel
theorem dL_law_795 : decode cL_law 795 = .ok (.if_icmp .eq 354, 3) := by decide +kernel
theorem dL_law_798 : decode cL_law 798 = .ok (.iconst 0, 1) := by decide +kernel
theorem dL_law_799 : decode cL_law 799 = .ok (.ireturn, 1) := by decide +kernel
theorem dL_law_800 : decode cL_law 800 = .ok (.aload_n 1, 1) := by decide +kernel
theorem dL_law_801 : decode cL_law 801 = .ok (.aload_n 0, 1) := by decide +kernel
theorem dL_law_802 : decode cL_law 802 = .ok (.iload_n 3, 1) := by decide +kernel
theorem dL_law_803 : decode cL_law 803 = .ok (.iconst 1, 1) := by decide +kernel
theorem dL_law_804 : decode cL_law 804 = .ok (.iadd, 1) := by decide +kernel
theorem dL_law_805 : decode cL_law 805 = .ok (.iaload, 1) := by decide +kernel
theorem dL_law_806 : decode cL_law 806 = .ok (.aload_n 0, 1) := by decide +kernel
theorem dL_law_807 : decode cL_law 807 = .ok (.iload_n 3, 1) := by decide +kernel
theorem dL_law_808 : decode cL_law 808 = .ok (.iconst 2, 1) := by decide +kernel
theorem dL_law_809 : decode cL_law 809 = .ok (.iadd, 1) := by decide +kernel
theorem dL_law_810 : decode cL_law 810 = .ok (.iaload, 1) := by decide +kernel
theorem dL_law_811 : decode cL_law 811 = .ok (.invokevirtual 117, 3) := by decide +kernel
theorem dL_law_814 : decode cL_law 814 = .ok (.aload_n 2, 1) := by decide +kernel
theorem dL_law_815 : decode cL_law 815 = .ok (.aload_n 0, 1) := by decide +kernel
theorem dL_law_816 : decode cL_law 816 = .ok (.iload_n 3, 1) := by decide +kernel
theorem dL_law_817 : decode cL_law 817 = .ok (.iconst 1, 1) := by decide +kernel
theorem dL_law_818 : decode cL_law 818 = .ok (.iadd, 1) := by decide +kernel
theorem dL_law_819 : decode cL_law 819 = .ok (.iaload, 1) := by decide +kernel
theorem dL_law_820 : decode cL_law 820 = .ok (.aload_n 0, 1) := by decide +kernel
theorem dL_law_821 : decode cL_law 821 = .ok (.iload_n 3, 1) := by decide +kernel
theorem dL_law_822 : decode cL_law 822 = .ok (.iconst 2, 1) := by decide +kernel
theorem dL_law_823 : decode cL_law 823 = .ok (.iadd, 1) := by decide +kernel
theorem dL_law_824 : decode cL_law 824 = .ok (.iaload, 1) := by decide +kernel
theorem dL_law_825 : decode cL_law 825 = .ok (.invokevirtual 120, 3) := by decide +kernel
theorem dL_law_828 : decode cL_law 828 = .ok (.if_icmp .eq 321, 3) := by decide +kernel
theorem dL_law_831 : decode cL_law 831 = .ok (.iconst 0, 1) := by decide +kernel
theorem dL_law_832 : decode cL_law 832 = .ok (.ireturn, 1) := by decide +kernel
theorem dL_law_833 : decode cL_law 833 = .ok (.aload_n 1, 1) := by decide +kernel
theorem dL_law_834 : decode cL_law 834 = .ok (.aload_n 0, 1) := by decide +kernel
theorem dL_law_835 : decode cL_law 835 = .ok (.iload_n 3, 1) := by decide +kernel
theorem dL_law_836 : decode cL_law 836 = .ok (.iconst 1, 1) := by decide +kernel
theorem dL_law_837 : decode cL_law 837 = .ok (.iadd, 1) := by decide +kernel
theorem dL_law_838 : decode cL_law 838 = .ok (.iaload, 1) := by decide +kernel
theorem dL_law_839 : decode cL_law 839 = .ok (.aload_n 0, 1) := by decide +kernel
theorem dL_law_840 : decode cL_law 840 = .ok (.iload_n 3, 1) := by decide +kernel
theorem dL_law_841 : decode cL_law 841 = .ok (.iconst 2, 1) := by decide +kernel
theorem dL_law_842 : decode cL_law 842 = .ok (.iadd, 1) := by decide +kernel
theorem dL_law_843 : decode cL_law 843 = .ok (.iaload, 1) := by decide +kernel
theorem dL_law_844 : decode cL_law 844 = .ok (.invokevirtual 121, 3) := by decide +kernel
theorem dL_law_847 : decode cL_law 847 = .ok (.aload_n 2, 1) := by decide +kernel
theorem dL_law_848 : decode cL_law 848 = .ok (.aload_n 0, 1) := by decide +kernel
theorem dL_law_849 : decode cL_law 849 = .ok (.iload_n 3, 1) := by decide +kernel
theorem dL_law_850 : decode cL_law 850 = .ok (.iconst 1, 1) := by decide +kernel
theorem dL_law_851 : decode cL_law 851 = .ok (.iadd, 1) := by decide +kernel
theorem dL_law_852 : decode cL_law 852 = .ok (.iaload, 1) := by decide +kernel
theorem dL_law_853 : decode cL_law 853 = .ok (.aload_n 0, 1) := by decide +kernel
theorem dL_law_854 : decode cL_law 854 = .ok (.iload_n 3, 1) := by decide +kernel
theorem dL_law_855 : decode cL_law 855 = .ok (.iconst 2, 1) := by decide +kernel
theorem dL_law_856 : decode cL_law 856 = .ok (.iadd, 1) := by decide +kernel
theorem dL_law_857 : decode cL_law 857 = .ok (.iaload, 1) := by decide +kernel
theorem dL_law_858 : decode cL_law 858 = .ok (.invokevirtual 124, 3) := by decide +kernel
theorem dL_law_861 : decode cL_law 861 = .ok (.if_icmp .eq 288, 3) := by decide +kernel
theorem dL_law_864 : decode cL_law 864 = .ok (.iconst 0, 1) := by decide +kernel
theorem dL_law_865 : decode cL_law 865 = .ok (.ireturn, 1) := by decide +kernel
theorem dL_law_866 : decode cL_law 866 = .ok (.aload_n 1, 1) := by decide +kernel
theorem dL_law_867 : decode cL_law 867 = .ok (.aload_n 0, 1) := by decide +kernel
theorem dL_law_868 : decode cL_law 868 = .ok (.iload_n 3, 1) := by decide +kernel
theorem dL_law_869 : decode cL_law 869 = .ok (.iconst 1, 1) := by decide +kernel
theorem dL_law_870 : decode cL_law 870 = .ok (.iadd, 1) := by decide +kernel
theorem dL_law_871 : decode cL_law 871 = .ok (.iaload, 1) := by decide +kernel
theorem dL_law_872 : decode cL_law 872 = .ok (.aload_n 0, 1) := by decide +kernel
theorem dL_law_873 : decode cL_law 873 = .ok (.iload_n 3, 1) := by decide +kernel
theorem dL_law_874 : decode cL_law 874 = .ok (.iconst 2, 1) := by decide +kernel
theorem dL_law_875 : decode cL_law 875 = .ok (.iadd, 1) := by decide +kernel
theorem dL_law_876 : decode cL_law 876 = .ok (.iaload, 1) := by decide +kernel
theorem dL_law_877 : decode cL_law 877 = .ok (.invokevirtual 125, 3) := by decide +kernel
theorem dL_law_880 : decode cL_law 880 = .ok (.aload_n 2, 1) := by decide +kernel
theorem dL_law_881 : decode cL_law 881 = .ok (.aload_n 0, 1) := by decide +kernel
theorem dL_law_882 : decode cL_law 882 = .ok (.iload_n 3, 1) := by decide +kernel
theorem dL_law_883 : decode cL_law 883 = .ok (.iconst 1, 1) := by decide +kernel
theorem dL_law_884 : decode cL_law 884 = .ok (.iadd, 1) := by decide +kernel
theorem dL_law_885 : decode cL_law 885 = .ok (.iaload, 1) := by decide +kernel
theorem dL_law_886 : decode cL_law 886 = .ok (.aload_n 0, 1) := by decide +kernel
theorem dL_law_887 : decode cL_law 887 = .ok (.iload_n 3, 1) := by decide +kernel
theorem dL_law_888 : decode cL_law 888 = .ok (.iconst 2, 1) := by decide +kernel
theorem dL_law_889 : decode cL_law 889 = .ok (.iadd, 1) := by decide +kernel
theorem dL_law_890 : decode cL_law 890 = .ok (.iaload, 1) := by decide +kernel
theorem dL_law_891 : decode cL_law 891 = .ok (.invokevirtual 128, 3) := by decide +kernel
theorem dL_law_894 : decode cL_law 894 = .ok (.if_icmp .eq 255, 3) := by decide +kernel
theorem dL_law_897 : decode cL_law 897 = .ok (.iconst 0, 1) := by decide +kernel
theorem dL_law_898 : decode cL_law 898 = .ok (.ireturn, 1) := by decide +kernel
theorem dL_law_899 : decode cL_law 899 = .ok (.aload_n 1, 1) := by decide +kernel
theorem dL_law_900 : decode cL_law 900 = .ok (.aload_n 0, 1) := by decide +kernel
theorem dL_law_901 : decode cL_law 901 = .ok (.iload_n 3, 1) := by decide +kernel
theorem dL_law_902 : decode cL_law 902 = .ok (.iconst 1, 1) := by decide +kernel
theorem dL_law_903 : decode cL_law 903 = .ok (.iadd, 1) := by decide +kernel
theorem dL_law_904 : decode cL_law 904 = .ok (.iaload, 1) := by decide +kernel
theorem dL_law_905 : decode cL_law 905 = .ok (.aload_n 0, 1) := by decide +kernel
theorem dL_law_906 : decode cL_law 906 = .ok (.iload_n 3, 1) := by decide +kernel
theorem dL_law_907 : decode cL_law 907 = .ok (.iconst 2, 1) := by decide +kernel
theorem dL_law_908 : decode cL_law 908 = .ok (.iadd, 1) := by decide +kernel
theorem dL_law_909 : decode cL_law 909 = .ok (.iaload, 1) := by decide +kernel
theorem dL_law_910 : decode cL_law 910 = .ok (.aload_n 0, 1) := by decide +kernel
theorem dL_law_911 : decode cL_law 911 = .ok (.iload_n 3, 1) := by decide +kernel
theorem dL_law_912 : decode cL_law 912 = .ok (.iconst 3, 1) := by decide +kernel
theorem dL_law_913 : decode cL_law 913 = .ok (.iadd, 1) := by decide +kernel
theorem dL_law_914 : decode cL_law 914 = .ok (.iaload, 1) := by decide +kernel
theorem dL_law_915 : decode cL_law 915 = .ok (.invokevirtual 129, 3) := by decide +kernel
theorem dL_law_918 : decode cL_law 918 = .ok (.aload_n 2, 1) := by decide +kernel
theorem dL_law_919 : decode cL_law 919 = .ok (.aload_n 0, 1) := by decide +kernel
theorem dL_law_920 : decode cL_law 920 = .ok (.iload_n 3, 1) := by decide +kernel
theorem dL_law_921 : decode cL_law 921 = .ok (.iconst 1, 1) := by decide +kernel
theorem dL_law_922 : decode cL_law 922 = .ok (.iadd, 1) := by decide +kernel
theorem dL_law_923 : decode cL_law 923 = .ok (.iaload, 1) := by decide +kernel
theorem dL_law_924 : decode cL_law 924 = .ok (.aload_n 0, 1) := by decide +kernel
theorem dL_law_925 : decode cL_law 925 = .ok (.iload_n 3, 1) := by decide +kernel
theorem dL_law_926 : decode cL_law 926 = .ok (.iconst 2, 1) := by decide +kernel
theorem dL_law_927 : decode cL_law 927 = .ok (.iadd, 1) := by decide +kernel
theorem dL_law_928 : decode cL_law 928 = .ok (.iaload, 1) := by decide +kernel
theorem dL_law_929 : decode cL_law 929 = .ok (.aload_n 0, 1) := by decide +kernel
theorem dL_law_930 : decode cL_law 930 = .ok (.iload_n 3, 1) := by decide +kernel
theorem dL_law_931 : decode cL_law 931 = .ok (.iconst 3, 1) := by decide +kernel
theorem dL_law_932 : decode cL_law 932 = .ok (.iadd, 1) := by decide +kernel
theorem dL_law_933 : decode cL_law 933 = .ok (.iaload, 1) := by decide +kernel
theorem dL_law_934 : decode cL_law 934 = .ok (.invokevirtual 132, 3) := by decide +kernel
theorem dL_law_937 : decode cL_law 937 = .ok (.if_icmp .eq 212, 3) := by decide +kernel
theorem dL_law_940 : decode cL_law 940 = .ok (.iconst 0, 1) := by decide +kernel
theorem dL_law_941 : decode cL_law 941 = .ok (.ireturn, 1) := by decide +kernel
theorem dL_law_942 : decode cL_law 942 = .ok (.aload_n 1, 1) := by decide +kernel
theorem dL_law_943 : decode cL_law 943 = .ok (.aload_n 0, 1) := by decide +kernel
theorem dL_law_944 : decode cL_law 944 = .ok (.iload_n 3, 1) := by decide +kernel
theorem dL_law_945 : decode cL_law 945 = .ok (.iconst 1, 1) := by decide +kernel
theorem dL_law_946 : decode cL_law 946 = .ok (.iadd, 1) := by decide +kernel
theorem dL_law_947 : decode cL_law 947 = .ok (.iaload, 1) := by decide +kernel
theorem dL_law_948 : decode cL_law 948 = .ok (.aload_n 0, 1) := by decide +kernel
theorem dL_law_949 : decode cL_law 949 = .ok (.iload_n 3, 1) := by decide +kernel
theorem dL_law_950 : decode cL_law 950 = .ok (.iconst 2, 1) := by decide +kernel
theorem dL_law_951 : decode cL_law 951 = .ok (.iadd, 1) := by decide +kernel
theorem dL_law_952 : decode cL_law 952 = .ok (.iaload, 1) := by decide +kernel
theorem dL_law_953 : decode cL_law 953 = .ok (.aload_n 0, 1) := by decide +kernel
theorem dL_law_954 : decode cL_law 954 = .ok (.iload_n 3, 1) := by decide +kernel
theorem dL_law_955 : decode cL_law 955 = .ok (.iconst 3, 1) := by decide +kernel
theorem dL_law_956 : decode cL_law 956 = .ok (.iadd, 1) := by decide +kernel
theorem dL_law_957 : decode cL_law 957 = .ok (.iaload, 1) := by decide +kernel
theorem dL_law_958 : decode cL_law 958 = .ok (.ifCond .eq 7, 3) := by decide +kernel
theorem dL_law_961 : decode cL_law 961 = .ok (.iconst 1, 1) := by decide +kernel
theorem dL_law_962 : decode cL_law 962 = .ok (.goto 4, 3) := by decide +kernel
theorem dL_law_965 : decode cL_law 965 = .ok (.iconst 0, 1) := by decide +kernel
theorem dL_law_966 : decode cL_law 966 = .ok (.invokevirtual 133, 3) := by decide +kernel
theorem dL_law_969 : decode cL_law 969 = .ok (.aload_n 2, 1) := by decide +kernel
theorem dL_law_970 : decode cL_law 970 = .ok (.aload_n 0, 1) := by decide +kernel
theorem dL_law_971 : decode cL_law 971 = .ok (.iload_n 3, 1) := by decide +kernel
theorem dL_law_972 : decode cL_law 972 = .ok (.iconst 1, 1) := by decide +kernel
theorem dL_law_973 : decode cL_law 973 = .ok (.iadd, 1) := by decide +kernel
theorem dL_law_974 : decode cL_law 974 = .ok (.iaload, 1) := by decide +kernel
theorem dL_law_975 : decode cL_law 975 = .ok (.aload_n 0, 1) := by decide +kernel
theorem dL_law_976 : decode cL_law 976 = .ok (.iload_n 3, 1) := by decide +kernel
theorem dL_law_977 : decode cL_law 977 = .ok (.iconst 2, 1) := by decide +kernel
theorem dL_law_978 : decode cL_law 978 = .ok (.iadd, 1) := by decide +kernel
theorem dL_law_979 : decode cL_law 979 = .ok (.iaload, 1) := by decide +kernel
theorem dL_law_980 : decode cL_law 980 = .ok (.aload_n 0, 1) := by decide +kernel
theorem dL_law_981 : decode cL_law 981 = .ok (.iload_n 3, 1) := by decide +kernel
theorem dL_law_982 : decode cL_law 982 = .ok (.iconst 3, 1) := by decide +kernel
theorem dL_law_983 : decode cL_law 983 = .ok (.iadd, 1) := by decide +kernel
theorem dL_law_984 : decode cL_law 984 = .ok (.iaload, 1) := by decide +kernel
theorem dL_law_985 : decode cL_law 985 = .ok (.ifCond .eq 7, 3) := by decide +kernel
theorem dL_law_988 : decode cL_law 988 = .ok (.iconst 1, 1) := by decide +kernel
theorem dL_law_989 : decode cL_law 989 = .ok (.goto 4, 3) := by decide +kernel
theorem dL_law_992 : decode cL_law 992 = .ok (.iconst 0, 1) := by decide +kernel
theorem dL_law_993 : decode cL_law 993 = .ok (.invokevirtual 137, 3) := by decide +kernel
theorem dL_law_996 : decode cL_law 996 = .ok (.if_icmp .eq 153, 3) := by decide +kernel
theorem dL_law_999 : decode cL_law 999 = .ok (.iconst 0, 1) := by decide +kernel
theorem dL_law_1000 : decode cL_law 1000 = .ok (.ireturn, 1) := by decide +kernel
theorem dL_law_1001 : decode cL_law 1001 = .ok (.aload_n 1, 1) := by decide +kernel
theorem dL_law_1002 : decode cL_law 1002 = .ok (.invokevirtual 138, 3) := by decide +kernel
theorem dL_law_1005 : decode cL_law 1005 = .ok (.aload_n 2, 1) := by decide +kernel
theorem dL_law_1006 : decode cL_law 1006 = .ok (.invokevirtual 141, 3) := by decide +kernel
theorem dL_law_1009 : decode cL_law 1009 = .ok (.if_icmp .eq 140, 3) := by decide +kernel
theorem dL_law_1012 : decode cL_law 1012 = .ok (.iconst 0, 1) := by decide +kernel
theorem dL_law_1013 : decode cL_law 1013 = .ok (.ireturn, 1) := by decide +kernel
theorem dL_law_1014 : decode cL_law 1014 = .ok (.aload_n 1, 1) := by decide +kernel
theorem dL_law_1015 : decode cL_law 1015 = .ok (.aload_n 0, 1) := by decide +kernel
theorem dL_law_1016 : decode cL_law 1016 = .ok (.iload_n 3, 1) := by decide +kernel
theorem dL_law_1017 : decode cL_law 1017 = .ok (.iconst 1, 1) := by decide +kernel
theorem dL_law_1018 : decode cL_law 1018 = .ok (.iadd, 1) := by decide +kernel
theorem dL_law_1019 : decode cL_law 1019 = .ok (.iaload, 1) := by decide +kernel
theorem dL_law_1020 : decode cL_law 1020 = .ok (.aload_n 0, 1) := by decide +kernel
theorem dL_law_1021 : decode cL_law 1021 = .ok (.iload_n 3, 1) := by decide +kernel
theorem dL_law_1022 : decode cL_law 1022 = .ok (.iconst 2, 1) := by decide +kernel
theorem dL_law_1023 : decode cL_law 1023 = .ok (.iadd, 1) := by decide +kernel
theorem dL_law_1024 : decode cL_law 1024 = .ok (.iaload, 1) := by decide +kernel
theorem dL_law_1025 : decode cL_law 1025 = .ok (.invokevirtual 142, 3) := by decide +kernel
theorem dL_law_1028 : decode cL_law 1028 = .ok (.aload_n 2, 1) := by decide +kernel
theorem dL_law_1029 : decode cL_law 1029 = .ok (.aload_n 0, 1) := by decide +kernel
theorem dL_law_1030 : decode cL_law 1030 = .ok (.iload_n 3, 1) := by decide +kernel
theorem dL_law_1031 : decode cL_law 1031 = .ok (.iconst 1, 1) := by decide +kernel
theorem dL_law_1032 : decode cL_law 1032 = .ok (.iadd, 1) := by decide +kernel
theorem dL_law_1033 : decode cL_law 1033 = .ok (.iaload, 1) := by decide +kernel
theorem dL_law_1034 : decode cL_law 1034 = .ok (.aload_n 0, 1) := by decide +kernel
theorem dL_law_1035 : decode cL_law 1035 = .ok (.iload_n 3, 1) := by decide +kernel
theorem dL_law_1036 : decode cL_law 1036 = .ok (.iconst 2, 1) := by decide +kernel
theorem dL_law_1037 : decode cL_law 1037 = .ok (.iadd, 1) := by decide +kernel
theorem dL_law_1038 : decode cL_law 1038 = .ok (.iaload, 1) := by decide +kernel
theorem dL_law_1039 : decode cL_law 1039 = .ok (.invokevirtual 145, 3) := by decide +kernel
theorem dL_law_1042 : decode cL_law 1042 = .ok (.if_icmp .eq 107, 3) := by decide +kernel
theorem dL_law_1045 : decode cL_law 1045 = .ok (.iconst 0, 1) := by decide +kernel
theorem dL_law_1046 : decode cL_law 1046 = .ok (.ireturn, 1) := by decide +kernel
theorem dL_law_1047 : decode cL_law 1047 = .ok (.aload_n 1, 1) := by decide +kernel
theorem dL_law_1048 : decode cL_law 1048 = .ok (.aload_n 0, 1) := by decide +kernel
theorem dL_law_1049 : decode cL_law 1049 = .ok (.iload_n 3, 1) := by decide +kernel
theorem dL_law_1050 : decode cL_law 1050 = .ok (.iconst 1, 1) := by decide +kernel
theorem dL_law_1051 : decode cL_law 1051 = .ok (.iadd, 1) := by decide +kernel
theorem dL_law_1052 : decode cL_law 1052 = .ok (.iaload, 1) := by decide +kernel
theorem dL_law_1053 : decode cL_law 1053 = .ok (.aload_n 0, 1) := by decide +kernel
theorem dL_law_1054 : decode cL_law 1054 = .ok (.iload_n 3, 1) := by decide +kernel
theorem dL_law_1055 : decode cL_law 1055 = .ok (.iconst 2, 1) := by decide +kernel
theorem dL_law_1056 : decode cL_law 1056 = .ok (.iadd, 1) := by decide +kernel
theorem dL_law_1057 : decode cL_law 1057 = .ok (.iaload, 1) := by decide +kernel
theorem dL_law_1058 : decode cL_law 1058 = .ok (.invokevirtual 146, 3) := by decide +kernel
theorem dL_law_1061 : decode cL_law 1061 = .ok (.aload_n 2, 1) := by decide +kernel
theorem dL_law_1062 : decode cL_law 1062 = .ok (.aload_n 0, 1) := by decide +kernel
theorem dL_law_1063 : decode cL_law 1063 = .ok (.iload_n 3, 1) := by decide +kernel
theorem dL_law_1064 : decode cL_law 1064 = .ok (.iconst 1, 1) := by decide +kernel
theorem dL_law_1065 : decode cL_law 1065 = .ok (.iadd, 1) := by decide +kernel
theorem dL_law_1066 : decode cL_law 1066 = .ok (.iaload, 1) := by decide +kernel
theorem dL_law_1067 : decode cL_law 1067 = .ok (.aload_n 0, 1) := by decide +kernel
theorem dL_law_1068 : decode cL_law 1068 = .ok (.iload_n 3, 1) := by decide +kernel
theorem dL_law_1069 : decode cL_law 1069 = .ok (.iconst 2, 1) := by decide +kernel
theorem dL_law_1070 : decode cL_law 1070 = .ok (.iadd, 1) := by decide +kernel
theorem dL_law_1071 : decode cL_law 1071 = .ok (.iaload, 1) := by decide +kernel
theorem dL_law_1072 : decode cL_law 1072 = .ok (.invokevirtual 149, 3) := by decide +kernel
theorem dL_law_1075 : decode cL_law 1075 = .ok (.if_icmp .eq 74, 3) := by decide +kernel
theorem dL_law_1078 : decode cL_law 1078 = .ok (.iconst 0, 1) := by decide +kernel
theorem dL_law_1079 : decode cL_law 1079 = .ok (.ireturn, 1) := by decide +kernel
theorem dL_law_1080 : decode cL_law 1080 = .ok (.aload_n 1, 1) := by decide +kernel
theorem dL_law_1081 : decode cL_law 1081 = .ok (.aload_n 0, 1) := by decide +kernel
theorem dL_law_1082 : decode cL_law 1082 = .ok (.iload_n 3, 1) := by decide +kernel
theorem dL_law_1083 : decode cL_law 1083 = .ok (.iconst 1, 1) := by decide +kernel
theorem dL_law_1084 : decode cL_law 1084 = .ok (.iadd, 1) := by decide +kernel
theorem dL_law_1085 : decode cL_law 1085 = .ok (.iaload, 1) := by decide +kernel
theorem dL_law_1086 : decode cL_law 1086 = .ok (.invokevirtual 150, 3) := by decide +kernel
theorem dL_law_1089 : decode cL_law 1089 = .ok (.aload_n 2, 1) := by decide +kernel
theorem dL_law_1090 : decode cL_law 1090 = .ok (.aload_n 0, 1) := by decide +kernel
theorem dL_law_1091 : decode cL_law 1091 = .ok (.iload_n 3, 1) := by decide +kernel
theorem dL_law_1092 : decode cL_law 1092 = .ok (.iconst 1, 1) := by decide +kernel
theorem dL_law_1093 : decode cL_law 1093 = .ok (.iadd, 1) := by decide +kernel
theorem dL_law_1094 : decode cL_law 1094 = .ok (.iaload, 1) := by decide +kernel
theorem dL_law_1095 : decode cL_law 1095 = .ok (.invokevirtual 153, 3) := by decide +kernel
theorem dL_law_1098 : decode cL_law 1098 = .ok (.if_icmp .eq 51, 3) := by decide +kernel
theorem dL_law_1101 : decode cL_law 1101 = .ok (.iconst 0, 1) := by decide +kernel
theorem dL_law_1102 : decode cL_law 1102 = .ok (.ireturn, 1) := by decide +kernel
theorem dL_law_1103 : decode cL_law 1103 = .ok (.aload_n 1, 1) := by decide +kernel
theorem dL_law_1104 : decode cL_law 1104 = .ok (.aload_n 0, 1) := by decide +kernel
theorem dL_law_1105 : decode cL_law 1105 = .ok (.iload_n 3, 1) := by decide +kernel
theorem dL_law_1106 : decode cL_law 1106 = .ok (.iconst 1, 1) := by decide +kernel
theorem dL_law_1107 : decode cL_law 1107 = .ok (.iadd, 1) := by decide +kernel
theorem dL_law_1108 : decode cL_law 1108 = .ok (.iaload, 1) := by decide +kernel
theorem dL_law_1109 : decode cL_law 1109 = .ok (.invokevirtual 154, 3) := by decide +kernel
theorem dL_law_1112 : decode cL_law 1112 = .ok (.aload_n 2, 1) := by decide +kernel
theorem dL_law_1113 : decode cL_law 1113 = .ok (.aload_n 0, 1) := by decide +kernel
theorem dL_law_1114 : decode cL_law 1114 = .ok (.iload_n 3, 1) := by decide +kernel
theorem dL_law_1115 : decode cL_law 1115 = .ok (.iconst 1, 1) := by decide +kernel
theorem dL_law_1116 : decode cL_law 1116 = .ok (.iadd, 1) := by decide +kernel
theorem dL_law_1117 : decode cL_law 1117 = .ok (.iaload, 1) := by decide +kernel
theorem dL_law_1118 : decode cL_law 1118 = .ok (.invokevirtual 157, 3) := by decide +kernel
theorem dL_law_1121 : decode cL_law 1121 = .ok (.if_icmp .eq 28, 3) := by decide +kernel
theorem dL_law_1124 : decode cL_law 1124 = .ok (.iconst 0, 1) := by decide +kernel
theorem dL_law_1125 : decode cL_law 1125 = .ok (.ireturn, 1) := by decide +kernel
theorem dL_law_1126 : decode cL_law 1126 = .ok (.aload_n 1, 1) := by decide +kernel
theorem dL_law_1127 : decode cL_law 1127 = .ok (.aload_n 0, 1) := by decide +kernel
theorem dL_law_1128 : decode cL_law 1128 = .ok (.iload_n 3, 1) := by decide +kernel
theorem dL_law_1129 : decode cL_law 1129 = .ok (.iconst 1, 1) := by decide +kernel
theorem dL_law_1130 : decode cL_law 1130 = .ok (.iadd, 1) := by decide +kernel
theorem dL_law_1131 : decode cL_law 1131 = .ok (.iaload, 1) := by decide +kernel
theorem dL_law_1132 : decode cL_law 1132 = .ok (.invokevirtual 158, 3) := by decide +kernel
theorem dL_law_1135 : decode cL_law 1135 = .ok (.aload_n 2, 1) := by decide +kernel
theorem dL_law_1136 : decode cL_law 1136 = .ok (.aload_n 0, 1) := by decide +kernel
theorem dL_law_1137 : decode cL_law 1137 = .ok (.iload_n 3, 1) := by decide +kernel
theorem dL_law_1138 : decode cL_law 1138 = .ok (.iconst 1, 1) := by decide +kernel
theorem dL_law_1139 : decode cL_law 1139 = .ok (.iadd, 1) := by decide +kernel
theorem dL_law_1140 : decode cL_law 1140 = .ok (.iaload, 1) := by decide +kernel
theorem dL_law_1141 : decode cL_law 1141 = .ok (.invokevirtual 161, 3) := by decide +kernel
theorem dL_law_1144 : decode cL_law 1144 = .ok (.if_icmp .eq 5, 3) := by decide +kernel
theorem dL_law_1147 : decode cL_law 1147 = .ok (.iconst 0, 1) := by decide +kernel
theorem dL_law_1148 : decode cL_law 1148 = .ok (.ireturn, 1) := by decide +kernel
theorem dL_law_1149 : decode cL_law 1149 = .ok (.iinc 3 6, 3) := by decide +kernel
theorem dL_law_1152 : decode cL_law 1152 = .ok (.goto (-1134), 3) := by decide +kernel
theorem dL_law_1155 : decode cL_law 1155 = .ok (.iconst 1, 1) := by decide +kernel
theorem dL_law_1156 : decode cL_law 1156 = .ok (.ireturn, 1) := by decide +kernel
