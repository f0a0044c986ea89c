theorem dX0_init_0 : decode cX0_init 0 = .ok (.aload_n 0, 1) := by decide +kernel
theorem dX0_init_1 : decode cX0_init 1 = .ok (.invokespecial 3, 3) := by decide +kernel
theorem dX0_init_4 : decode cX0_init 4 = .ok (.aload_n 0, 1) := by decide +kernel
theorem dX0_init_5 : decode cX0_init 5 = .ok (.bipush 12, 2) := by decide +kernel
theorem dX0_init_7 : decode cX0_init 7 = .ok (.anewarray 9, 3) := by decide +kernel
theorem dX0_init_10 : decode cX0_init 10 = .ok (.putfield 11, 3) := by decide +kernel
theorem dX0_init_13 : decode cX0_init 13 = .ok (.aload_n 0, 1) := by decide +kernel
theorem dX0_init_14 : decode cX0_init 14 = .ok (.iconst 0, 1) := by decide +kernel
theorem dX0_init_15 : decode cX0_init 15 = .ok (.putfield 17, 3) := by decide +kernel
theorem dX0_init_18 : decode cX0_init 18 = .ok (.aload_n 0, 1) := by decide +kernel
theorem dX0_init_19 : decode cX0_init 19 = .ok (.iconst 0, 1) := by decide +kernel
theorem dX0_init_20 : decode cX0_init 20 = .ok (.putfield 21, 3) := by decide +kernel
theorem dX0_init_23 : decode cX0_init 23 = .ok (.iconst 0, 1) := by decide +kernel
theorem dX0_init_24 : decode cX0_init 24 = .ok (.istore_n 1, 1) := by decide +kernel
theorem dX0_init_25 : decode cX0_init 25 = .ok (.iload_n 1, 1) := by decide +kernel
theorem dX0_init_26 : decode cX0_init 26 = .ok (.bipush 12, 2) := by decide +kernel
theorem dX0_init_28 : decode cX0_init 28 = .ok (.if_icmp .ge 22, 3) := by decide +kernel
theorem dX0_init_31 : decode cX0_init 31 = .ok (.aload_n 0, 1) := by decide +kernel
theorem dX0_init_32 : decode cX0_init 32 = .ok (.getfield 11, 3) := by decide +kernel
theorem dX0_init_35 : decode cX0_init 35 = .ok (.iload_n 1, 1) := by decide +kernel
theorem dX0_init_36 : decode cX0_init 36 = .ok (.new 9, 3) := by decide +kernel
theorem dX0_init_39 : decode cX0_init 39 = .ok (.dup, 1) := by decide +kernel
theorem dX0_init_40 : decode cX0_init 40 = .ok (.invokespecial 24, 3) := by decide +kernel
theorem dX0_init_43 : decode cX0_init 43 = .ok (.aastore, 1) := by decide +kernel
theorem dX0_init_44 : decode cX0_init 44 = .ok (.iinc 1 1, 3) := by decide +kernel
theorem dX0_init_47 : decode cX0_init 47 = .ok (.goto (-22), 3) := by decide +kernel
theorem dX0_init_50 : decode cX0_init 50 = .ok (.return_, 1) := by decide +kernel
theorem dX0_forget_0 : decode cX0_forget 0 = .ok (.aload_n 0, 1) := by decide +kernel
theorem dX0_forget_1 : decode cX0_forget 1 = .ok (.iconst 0, 1) := by decide +kernel
theorem dX0_forget_2 : decode cX0_forget 2 = .ok (.putfield 21, 3) := by decide +kernel
theorem dX0_forget_5 : decode cX0_forget 5 = .ok (.return_, 1) := by decide +kernel
theorem dX0_remember_0 : decode cX0_remember 0 = .ok (.aload_n 0, 1) := by decide +kernel
theorem dX0_remember_1 : decode cX0_remember 1 = .ok (.getfield 11, 3) := by decide +kernel
theorem dX0_remember_4 : decode cX0_remember 4 = .ok (.aload_n 0, 1) := by decide +kernel
theorem dX0_remember_5 : decode cX0_remember 5 = .ok (.getfield 17, 3) := by decide +kernel
theorem dX0_remember_8 : decode cX0_remember 8 = .ok (.aaload, 1) := by decide +kernel
theorem dX0_remember_9 : decode cX0_remember 9 = .ok (.aload_n 1, 1) := by decide +kernel
theorem dX0_remember_10 : decode cX0_remember 10 = .ok (.invokevirtual 25, 3) := by decide +kernel
theorem dX0_remember_13 : decode cX0_remember 13 = .ok (.aload_n 0, 1) := by decide +kernel
theorem dX0_remember_14 : decode cX0_remember 14 = .ok (.aload_n 0, 1) := by decide +kernel
theorem dX0_remember_15 : decode cX0_remember 15 = .ok (.getfield 17, 3) := by decide +kernel
theorem dX0_remember_18 : decode cX0_remember 18 = .ok (.bipush 11, 2) := by decide +kernel
theorem dX0_remember_20 : decode cX0_remember 20 = .ok (.if_icmp .ne 7, 3) := by decide +kernel
theorem dX0_remember_23 : decode cX0_remember 23 = .ok (.iconst 0, 1) := by decide +kernel
theorem dX0_remember_24 : decode cX0_remember 24 = .ok (.goto 9, 3) := by decide +kernel
theorem dX0_remember_27 : decode cX0_remember 27 = .ok (.aload_n 0, 1) := by decide +kernel
theorem dX0_remember_28 : decode cX0_remember 28 = .ok (.getfield 17, 3) := by decide +kernel
theorem dX0_remember_31 : decode cX0_remember 31 = .ok (.iconst 1, 1) := by decide +kernel
theorem dX0_remember_32 : decode cX0_remember 32 = .ok (.iadd, 1) := by decide +kernel
theorem dX0_remember_33 : decode cX0_remember 33 = .ok (.putfield 17, 3) := by decide +kernel
theorem dX0_remember_36 : decode cX0_remember 36 = .ok (.aload_n 0, 1) := by decide +kernel
theorem dX0_remember_37 : decode cX0_remember 37 = .ok (.aload_n 0, 1) := by decide +kernel
theorem dX0_remember_38 : decode cX0_remember 38 = .ok (.getfield 21, 3) := by decide +kernel
theorem dX0_remember_41 : decode cX0_remember 41 = .ok (.iconst 1, 1) := by decide +kernel
theorem dX0_remember_42 : decode cX0_remember 42 = .ok (.iadd, 1) := by decide +kernel
theorem dX0_remember_43 : decode cX0_remember 43 = .ok (.bipush 12, 2) := by decide +kernel
theorem dX0_remember_45 : decode cX0_remember 45 = .ok (.invokestatic 29, 3) := by decide +kernel
theorem dX0_remember_48 : decode cX0_remember 48 = .ok (.putfield 21, 3) := by decide +kernel
theorem dX0_remember_51 : decode cX0_remember 51 = .ok (.return_, 1) := by decide +kernel
theorem dX0_restoreLatest_0 : decode cX0_restoreLatest 0 = .ok (.aload_n 0, 1) := by decide +kernel
theorem dX0_restoreLatest_1 : decode cX0_restoreLatest 1 = .ok (.getfield 21, 3) := by decide +kernel
theorem dX0_restoreLatest_4 : decode cX0_restoreLatest 4 = .ok (.ifCond .ne 4, 3) := by decide +kernel
theorem dX0_restoreLatest_7 : decode cX0_restoreLatest 7 = .ok (.return_, 1) := by decide +kernel
theorem dX0_restoreLatest_8 : decode cX0_restoreLatest 8 = .ok (.aload_n 0, 1) := by decide +kernel
theorem dX0_restoreLatest_9 : decode cX0_restoreLatest 9 = .ok (.aload_n 0, 1) := by decide +kernel
theorem dX0_restoreLatest_10 : decode cX0_restoreLatest 10 = .ok (.getfield 17, 3) := by decide +kernel
theorem dX0_restoreLatest_13 : decode cX0_restoreLatest 13 = .ok (.ifCond .ne 8, 3) := by decide +kernel
theorem dX0_restoreLatest_16 : decode cX0_restoreLatest 16 = .ok (.bipush 11, 2) := by decide +kernel
theorem dX0_restoreLatest_18 : decode cX0_restoreLatest 18 = .ok (.goto 9, 3) := by decide +kernel
theorem dX0_restoreLatest_21 : decode cX0_restoreLatest 21 = .ok (.aload_n 0, 1) := by decide +kernel
theorem dX0_restoreLatest_22 : decode cX0_restoreLatest 22 = .ok (.getfield 17, 3) := by decide +kernel
theorem dX0_restoreLatest_25 : decode cX0_restoreLatest 25 = .ok (.iconst 1, 1) := by decide +kernel
theorem dX0_restoreLatest_26 : decode cX0_restoreLatest 26 = .ok (.isub, 1) := by decide +kernel
theorem dX0_restoreLatest_27 : decode cX0_restoreLatest 27 = .ok (.putfield 17, 3) := by decide +kernel
theorem dX0_restoreLatest_30 : decode cX0_restoreLatest 30 = .ok (.aload_n 0, 1) := by decide +kernel
theorem dX0_restoreLatest_31 : decode cX0_restoreLatest 31 = .ok (.dup, 1) := by decide +kernel
theorem dX0_restoreLatest_32 : decode cX0_restoreLatest 32 = .ok (.getfield 21, 3) := by decide +kernel
theorem dX0_restoreLatest_35 : decode cX0_restoreLatest 35 = .ok (.iconst 1, 1) := by decide +kernel
theorem dX0_restoreLatest_36 : decode cX0_restoreLatest 36 = .ok (.isub, 1) := by decide +kernel
theorem dX0_restoreLatest_37 : decode cX0_restoreLatest 37 = .ok (.putfield 21, 3) := by decide +kernel
theorem dX0_restoreLatest_40 : decode cX0_restoreLatest 40 = .ok (.aload_n 1, 1) := by decide +kernel
theorem dX0_restoreLatest_41 : decode cX0_restoreLatest 41 = .ok (.aload_n 0, 1) := by decide +kernel
theorem dX0_restoreLatest_42 : decode cX0_restoreLatest 42 = .ok (.getfield 11, 3) := by decide +kernel
theorem dX0_restoreLatest_45 : decode cX0_restoreLatest 45 = .ok (.aload_n 0, 1) := by decide +kernel
theorem dX0_restoreLatest_46 : decode cX0_restoreLatest 46 = .ok (.getfield 17, 3) := by decide +kernel
theorem dX0_restoreLatest_49 : decode cX0_restoreLatest 49 = .ok (.aaload, 1) := by decide +kernel
theorem dX0_restoreLatest_50 : decode cX0_restoreLatest 50 = .ok (.invokevirtual 25, 3) := by decide +kernel
theorem dX0_restoreLatest_53 : decode cX0_restoreLatest 53 = .ok (.return_, 1) := by decide +kernel
theorem dX1_init_0 : decode cX1_init 0 = .ok (.aload_n 0, 1) := by decide +kernel
theorem dX1_init_1 : decode cX1_init 1 = .ok (.invokespecial 3, 3) := by decide +kernel
theorem dX1_init_4 : decode cX1_init 4 = .ok (.aload_n 0, 1) := by decide +kernel
theorem dX1_init_5 : decode cX1_init 5 = .ok (.sipush 495, 3) := by decide +kernel
theorem dX1_init_8 : decode cX1_init 8 = .ok (.newarray .int, 2) := by decide +kernel
theorem dX1_init_10 : decode cX1_init 10 = .ok (.putfield 9, 3) := by decide +kernel
theorem dX1_init_13 : decode cX1_init 13 = .ok (.aload_n 0, 1) := by decide +kernel
theorem dX1_init_14 : decode cX1_init 14 = .ok (.sipush 495, 3) := by decide +kernel
theorem dX1_init_17 : decode cX1_init 17 = .ok (.newarray .boolean, 2) := by decide +kernel
theorem dX1_init_19 : decode cX1_init 19 = .ok (.putfield 15, 3) := by decide +kernel
theorem dX1_init_22 : decode cX1_init 22 = .ok (.aload_n 0, 1) := by decide +kernel
theorem dX1_init_23 : decode cX1_init 23 = .ok (.iconst 0, 1) := by decide +kernel
theorem dX1_init_24 : decode cX1_init 24 = .ok (.putfield 19, 3) := by decide +kernel
theorem dX1_init_27 : decode cX1_init 27 = .ok (.return_, 1) := by decide +kernel
theorem dX1_lay_0 : decode cX1_lay 0 = .ok (.aload_n 0, 1) := by decide +kernel
theorem dX1_lay_1 : decode cX1_lay 1 = .ok (.iconst 0, 1) := by decide +kernel
theorem dX1_lay_2 : decode cX1_lay 2 = .ok (.putfield 19, 3) := by decide +kernel
theorem dX1_lay_5 : decode cX1_lay 5 = .ok (.iconst 0, 1) := by decide +kernel
theorem dX1_lay_6 : decode cX1_lay 6 = .ok (.istore_n 2, 1) := by decide +kernel
theorem dX1_lay_7 : decode cX1_lay 7 = .ok (.iload_n 2, 1) := by decide +kernel
theorem dX1_lay_8 : decode cX1_lay 8 = .ok (.aload_n 1, 1) := by decide +kernel
theorem dX1_lay_9 : decode cX1_lay 9 = .ok (.getfield 23, 3) := by decide +kernel
theorem dX1_lay_12 : decode cX1_lay 12 = .ok (.if_icmp .ge 81, 3) := by decide +kernel
theorem dX1_lay_15 : decode cX1_lay 15 = .ok (.aload_n 1, 1) := by decide +kernel
theorem dX1_lay_16 : decode cX1_lay 16 = .ok (.getfield 28, 3) := by decide +kernel
theorem dX1_lay_19 : decode cX1_lay 19 = .ok (.iload_n 2, 1) := by decide +kernel
theorem dX1_lay_20 : decode cX1_lay 20 = .ok (.iaload, 1) := by decide +kernel
theorem dX1_lay_21 : decode cX1_lay 21 = .ok (.istore_n 3, 1) := by decide +kernel
theorem dX1_lay_22 : decode cX1_lay 22 = .ok (.aload_n 1, 1) := by decide +kernel
theorem dX1_lay_23 : decode cX1_lay 23 = .ok (.aload_n 1, 1) := by decide +kernel
theorem dX1_lay_24 : decode cX1_lay 24 = .ok (.getfield 31, 3) := by decide +kernel
theorem dX1_lay_27 : decode cX1_lay 27 = .ok (.iload_n 3, 1) := by decide +kernel
theorem dX1_lay_28 : decode cX1_lay 28 = .ok (.invokevirtual 34, 3) := by decide +kernel
theorem dX1_lay_31 : decode cX1_lay 31 = .ok (.istore 4, 2) := by decide +kernel
theorem dX1_lay_33 : decode cX1_lay 33 = .ok (.iconst 0, 1) := by decide +kernel
theorem dX1_lay_34 : decode cX1_lay 34 = .ok (.istore 5, 2) := by decide +kernel
theorem dX1_lay_36 : decode cX1_lay 36 = .ok (.iload 5, 2) := by decide +kernel
theorem dX1_lay_38 : decode cX1_lay 38 = .ok (.aload_n 1, 1) := by decide +kernel
theorem dX1_lay_39 : decode cX1_lay 39 = .ok (.getfield 38, 3) := by decide +kernel
theorem dX1_lay_42 : decode cX1_lay 42 = .ok (.iload_n 3, 1) := by decide +kernel
theorem dX1_lay_43 : decode cX1_lay 43 = .ok (.iaload, 1) := by decide +kernel
theorem dX1_lay_44 : decode cX1_lay 44 = .ok (.if_icmp .ge 43, 3) := by decide +kernel
theorem dX1_lay_47 : decode cX1_lay 47 = .ok (.aload_n 0, 1) := by decide +kernel
theorem dX1_lay_48 : decode cX1_lay 48 = .ok (.getfield 19, 3) := by decide +kernel
theorem dX1_lay_51 : decode cX1_lay 51 = .ok (.sipush 495, 3) := by decide +kernel
theorem dX1_lay_54 : decode cX1_lay 54 = .ok (.if_icmp .ge 33, 3) := by decide +kernel
theorem dX1_lay_57 : decode cX1_lay 57 = .ok (.aload_n 0, 1) := by decide +kernel
theorem dX1_lay_58 : decode cX1_lay 58 = .ok (.getfield 9, 3) := by decide +kernel
theorem dX1_lay_61 : decode cX1_lay 61 = .ok (.aload_n 0, 1) := by decide +kernel
theorem dX1_lay_62 : decode cX1_lay 62 = .ok (.getfield 19, 3) := by decide +kernel
theorem dX1_lay_65 : decode cX1_lay 65 = .ok (.iload 4, 2) := by decide +kernel
theorem dX1_lay_67 : decode cX1_lay 67 = .ok (.iload 5, 2) := by decide +kernel
theorem dX1_lay_69 : decode cX1_lay 69 = .ok (.iadd, 1) := by decide +kernel
theorem dX1_lay_70 : decode cX1_lay 70 = .ok (.iastore, 1) := by decide +kernel
theorem dX1_lay_71 : decode cX1_lay 71 = .ok (.aload_n 0, 1) := by decide +kernel
theorem dX1_lay_72 : decode cX1_lay 72 = .ok (.dup, 1) := by decide +kernel
theorem dX1_lay_73 : decode cX1_lay 73 = .ok (.getfield 19, 3) := by decide +kernel
theorem dX1_lay_76 : decode cX1_lay 76 = .ok (.iconst 1, 1) := by decide +kernel
theorem dX1_lay_77 : decode cX1_lay 77 = .ok (.iadd, 1) := by decide +kernel
theorem dX1_lay_78 : decode cX1_lay 78 = .ok (.putfield 19, 3) := by decide +kernel
theorem dX1_lay_81 : decode cX1_lay 81 = .ok (.iinc 5 1, 3) := by decide +kernel
theorem dX1_lay_84 : decode cX1_lay 84 = .ok (.goto (-48), 3) := by decide +kernel
theorem dX1_lay_87 : decode cX1_lay 87 = .ok (.iinc 2 1, 3) := by decide +kernel
theorem dX1_lay_90 : decode cX1_lay 90 = .ok (.goto (-83), 3) := by decide +kernel
theorem dX1_lay_93 : decode cX1_lay 93 = .ok (.return_, 1) := by decide +kernel
theorem dX1_periodOf_0 : decode cX1_periodOf 0 = .ok (.aload_n 0, 1) := by decide +kernel
theorem dX1_periodOf_1 : decode cX1_periodOf 1 = .ok (.getfield 9, 3) := by decide +kernel
theorem dX1_periodOf_4 : decode cX1_periodOf 4 = .ok (.iload_n 1, 1) := by decide +kernel
theorem dX1_periodOf_5 : decode cX1_periodOf 5 = .ok (.iaload, 1) := by decide +kernel
theorem dX1_periodOf_6 : decode cX1_periodOf 6 = .ok (.istore_n 2, 1) := by decide +kernel
theorem dX1_periodOf_7 : decode cX1_periodOf 7 = .ok (.iconst 1, 1) := by decide +kernel
theorem dX1_periodOf_8 : decode cX1_periodOf 8 = .ok (.istore_n 3, 1) := by decide +kernel
theorem dX1_periodOf_9 : decode cX1_periodOf 9 = .ok (.iload_n 3, 1) := by decide +kernel
theorem dX1_periodOf_10 : decode cX1_periodOf 10 = .ok (.aload_n 0, 1) := by decide +kernel
theorem dX1_periodOf_11 : decode cX1_periodOf 11 = .ok (.getfield 19, 3) := by decide +kernel
theorem dX1_periodOf_14 : decode cX1_periodOf 14 = .ok (.if_icmp .ge 21, 3) := by decide +kernel
theorem dX1_periodOf_17 : decode cX1_periodOf 17 = .ok (.iload_n 2, 1) := by decide +kernel
theorem dX1_periodOf_18 : decode cX1_periodOf 18 = .ok (.iload_n 1, 1) := by decide +kernel
theorem dX1_periodOf_19 : decode cX1_periodOf 19 = .ok (.if_icmp .eq 16, 3) := by decide +kernel
theorem dX1_periodOf_22 : decode cX1_periodOf 22 = .ok (.aload_n 0, 1) := by decide +kernel
theorem dX1_periodOf_23 : decode cX1_periodOf 23 = .ok (.getfield 9, 3) := by decide +kernel
theorem dX1_periodOf_26 : decode cX1_periodOf 26 = .ok (.iload_n 2, 1) := by decide +kernel
theorem dX1_periodOf_27 : decode cX1_periodOf 27 = .ok (.iaload, 1) := by decide +kernel
theorem dX1_periodOf_28 : decode cX1_periodOf 28 = .ok (.istore_n 2, 1) := by decide +kernel
theorem dX1_periodOf_29 : decode cX1_periodOf 29 = .ok (.iinc 3 1, 3) := by decide +kernel
theorem dX1_periodOf_32 : decode cX1_periodOf 32 = .ok (.goto (-23), 3) := by decide +kernel
theorem dX1_periodOf_35 : decode cX1_periodOf 35 = .ok (.iload_n 3, 1) := by decide +kernel
theorem dX1_periodOf_36 : decode cX1_periodOf 36 = .ok (.ireturn, 1) := by decide +kernel
theorem dX1_behind_0 : decode cX1_behind 0 = .ok (.aload_n 0, 1) := by decide +kernel
theorem dX1_behind_1 : decode cX1_behind 1 = .ok (.iload_n 1, 1) := by decide +kernel
theorem dX1_behind_2 : decode cX1_behind 2 = .ok (.invokevirtual 41, 3) := by decide +kernel
theorem dX1_behind_5 : decode cX1_behind 5 = .ok (.istore_n 3, 1) := by decide +kernel
theorem dX1_behind_6 : decode cX1_behind 6 = .ok (.iload_n 3, 1) := by decide +kernel
theorem dX1_behind_7 : decode cX1_behind 7 = .ok (.iconst 1, 1) := by decide +kernel
theorem dX1_behind_8 : decode cX1_behind 8 = .ok (.if_icmp .ge 7, 3) := by decide +kernel
theorem dX1_behind_11 : decode cX1_behind 11 = .ok (.iconst 0, 1) := by decide +kernel
theorem dX1_behind_12 : decode cX1_behind 12 = .ok (.goto 6, 3) := by decide +kernel
theorem dX1_behind_15 : decode cX1_behind 15 = .ok (.iload_n 2, 1) := by decide +kernel
theorem dX1_behind_16 : decode cX1_behind 16 = .ok (.iload_n 3, 1) := by decide +kernel
theorem dX1_behind_17 : decode cX1_behind 17 = .ok (.irem, 1) := by decide +kernel
theorem dX1_behind_18 : decode cX1_behind 18 = .ok (.istore 4, 2) := by decide +kernel
theorem dX1_behind_20 : decode cX1_behind 20 = .ok (.iload_n 1, 1) := by decide +kernel
theorem dX1_behind_21 : decode cX1_behind 21 = .ok (.istore 5, 2) := by decide +kernel
theorem dX1_behind_23 : decode cX1_behind 23 = .ok (.iconst 0, 1) := by decide +kernel
theorem dX1_behind_24 : decode cX1_behind 24 = .ok (.istore 6, 2) := by decide +kernel
theorem dX1_behind_26 : decode cX1_behind 26 = .ok (.iload 6, 2) := by decide +kernel
theorem dX1_behind_28 : decode cX1_behind 28 = .ok (.iload 4, 2) := by decide +kernel
theorem dX1_behind_30 : decode cX1_behind 30 = .ok (.if_icmp .ge 18, 3) := by decide +kernel
theorem dX1_behind_33 : decode cX1_behind 33 = .ok (.aload_n 0, 1) := by decide +kernel
theorem dX1_behind_34 : decode cX1_behind 34 = .ok (.getfield 9, 3) := by decide +kernel
theorem dX1_behind_37 : decode cX1_behind 37 = .ok (.iload 5, 2) := by decide +kernel
theorem dX1_behind_39 : decode cX1_behind 39 = .ok (.iaload, 1) := by decide +kernel
theorem dX1_behind_40 : decode cX1_behind 40 = .ok (.istore 5, 2) := by decide +kernel
theorem dX1_behind_42 : decode cX1_behind 42 = .ok (.iinc 6 1, 3) := by decide +kernel
theorem dX1_behind_45 : decode cX1_behind 45 = .ok (.goto (-19), 3) := by decide +kernel
theorem dX1_behind_48 : decode cX1_behind 48 = .ok (.iload 5, 2) := by decide +kernel
theorem dX1_behind_50 : decode cX1_behind 50 = .ok (.ireturn, 1) := by decide +kernel
theorem dX1_rounds_0 : decode cX1_rounds 0 = .ok (.iconst 0, 1) := by decide +kernel
theorem dX1_rounds_1 : decode cX1_rounds 1 = .ok (.istore_n 1, 1) := by decide +kernel
theorem dX1_rounds_2 : decode cX1_rounds 2 = .ok (.iload_n 1, 1) := by decide +kernel
theorem dX1_rounds_3 : decode cX1_rounds 3 = .ok (.aload_n 0, 1) := by decide +kernel
theorem dX1_rounds_4 : decode cX1_rounds 4 = .ok (.getfield 19, 3) := by decide +kernel
theorem dX1_rounds_7 : decode cX1_rounds 7 = .ok (.if_icmp .ge 16, 3) := by decide +kernel
theorem dX1_rounds_10 : decode cX1_rounds 10 = .ok (.aload_n 0, 1) := by decide +kernel
theorem dX1_rounds_11 : decode cX1_rounds 11 = .ok (.getfield 15, 3) := by decide +kernel
theorem dX1_rounds_14 : decode cX1_rounds 14 = .ok (.iload_n 1, 1) := by decide +kernel
theorem dX1_rounds_15 : decode cX1_rounds 15 = .ok (.iconst 0, 1) := by decide +kernel
theorem dX1_rounds_16 : decode cX1_rounds 16 = .ok (.bastore, 1) := by decide +kernel
theorem dX1_rounds_17 : decode cX1_rounds 17 = .ok (.iinc 1 1, 3) := by decide +kernel
theorem dX1_rounds_20 : decode cX1_rounds 20 = .ok (.goto (-18), 3) := by decide +kernel
theorem dX1_rounds_23 : decode cX1_rounds 23 = .ok (.iconst 0, 1) := by decide +kernel
theorem dX1_rounds_24 : decode cX1_rounds 24 = .ok (.istore_n 1, 1) := by decide +kernel
theorem dX1_rounds_25 : decode cX1_rounds 25 = .ok (.iconst 0, 1) := by decide +kernel
theorem dX1_rounds_26 : decode cX1_rounds 26 = .ok (.istore_n 2, 1) := by decide +kernel
theorem dX1_rounds_27 : decode cX1_rounds 27 = .ok (.iload_n 2, 1) := by decide +kernel
theorem dX1_rounds_28 : decode cX1_rounds 28 = .ok (.aload_n 0, 1) := by decide +kernel
theorem dX1_rounds_29 : decode cX1_rounds 29 = .ok (.getfield 19, 3) := by decide +kernel
theorem dX1_rounds_32 : decode cX1_rounds 32 = .ok (.if_icmp .ge 26, 3) := by decide +kernel
theorem dX1_rounds_35 : decode cX1_rounds 35 = .ok (.aload_n 0, 1) := by decide +kernel
theorem dX1_rounds_36 : decode cX1_rounds 36 = .ok (.getfield 15, 3) := by decide +kernel
theorem dX1_rounds_39 : decode cX1_rounds 39 = .ok (.iload_n 2, 1) := by decide +kernel
theorem dX1_rounds_40 : decode cX1_rounds 40 = .ok (.baload, 1) := by decide +kernel
theorem dX1_rounds_41 : decode cX1_rounds 41 = .ok (.ifCond .ne 11, 3) := by decide +kernel
theorem dX1_rounds_44 : decode cX1_rounds 44 = .ok (.iinc 1 1, 3) := by decide +kernel
theorem dX1_rounds_47 : decode cX1_rounds 47 = .ok (.aload_n 0, 1) := by decide +kernel
theorem dX1_rounds_48 : decode cX1_rounds 48 = .ok (.iload_n 2, 1) := by decide +kernel
theorem dX1_rounds_49 : decode cX1_rounds 49 = .ok (.invokevirtual 45, 3) := by decide +kernel
theorem dX1_rounds_52 : decode cX1_rounds 52 = .ok (.iinc 2 1, 3) := by decide +kernel
theorem dX1_rounds_55 : decode cX1_rounds 55 = .ok (.goto (-28), 3) := by decide +kernel
theorem dX1_rounds_58 : decode cX1_rounds 58 = .ok (.iload_n 1, 1) := by decide +kernel
theorem dX1_rounds_59 : decode cX1_rounds 59 = .ok (.ireturn, 1) := by decide +kernel
theorem dX1_markRound_0 : decode cX1_markRound 0 = .ok (.iload_n 1, 1) := by decide +kernel
theorem dX1_markRound_1 : decode cX1_markRound 1 = .ok (.istore_n 2, 1) := by decide +kernel
theorem dX1_markRound_2 : decode cX1_markRound 2 = .ok (.iconst 0, 1) := by decide +kernel
theorem dX1_markRound_3 : decode cX1_markRound 3 = .ok (.istore_n 3, 1) := by decide +kernel
theorem dX1_markRound_4 : decode cX1_markRound 4 = .ok (.iload_n 3, 1) := by decide +kernel
theorem dX1_markRound_5 : decode cX1_markRound 5 = .ok (.aload_n 0, 1) := by decide +kernel
theorem dX1_markRound_6 : decode cX1_markRound 6 = .ok (.getfield 19, 3) := by decide +kernel
theorem dX1_markRound_9 : decode cX1_markRound 9 = .ok (.if_icmp .ge 32, 3) := by decide +kernel
theorem dX1_markRound_12 : decode cX1_markRound 12 = .ok (.aload_n 0, 1) := by decide +kernel
theorem dX1_markRound_13 : decode cX1_markRound 13 = .ok (.getfield 15, 3) := by decide +kernel
theorem dX1_markRound_16 : decode cX1_markRound 16 = .ok (.iload_n 2, 1) := by decide +kernel
theorem dX1_markRound_17 : decode cX1_markRound 17 = .ok (.baload, 1) := by decide +kernel
theorem dX1_markRound_18 : decode cX1_markRound 18 = .ok (.ifCond .ne 23, 3) := by decide +kernel
theorem dX1_markRound_21 : decode cX1_markRound 21 = .ok (.aload_n 0, 1) := by decide +kernel
theorem dX1_markRound_22 : decode cX1_markRound 22 = .ok (.getfield 15, 3) := by decide +kernel
theorem dX1_markRound_25 : decode cX1_markRound 25 = .ok (.iload_n 2, 1) := by decide +kernel
theorem dX1_markRound_26 : decode cX1_markRound 26 = .ok (.iconst 1, 1) := by decide +kernel
theorem dX1_markRound_27 : decode cX1_markRound 27 = .ok (.bastore, 1) := by decide +kernel
theorem dX1_markRound_28 : decode cX1_markRound 28 = .ok (.aload_n 0, 1) := by decide +kernel
theorem dX1_markRound_29 : decode cX1_markRound 29 = .ok (.getfield 9, 3) := by decide +kernel
theorem dX1_markRound_32 : decode cX1_markRound 32 = .ok (.iload_n 2, 1) := by decide +kernel
theorem dX1_markRound_33 : decode cX1_markRound 33 = .ok (.iaload, 1) := by decide +kernel
theorem dX1_markRound_34 : decode cX1_markRound 34 = .ok (.istore_n 2, 1) := by decide +kernel
theorem dX1_markRound_35 : decode cX1_markRound 35 = .ok (.iinc 3 1, 3) := by decide +kernel
theorem dX1_markRound_38 : decode cX1_markRound 38 = .ok (.goto (-34), 3) := by decide +kernel
theorem dX1_markRound_41 : decode cX1_markRound 41 = .ok (.return_, 1) := by decide +kernel
theorem dX1_goingDown_0 : decode cX1_goingDown 0 = .ok (.iconst 0, 1) := by decide +kernel
theorem dX1_goingDown_1 : decode cX1_goingDown 1 = .ok (.istore_n 1, 1) := by decide +kernel
theorem dX1_goingDown_2 : decode cX1_goingDown 2 = .ok (.iconst 0, 1) := by decide +kernel
theorem dX1_goingDown_3 : decode cX1_goingDown 3 = .ok (.istore_n 2, 1) := by decide +kernel
theorem dX1_goingDown_4 : decode cX1_goingDown 4 = .ok (.iload_n 2, 1) := by decide +kernel
theorem dX1_goingDown_5 : decode cX1_goingDown 5 = .ok (.aload_n 0, 1) := by decide +kernel
theorem dX1_goingDown_6 : decode cX1_goingDown 6 = .ok (.getfield 19, 3) := by decide +kernel
theorem dX1_goingDown_9 : decode cX1_goingDown 9 = .ok (.if_icmp .ge 22, 3) := by decide +kernel
theorem dX1_goingDown_12 : decode cX1_goingDown 12 = .ok (.aload_n 0, 1) := by decide +kernel
theorem dX1_goingDown_13 : decode cX1_goingDown 13 = .ok (.getfield 9, 3) := by decide +kernel
theorem dX1_goingDown_16 : decode cX1_goingDown 16 = .ok (.iload_n 2, 1) := by decide +kernel
theorem dX1_goingDown_17 : decode cX1_goingDown 17 = .ok (.iaload, 1) := by decide +kernel
theorem dX1_goingDown_18 : decode cX1_goingDown 18 = .ok (.iload_n 2, 1) := by decide +kernel
theorem dX1_goingDown_19 : decode cX1_goingDown 19 = .ok (.if_icmp .ge 6, 3) := by decide +kernel
theorem dX1_goingDown_22 : decode cX1_goingDown 22 = .ok (.iinc 1 1, 3) := by decide +kernel
theorem dX1_goingDown_25 : decode cX1_goingDown 25 = .ok (.iinc 2 1, 3) := by decide +kernel
theorem dX1_goingDown_28 : decode cX1_goingDown 28 = .ok (.goto (-24), 3) := by decide +kernel
theorem dX1_goingDown_31 : decode cX1_goingDown 31 = .ok (.iload_n 1, 1) := by decide +kernel
theorem dX1_goingDown_32 : decode cX1_goingDown 32 = .ok (.ireturn, 1) := by decide +kernel
theorem dX1_wayTogether_0 : decode cX1_wayTogether 0 = .ok (.iconst 0, 1) := by decide +kernel
theorem dX1_wayTogether_1 : decode cX1_wayTogether 1 = .ok (.istore_n 1, 1) := by decide +kernel
theorem dX1_wayTogether_2 : decode cX1_wayTogether 2 = .ok (.iconst 0, 1) := by decide +kernel
theorem dX1_wayTogether_3 : decode cX1_wayTogether 3 = .ok (.istore_n 2, 1) := by decide +kernel
theorem dX1_wayTogether_4 : decode cX1_wayTogether 4 = .ok (.iload_n 2, 1) := by decide +kernel
theorem dX1_wayTogether_5 : decode cX1_wayTogether 5 = .ok (.aload_n 0, 1) := by decide +kernel
theorem dX1_wayTogether_6 : decode cX1_wayTogether 6 = .ok (.getfield 19, 3) := by decide +kernel
theorem dX1_wayTogether_9 : decode cX1_wayTogether 9 = .ok (.if_icmp .ge 23, 3) := by decide +kernel
theorem dX1_wayTogether_12 : decode cX1_wayTogether 12 = .ok (.iload_n 1, 1) := by decide +kernel
theorem dX1_wayTogether_13 : decode cX1_wayTogether 13 = .ok (.aload_n 0, 1) := by decide +kernel
theorem dX1_wayTogether_14 : decode cX1_wayTogether 14 = .ok (.getfield 9, 3) := by decide +kernel
theorem dX1_wayTogether_17 : decode cX1_wayTogether 17 = .ok (.iload_n 2, 1) := by decide +kernel
theorem dX1_wayTogether_18 : decode cX1_wayTogether 18 = .ok (.iaload, 1) := by decide +kernel
theorem dX1_wayTogether_19 : decode cX1_wayTogether 19 = .ok (.iload_n 2, 1) := by decide +kernel
theorem dX1_wayTogether_20 : decode cX1_wayTogether 20 = .ok (.isub, 1) := by decide +kernel
theorem dX1_wayTogether_21 : decode cX1_wayTogether 21 = .ok (.invokestatic 49, 3) := by decide +kernel
theorem dX1_wayTogether_24 : decode cX1_wayTogether 24 = .ok (.iadd, 1) := by decide +kernel
theorem dX1_wayTogether_25 : decode cX1_wayTogether 25 = .ok (.istore_n 1, 1) := by decide +kernel
theorem dX1_wayTogether_26 : decode cX1_wayTogether 26 = .ok (.iinc 2 1, 3) := by decide +kernel
theorem dX1_wayTogether_29 : decode cX1_wayTogether 29 = .ok (.goto (-25), 3) := by decide +kernel
theorem dX1_wayTogether_32 : decode cX1_wayTogether 32 = .ok (.iload_n 1, 1) := by decide +kernel
theorem dX1_wayTogether_33 : decode cX1_wayTogether 33 = .ok (.ireturn, 1) := by decide +kernel
theorem dX2_init_0 : decode cX2_init 0 = .ok (.aload_n 0, 1) := by decide +kernel
theorem dX2_init_1 : decode cX2_init 1 = .ok (.invokespecial 3, 3) := by decide +kernel
theorem dX2_init_4 : decode cX2_init 4 = .ok (.aload_n 0, 1) := by decide +kernel
theorem dX2_init_5 : decode cX2_init 5 = .ok (.iconst 0, 1) := by decide +kernel
theorem dX2_init_6 : decode cX2_init 6 = .ok (.putfield 9, 3) := by decide +kernel
theorem dX2_init_9 : decode cX2_init 9 = .ok (.aload_n 0, 1) := by decide +kernel
theorem dX2_init_10 : decode cX2_init 10 = .ok (.iload_n 1, 1) := by decide +kernel
theorem dX2_init_11 : decode cX2_init 11 = .ok (.iconst 0, 1) := by decide +kernel
theorem dX2_init_12 : decode cX2_init 12 = .ok (.invokestatic 15, 3) := by decide +kernel
theorem dX2_init_15 : decode cX2_init 15 = .ok (.newarray .int, 2) := by decide +kernel
theorem dX2_init_17 : decode cX2_init 17 = .ok (.putfield 21, 3) := by decide +kernel
theorem dX2_init_20 : decode cX2_init 20 = .ok (.aload_n 0, 1) := by decide +kernel
theorem dX2_init_21 : decode cX2_init 21 = .ok (.iload_n 1, 1) := by decide +kernel
theorem dX2_init_22 : decode cX2_init 22 = .ok (.iconst 0, 1) := by decide +kernel
theorem dX2_init_23 : decode cX2_init 23 = .ok (.invokestatic 15, 3) := by decide +kernel
theorem dX2_init_26 : decode cX2_init 26 = .ok (.newarray .int, 2) := by decide +kernel
theorem dX2_init_28 : decode cX2_init 28 = .ok (.putfield 25, 3) := by decide +kernel
theorem dX2_init_31 : decode cX2_init 31 = .ok (.return_, 1) := by decide +kernel
theorem dX2_clear_0 : decode cX2_clear 0 = .ok (.aload_n 0, 1) := by decide +kernel
theorem dX2_clear_1 : decode cX2_clear 1 = .ok (.iconst 0, 1) := by decide +kernel
theorem dX2_clear_2 : decode cX2_clear 2 = .ok (.putfield 9, 3) := by decide +kernel
theorem dX2_clear_5 : decode cX2_clear 5 = .ok (.aload_n 0, 1) := by decide +kernel
theorem dX2_clear_6 : decode cX2_clear 6 = .ok (.getfield 9, 3) := by decide +kernel
theorem dX2_clear_9 : decode cX2_clear 9 = .ok (.ireturn, 1) := by decide +kernel
theorem dX2_add_0 : decode cX2_add 0 = .ok (.aload_n 0, 1) := by decide +kernel
theorem dX2_add_1 : decode cX2_add 1 = .ok (.getfield 9, 3) := by decide +kernel
theorem dX2_add_4 : decode cX2_add 4 = .ok (.aload_n 0, 1) := by decide +kernel
theorem dX2_add_5 : decode cX2_add 5 = .ok (.getfield 21, 3) := by decide +kernel
theorem dX2_add_8 : decode cX2_add 8 = .ok (.arraylength, 1) := by decide +kernel
theorem dX2_add_9 : decode cX2_add 9 = .ok (.if_icmp .lt 6, 3) := by decide +kernel
theorem dX2_add_12 : decode cX2_add 12 = .ok (.bipush (-4), 2) := by decide +kernel
theorem dX2_add_14 : decode cX2_add 14 = .ok (.ireturn, 1) := by decide +kernel
theorem dX2_add_15 : decode cX2_add 15 = .ok (.aload_n 0, 1) := by decide +kernel
theorem dX2_add_16 : decode cX2_add 16 = .ok (.getfield 21, 3) := by decide +kernel
theorem dX2_add_19 : decode cX2_add 19 = .ok (.aload_n 0, 1) := by decide +kernel
theorem dX2_add_20 : decode cX2_add 20 = .ok (.getfield 9, 3) := by decide +kernel
theorem dX2_add_23 : decode cX2_add 23 = .ok (.iload_n 1, 1) := by decide +kernel
theorem dX2_add_24 : decode cX2_add 24 = .ok (.iastore, 1) := by decide +kernel
theorem dX2_add_25 : decode cX2_add 25 = .ok (.aload_n 0, 1) := by decide +kernel
theorem dX2_add_26 : decode cX2_add 26 = .ok (.getfield 25, 3) := by decide +kernel
theorem dX2_add_29 : decode cX2_add 29 = .ok (.aload_n 0, 1) := by decide +kernel
theorem dX2_add_30 : decode cX2_add 30 = .ok (.getfield 9, 3) := by decide +kernel
theorem dX2_add_33 : decode cX2_add 33 = .ok (.iload_n 2, 1) := by decide +kernel
theorem dX2_add_34 : decode cX2_add 34 = .ok (.iastore, 1) := by decide +kernel
theorem dX2_add_35 : decode cX2_add 35 = .ok (.aload_n 0, 1) := by decide +kernel
theorem dX2_add_36 : decode cX2_add 36 = .ok (.dup, 1) := by decide +kernel
theorem dX2_add_37 : decode cX2_add 37 = .ok (.getfield 9, 3) := by decide +kernel
theorem dX2_add_40 : decode cX2_add 40 = .ok (.iconst 1, 1) := by decide +kernel
theorem dX2_add_41 : decode cX2_add 41 = .ok (.iadd, 1) := by decide +kernel
theorem dX2_add_42 : decode cX2_add 42 = .ok (.putfield 9, 3) := by decide +kernel
theorem dX2_add_45 : decode cX2_add 45 = .ok (.aload_n 0, 1) := by decide +kernel
theorem dX2_add_46 : decode cX2_add 46 = .ok (.getfield 9, 3) := by decide +kernel
theorem dX2_add_49 : decode cX2_add 49 = .ok (.ireturn, 1) := by decide +kernel
theorem dX2_copyFrom_0 : decode cX2_copyFrom 0 = .ok (.aload_n 0, 1) := by decide +kernel
theorem dX2_copyFrom_1 : decode cX2_copyFrom 1 = .ok (.invokevirtual 28, 3) := by decide +kernel
theorem dX2_copyFrom_4 : decode cX2_copyFrom 4 = .ok (.pop, 1) := by decide +kernel
theorem dX2_copyFrom_5 : decode cX2_copyFrom 5 = .ok (.iconst 0, 1) := by decide +kernel
theorem dX2_copyFrom_6 : decode cX2_copyFrom 6 = .ok (.istore_n 2, 1) := by decide +kernel
theorem dX2_copyFrom_7 : decode cX2_copyFrom 7 = .ok (.iload_n 2, 1) := by decide +kernel
theorem dX2_copyFrom_8 : decode cX2_copyFrom 8 = .ok (.aload_n 1, 1) := by decide +kernel
theorem dX2_copyFrom_9 : decode cX2_copyFrom 9 = .ok (.getfield 9, 3) := by decide +kernel
theorem dX2_copyFrom_12 : decode cX2_copyFrom 12 = .ok (.if_icmp .ge 26, 3) := by decide +kernel
theorem dX2_copyFrom_15 : decode cX2_copyFrom 15 = .ok (.aload_n 0, 1) := by decide +kernel
theorem dX2_copyFrom_16 : decode cX2_copyFrom 16 = .ok (.aload_n 1, 1) := by decide +kernel
theorem dX2_copyFrom_17 : decode cX2_copyFrom 17 = .ok (.getfield 21, 3) := by decide +kernel
theorem dX2_copyFrom_20 : decode cX2_copyFrom 20 = .ok (.iload_n 2, 1) := by decide +kernel
theorem dX2_copyFrom_21 : decode cX2_copyFrom 21 = .ok (.iaload, 1) := by decide +kernel
theorem dX2_copyFrom_22 : decode cX2_copyFrom 22 = .ok (.aload_n 1, 1) := by decide +kernel
theorem dX2_copyFrom_23 : decode cX2_copyFrom 23 = .ok (.getfield 25, 3) := by decide +kernel
theorem dX2_copyFrom_26 : decode cX2_copyFrom 26 = .ok (.iload_n 2, 1) := by decide +kernel
theorem dX2_copyFrom_27 : decode cX2_copyFrom 27 = .ok (.iaload, 1) := by decide +kernel
theorem dX2_copyFrom_28 : decode cX2_copyFrom 28 = .ok (.invokevirtual 32, 3) := by decide +kernel
theorem dX2_copyFrom_31 : decode cX2_copyFrom 31 = .ok (.pop, 1) := by decide +kernel
theorem dX2_copyFrom_32 : decode cX2_copyFrom 32 = .ok (.iinc 2 1, 3) := by decide +kernel
theorem dX2_copyFrom_35 : decode cX2_copyFrom 35 = .ok (.goto (-28), 3) := by decide +kernel
theorem dX2_copyFrom_38 : decode cX2_copyFrom 38 = .ok (.return_, 1) := by decide +kernel
theorem dX3_init_0 : decode cX3_init 0 = .ok (.aload_n 0, 1) := by decide +kernel
theorem dX3_init_1 : decode cX3_init 1 = .ok (.invokespecial 3, 3) := by decide +kernel
theorem dX3_init_4 : decode cX3_init 4 = .ok (.aload_n 0, 1) := by decide +kernel
theorem dX3_init_5 : decode cX3_init 5 = .ok (.iconst 5, 1) := by decide +kernel
theorem dX3_init_6 : decode cX3_init 6 = .ok (.newarray .int, 2) := by decide +kernel
theorem dX3_init_8 : decode cX3_init 8 = .ok (.putfield 9, 3) := by decide +kernel
theorem dX3_init_11 : decode cX3_init 11 = .ok (.aload_n 0, 1) := by decide +kernel
theorem dX3_init_12 : decode cX3_init 12 = .ok (.iconst 5, 1) := by decide +kernel
theorem dX3_init_13 : decode cX3_init 13 = .ok (.newarray .int, 2) := by decide +kernel
theorem dX3_init_15 : decode cX3_init 15 = .ok (.putfield 15, 3) := by decide +kernel
theorem dX3_init_18 : decode cX3_init 18 = .ok (.aload_n 0, 1) := by decide +kernel
theorem dX3_init_19 : decode cX3_init 19 = .ok (.iconst 5, 1) := by decide +kernel
theorem dX3_init_20 : decode cX3_init 20 = .ok (.newarray .int, 2) := by decide +kernel
theorem dX3_init_22 : decode cX3_init 22 = .ok (.putfield 18, 3) := by decide +kernel
theorem dX3_init_25 : decode cX3_init 25 = .ok (.aload_n 0, 1) := by decide +kernel
theorem dX3_init_26 : decode cX3_init 26 = .ok (.iconst 3, 1) := by decide +kernel
theorem dX3_init_27 : decode cX3_init 27 = .ok (.invokevirtual 21, 3) := by decide +kernel
theorem dX3_init_30 : decode cX3_init 30 = .ok (.return_, 1) := by decide +kernel
theorem dX3_begin_0 : decode cX3_begin 0 = .ok (.aload_n 0, 1) := by decide +kernel
theorem dX3_begin_1 : decode cX3_begin 1 = .ok (.iconst 2, 1) := by decide +kernel
theorem dX3_begin_2 : decode cX3_begin 2 = .ok (.iload_n 1, 1) := by decide +kernel
theorem dX3_begin_3 : decode cX3_begin 3 = .ok (.iconst 5, 1) := by decide +kernel
theorem dX3_begin_4 : decode cX3_begin 4 = .ok (.invokestatic 25, 3) := by decide +kernel
theorem dX3_begin_7 : decode cX3_begin 7 = .ok (.invokestatic 31, 3) := by decide +kernel
theorem dX3_begin_10 : decode cX3_begin 10 = .ok (.putfield 34, 3) := by decide +kernel
theorem dX3_begin_13 : decode cX3_begin 13 = .ok (.iconst 0, 1) := by decide +kernel
theorem dX3_begin_14 : decode cX3_begin 14 = .ok (.istore_n 2, 1) := by decide +kernel
theorem dX3_begin_15 : decode cX3_begin 15 = .ok (.iload_n 2, 1) := by decide +kernel
theorem dX3_begin_16 : decode cX3_begin 16 = .ok (.aload_n 0, 1) := by decide +kernel
theorem dX3_begin_17 : decode cX3_begin 17 = .ok (.getfield 34, 3) := by decide +kernel
theorem dX3_begin_20 : decode cX3_begin 20 = .ok (.if_icmp .ge 37, 3) := by decide +kernel
theorem dX3_begin_23 : decode cX3_begin 23 = .ok (.aload_n 0, 1) := by decide +kernel
theorem dX3_begin_24 : decode cX3_begin 24 = .ok (.getfield 9, 3) := by decide +kernel
theorem dX3_begin_27 : decode cX3_begin 27 = .ok (.iload_n 2, 1) := by decide +kernel
theorem dX3_begin_28 : decode cX3_begin 28 = .ok (.iload_n 2, 1) := by decide +kernel
theorem dX3_begin_29 : decode cX3_begin 29 = .ok (.iastore, 1) := by decide +kernel
theorem dX3_begin_30 : decode cX3_begin 30 = .ok (.aload_n 0, 1) := by decide +kernel
theorem dX3_begin_31 : decode cX3_begin 31 = .ok (.getfield 15, 3) := by decide +kernel
theorem dX3_begin_34 : decode cX3_begin 34 = .ok (.iload_n 2, 1) := by decide +kernel
theorem dX3_begin_35 : decode cX3_begin 35 = .ok (.aload_n 0, 1) := by decide +kernel
theorem dX3_begin_36 : decode cX3_begin 36 = .ok (.getfield 34, 3) := by decide +kernel
theorem dX3_begin_39 : decode cX3_begin 39 = .ok (.iconst 1, 1) := by decide +kernel
theorem dX3_begin_40 : decode cX3_begin 40 = .ok (.isub, 1) := by decide +kernel
theorem dX3_begin_41 : decode cX3_begin 41 = .ok (.iload_n 2, 1) := by decide +kernel
theorem dX3_begin_42 : decode cX3_begin 42 = .ok (.isub, 1) := by decide +kernel
theorem dX3_begin_43 : decode cX3_begin 43 = .ok (.iastore, 1) := by decide +kernel
theorem dX3_begin_44 : decode cX3_begin 44 = .ok (.aload_n 0, 1) := by decide +kernel
theorem dX3_begin_45 : decode cX3_begin 45 = .ok (.getfield 18, 3) := by decide +kernel
theorem dX3_begin_48 : decode cX3_begin 48 = .ok (.iload_n 2, 1) := by decide +kernel
theorem dX3_begin_49 : decode cX3_begin 49 = .ok (.iconst 1, 1) := by decide +kernel
theorem dX3_begin_50 : decode cX3_begin 50 = .ok (.iastore, 1) := by decide +kernel
theorem dX3_begin_51 : decode cX3_begin 51 = .ok (.iinc 2 1, 3) := by decide +kernel
theorem dX3_begin_54 : decode cX3_begin 54 = .ok (.goto (-39), 3) := by decide +kernel
theorem dX3_begin_57 : decode cX3_begin 57 = .ok (.return_, 1) := by decide +kernel
theorem dX3_copyFrom_0 : decode cX3_copyFrom 0 = .ok (.aload_n 0, 1) := by decide +kernel
theorem dX3_copyFrom_1 : decode cX3_copyFrom 1 = .ok (.aload_n 1, 1) := by decide +kernel
theorem dX3_copyFrom_2 : decode cX3_copyFrom 2 = .ok (.getfield 34, 3) := by decide +kernel
theorem dX3_copyFrom_5 : decode cX3_copyFrom 5 = .ok (.putfield 34, 3) := by decide +kernel
theorem dX3_copyFrom_8 : decode cX3_copyFrom 8 = .ok (.iconst 0, 1) := by decide +kernel
theorem dX3_copyFrom_9 : decode cX3_copyFrom 9 = .ok (.istore_n 2, 1) := by decide +kernel
theorem dX3_copyFrom_10 : decode cX3_copyFrom 10 = .ok (.iload_n 2, 1) := by decide +kernel
theorem dX3_copyFrom_11 : decode cX3_copyFrom 11 = .ok (.iconst 5, 1) := by decide +kernel
theorem dX3_copyFrom_12 : decode cX3_copyFrom 12 = .ok (.if_icmp .ge 45, 3) := by decide +kernel
theorem dX3_copyFrom_15 : decode cX3_copyFrom 15 = .ok (.aload_n 0, 1) := by decide +kernel
theorem dX3_copyFrom_16 : decode cX3_copyFrom 16 = .ok (.getfield 9, 3) := by decide +kernel
theorem dX3_copyFrom_19 : decode cX3_copyFrom 19 = .ok (.iload_n 2, 1) := by decide +kernel
theorem dX3_copyFrom_20 : decode cX3_copyFrom 20 = .ok (.aload_n 1, 1) := by decide +kernel
theorem dX3_copyFrom_21 : decode cX3_copyFrom 21 = .ok (.getfield 9, 3) := by decide +kernel
theorem dX3_copyFrom_24 : decode cX3_copyFrom 24 = .ok (.iload_n 2, 1) := by decide +kernel
theorem dX3_copyFrom_25 : decode cX3_copyFrom 25 = .ok (.iaload, 1) := by decide +kernel
theorem dX3_copyFrom_26 : decode cX3_copyFrom 26 = .ok (.iastore, 1) := by decide +kernel
theorem dX3_copyFrom_27 : decode cX3_copyFrom 27 = .ok (.aload_n 0, 1) := by decide +kernel
theorem dX3_copyFrom_28 : decode cX3_copyFrom 28 = .ok (.getfield 15, 3) := by decide +kernel
theorem dX3_copyFrom_31 : decode cX3_copyFrom 31 = .ok (.iload_n 2, 1) := by decide +kernel
theorem dX3_copyFrom_32 : decode cX3_copyFrom 32 = .ok (.aload_n 1, 1) := by decide +kernel
theorem dX3_copyFrom_33 : decode cX3_copyFrom 33 = .ok (.getfield 15, 3) := by decide +kernel
theorem dX3_copyFrom_36 : decode cX3_copyFrom 36 = .ok (.iload_n 2, 1) := by decide +kernel
theorem dX3_copyFrom_37 : decode cX3_copyFrom 37 = .ok (.iaload, 1) := by decide +kernel
theorem dX3_copyFrom_38 : decode cX3_copyFrom 38 = .ok (.iastore, 1) := by decide +kernel
theorem dX3_copyFrom_39 : decode cX3_copyFrom 39 = .ok (.aload_n 0, 1) := by decide +kernel
theorem dX3_copyFrom_40 : decode cX3_copyFrom 40 = .ok (.getfield 18, 3) := by decide +kernel
theorem dX3_copyFrom_43 : decode cX3_copyFrom 43 = .ok (.iload_n 2, 1) := by decide +kernel
theorem dX3_copyFrom_44 : decode cX3_copyFrom 44 = .ok (.aload_n 1, 1) := by decide +kernel
theorem dX3_copyFrom_45 : decode cX3_copyFrom 45 = .ok (.getfield 18, 3) := by decide +kernel
theorem dX3_copyFrom_48 : decode cX3_copyFrom 48 = .ok (.iload_n 2, 1) := by decide +kernel
theorem dX3_copyFrom_49 : decode cX3_copyFrom 49 = .ok (.iaload, 1) := by decide +kernel
theorem dX3_copyFrom_50 : decode cX3_copyFrom 50 = .ok (.iastore, 1) := by decide +kernel
theorem dX3_copyFrom_51 : decode cX3_copyFrom 51 = .ok (.iinc 2 1, 3) := by decide +kernel
theorem dX3_copyFrom_54 : decode cX3_copyFrom 54 = .ok (.goto (-44), 3) := by decide +kernel
theorem dX3_copyFrom_57 : decode cX3_copyFrom 57 = .ok (.return_, 1) := by decide +kernel
theorem dX3_hasLetter_0 : decode cX3_hasLetter 0 = .ok (.iload_n 1, 1) := by decide +kernel
theorem dX3_hasLetter_1 : decode cX3_hasLetter 1 = .ok (.ifCond .lt 15, 3) := by decide +kernel
theorem dX3_hasLetter_4 : decode cX3_hasLetter 4 = .ok (.iload_n 1, 1) := by decide +kernel
theorem dX3_hasLetter_5 : decode cX3_hasLetter 5 = .ok (.aload_n 0, 1) := by decide +kernel
theorem dX3_hasLetter_6 : decode cX3_hasLetter 6 = .ok (.getfield 34, 3) := by decide +kernel
theorem dX3_hasLetter_9 : decode cX3_hasLetter 9 = .ok (.if_icmp .ge 7, 3) := by decide +kernel
theorem dX3_hasLetter_12 : decode cX3_hasLetter 12 = .ok (.iconst 1, 1) := by decide +kernel
theorem dX3_hasLetter_13 : decode cX3_hasLetter 13 = .ok (.goto 4, 3) := by decide +kernel
theorem dX3_hasLetter_16 : decode cX3_hasLetter 16 = .ok (.iconst 0, 1) := by decide +kernel
theorem dX3_hasLetter_17 : decode cX3_hasLetter 17 = .ok (.ireturn, 1) := by decide +kernel
theorem dX3_hasPoint_0 : decode cX3_hasPoint 0 = .ok (.iload_n 1, 1) := by decide +kernel
theorem dX3_hasPoint_1 : decode cX3_hasPoint 1 = .ok (.ifCond .lt 15, 3) := by decide +kernel
theorem dX3_hasPoint_4 : decode cX3_hasPoint 4 = .ok (.iload_n 1, 1) := by decide +kernel
theorem dX3_hasPoint_5 : decode cX3_hasPoint 5 = .ok (.aload_n 0, 1) := by decide +kernel
theorem dX3_hasPoint_6 : decode cX3_hasPoint 6 = .ok (.invokevirtual 38, 3) := by decide +kernel
theorem dX3_hasPoint_9 : decode cX3_hasPoint 9 = .ok (.if_icmp .ge 7, 3) := by decide +kernel
theorem dX3_hasPoint_12 : decode cX3_hasPoint 12 = .ok (.iconst 1, 1) := by decide +kernel
theorem dX3_hasPoint_13 : decode cX3_hasPoint 13 = .ok (.goto 4, 3) := by decide +kernel
theorem dX3_hasPoint_16 : decode cX3_hasPoint 16 = .ok (.iconst 0, 1) := by decide +kernel
theorem dX3_hasPoint_17 : decode cX3_hasPoint 17 = .ok (.ireturn, 1) := by decide +kernel
theorem dX3_points_0 : decode cX3_points 0 = .ok (.iconst 0, 1) := by decide +kernel
theorem dX3_points_1 : decode cX3_points 1 = .ok (.istore_n 1, 1) := by decide +kernel
theorem dX3_points_2 : decode cX3_points 2 = .ok (.iconst 0, 1) := by decide +kernel
theorem dX3_points_3 : decode cX3_points 3 = .ok (.istore_n 2, 1) := by decide +kernel
theorem dX3_points_4 : decode cX3_points 4 = .ok (.iload_n 2, 1) := by decide +kernel
theorem dX3_points_5 : decode cX3_points 5 = .ok (.aload_n 0, 1) := by decide +kernel
theorem dX3_points_6 : decode cX3_points 6 = .ok (.getfield 34, 3) := by decide +kernel
theorem dX3_points_9 : decode cX3_points 9 = .ok (.if_icmp .ge 18, 3) := by decide +kernel
theorem dX3_points_12 : decode cX3_points 12 = .ok (.iload_n 1, 1) := by decide +kernel
theorem dX3_points_13 : decode cX3_points 13 = .ok (.aload_n 0, 1) := by decide +kernel
theorem dX3_points_14 : decode cX3_points 14 = .ok (.getfield 18, 3) := by decide +kernel
theorem dX3_points_17 : decode cX3_points 17 = .ok (.iload_n 2, 1) := by decide +kernel
theorem dX3_points_18 : decode cX3_points 18 = .ok (.iaload, 1) := by decide +kernel
theorem dX3_points_19 : decode cX3_points 19 = .ok (.iadd, 1) := by decide +kernel
theorem dX3_points_20 : decode cX3_points 20 = .ok (.istore_n 1, 1) := by decide +kernel
theorem dX3_points_21 : decode cX3_points 21 = .ok (.iinc 2 1, 3) := by decide +kernel
theorem dX3_points_24 : decode cX3_points 24 = .ok (.goto (-20), 3) := by decide +kernel
theorem dX3_points_27 : decode cX3_points 27 = .ok (.iload_n 1, 1) := by decide +kernel
theorem dX3_points_28 : decode cX3_points 28 = .ok (.ireturn, 1) := by decide +kernel
theorem dX3_isCode_0 : decode cX3_isCode 0 = .ok (.iload_n 0, 1) := by decide +kernel
theorem dX3_isCode_1 : decode cX3_isCode 1 = .ok (.istore_n 2, 1) := by decide +kernel
theorem dX3_isCode_2 : decode cX3_isCode 2 = .ok (.iconst 0, 1) := by decide +kernel
theorem dX3_isCode_3 : decode cX3_isCode 3 = .ok (.istore_n 3, 1) := by decide +kernel
theorem dX3_isCode_4 : decode cX3_isCode 4 = .ok (.iconst 0, 1) := by decide +kernel
theorem dX3_isCode_5 : decode cX3_isCode 5 = .ok (.istore 4, 2) := by decide +kernel
theorem dX3_isCode_7 : decode cX3_isCode 7 = .ok (.iload 4, 2) := by decide +kernel
theorem dX3_isCode_9 : decode cX3_isCode 9 = .ok (.iload_n 1, 1) := by decide +kernel
theorem dX3_isCode_10 : decode cX3_isCode 10 = .ok (.if_icmp .ge 41, 3) := by decide +kernel
theorem dX3_isCode_13 : decode cX3_isCode 13 = .ok (.iload_n 2, 1) := by decide +kernel
theorem dX3_isCode_14 : decode cX3_isCode 14 = .ok (.bipush 10, 2) := by decide +kernel
theorem dX3_isCode_16 : decode cX3_isCode 16 = .ok (.irem, 1) := by decide +kernel
theorem dX3_isCode_17 : decode cX3_isCode 17 = .ok (.istore 5, 2) := by decide +kernel
theorem dX3_isCode_19 : decode cX3_isCode 19 = .ok (.iload 5, 2) := by decide +kernel
theorem dX3_isCode_21 : decode cX3_isCode 21 = .ok (.iconst 1, 1) := by decide +kernel
theorem dX3_isCode_22 : decode cX3_isCode 22 = .ok (.if_icmp .lt 9, 3) := by decide +kernel
theorem dX3_isCode_25 : decode cX3_isCode 25 = .ok (.iload 5, 2) := by decide +kernel
theorem dX3_isCode_27 : decode cX3_isCode 27 = .ok (.iload_n 1, 1) := by decide +kernel
theorem dX3_isCode_28 : decode cX3_isCode 28 = .ok (.if_icmp .le 5, 3) := by decide +kernel
theorem dX3_isCode_31 : decode cX3_isCode 31 = .ok (.iconst 0, 1) := by decide +kernel
theorem dX3_isCode_32 : decode cX3_isCode 32 = .ok (.ireturn, 1) := by decide +kernel
theorem dX3_isCode_33 : decode cX3_isCode 33 = .ok (.iload_n 3, 1) := by decide +kernel
theorem dX3_isCode_34 : decode cX3_isCode 34 = .ok (.iconst 1, 1) := by decide +kernel
theorem dX3_isCode_35 : decode cX3_isCode 35 = .ok (.iload 5, 2) := by decide +kernel
theorem dX3_isCode_37 : decode cX3_isCode 37 = .ok (.ishl, 1) := by decide +kernel
theorem dX3_isCode_38 : decode cX3_isCode 38 = .ok (.ior, 1) := by decide +kernel
theorem dX3_isCode_39 : decode cX3_isCode 39 = .ok (.istore_n 3, 1) := by decide +kernel
theorem dX3_isCode_40 : decode cX3_isCode 40 = .ok (.iload_n 2, 1) := by decide +kernel
theorem dX3_isCode_41 : decode cX3_isCode 41 = .ok (.bipush 10, 2) := by decide +kernel
theorem dX3_isCode_43 : decode cX3_isCode 43 = .ok (.idiv, 1) := by decide +kernel
theorem dX3_isCode_44 : decode cX3_isCode 44 = .ok (.istore_n 2, 1) := by decide +kernel
theorem dX3_isCode_45 : decode cX3_isCode 45 = .ok (.iinc 4 1, 3) := by decide +kernel
theorem dX3_isCode_48 : decode cX3_isCode 48 = .ok (.goto (-41), 3) := by decide +kernel
theorem dX3_isCode_51 : decode cX3_isCode 51 = .ok (.iload_n 2, 1) := by decide +kernel
theorem dX3_isCode_52 : decode cX3_isCode 52 = .ok (.ifCond .ne 18, 3) := by decide +kernel
theorem dX3_isCode_55 : decode cX3_isCode 55 = .ok (.iload_n 3, 1) := by decide +kernel
theorem dX3_isCode_56 : decode cX3_isCode 56 = .ok (.iconst 1, 1) := by decide +kernel
theorem dX3_isCode_57 : decode cX3_isCode 57 = .ok (.iload_n 1, 1) := by decide +kernel
theorem dX3_isCode_58 : decode cX3_isCode 58 = .ok (.iconst 1, 1) := by decide +kernel
theorem dX3_isCode_59 : decode cX3_isCode 59 = .ok (.iadd, 1) := by decide +kernel
theorem dX3_isCode_60 : decode cX3_isCode 60 = .ok (.ishl, 1) := by decide +kernel
theorem dX3_isCode_61 : decode cX3_isCode 61 = .ok (.iconst 2, 1) := by decide +kernel
theorem dX3_isCode_62 : decode cX3_isCode 62 = .ok (.isub, 1) := by decide +kernel
theorem dX3_isCode_63 : decode cX3_isCode 63 = .ok (.if_icmp .ne 7, 3) := by decide +kernel
theorem dX3_isCode_66 : decode cX3_isCode 66 = .ok (.iconst 1, 1) := by decide +kernel
theorem dX3_isCode_67 : decode cX3_isCode 67 = .ok (.goto 4, 3) := by decide +kernel
theorem dX3_isCode_70 : decode cX3_isCode 70 = .ok (.iconst 0, 1) := by decide +kernel
theorem dX3_isCode_71 : decode cX3_isCode 71 = .ok (.ireturn, 1) := by decide +kernel
theorem dX3_layCode_0 : decode cX3_layCode 0 = .ok (.iload_n 1, 1) := by decide +kernel
theorem dX3_layCode_1 : decode cX3_layCode 1 = .ok (.istore_n 2, 1) := by decide +kernel
theorem dX3_layCode_2 : decode cX3_layCode 2 = .ok (.aload_n 0, 1) := by decide +kernel
theorem dX3_layCode_3 : decode cX3_layCode 3 = .ok (.getfield 34, 3) := by decide +kernel
theorem dX3_layCode_6 : decode cX3_layCode 6 = .ok (.iconst 1, 1) := by decide +kernel
theorem dX3_layCode_7 : decode cX3_layCode 7 = .ok (.isub, 1) := by decide +kernel
theorem dX3_layCode_8 : decode cX3_layCode 8 = .ok (.istore_n 3, 1) := by decide +kernel
theorem dX3_layCode_9 : decode cX3_layCode 9 = .ok (.iload_n 3, 1) := by decide +kernel
theorem dX3_layCode_10 : decode cX3_layCode 10 = .ok (.ifCond .lt 33, 3) := by decide +kernel
theorem dX3_layCode_13 : decode cX3_layCode 13 = .ok (.aload_n 0, 1) := by decide +kernel
theorem dX3_layCode_14 : decode cX3_layCode 14 = .ok (.getfield 9, 3) := by decide +kernel
theorem dX3_layCode_17 : decode cX3_layCode 17 = .ok (.iload_n 3, 1) := by decide +kernel
theorem dX3_layCode_18 : decode cX3_layCode 18 = .ok (.iload_n 3, 1) := by decide +kernel
theorem dX3_layCode_19 : decode cX3_layCode 19 = .ok (.iastore, 1) := by decide +kernel
theorem dX3_layCode_20 : decode cX3_layCode 20 = .ok (.aload_n 0, 1) := by decide +kernel
theorem dX3_layCode_21 : decode cX3_layCode 21 = .ok (.getfield 15, 3) := by decide +kernel
theorem dX3_layCode_24 : decode cX3_layCode 24 = .ok (.iload_n 3, 1) := by decide +kernel
theorem dX3_layCode_25 : decode cX3_layCode 25 = .ok (.iload_n 2, 1) := by decide +kernel
theorem dX3_layCode_26 : decode cX3_layCode 26 = .ok (.bipush 10, 2) := by decide +kernel
theorem dX3_layCode_28 : decode cX3_layCode 28 = .ok (.irem, 1) := by decide +kernel
theorem dX3_layCode_29 : decode cX3_layCode 29 = .ok (.iconst 1, 1) := by decide +kernel
theorem dX3_layCode_30 : decode cX3_layCode 30 = .ok (.isub, 1) := by decide +kernel
theorem dX3_layCode_31 : decode cX3_layCode 31 = .ok (.iastore, 1) := by decide +kernel
theorem dX3_layCode_32 : decode cX3_layCode 32 = .ok (.iload_n 2, 1) := by decide +kernel
theorem dX3_layCode_33 : decode cX3_layCode 33 = .ok (.bipush 10, 2) := by decide +kernel
theorem dX3_layCode_35 : decode cX3_layCode 35 = .ok (.idiv, 1) := by decide +kernel
theorem dX3_layCode_36 : decode cX3_layCode 36 = .ok (.istore_n 2, 1) := by decide +kernel
theorem dX3_layCode_37 : decode cX3_layCode 37 = .ok (.iinc 3 (-1), 3) := by decide +kernel
theorem dX3_layCode_40 : decode cX3_layCode 40 = .ok (.goto (-31), 3) := by decide +kernel
theorem dX3_layCode_43 : decode cX3_layCode 43 = .ok (.return_, 1) := by decide +kernel
theorem dX3_codeNow_0 : decode cX3_codeNow 0 = .ok (.iconst 0, 1) := by decide +kernel
theorem dX3_codeNow_1 : decode cX3_codeNow 1 = .ok (.istore_n 1, 1) := by decide +kernel
theorem dX3_codeNow_2 : decode cX3_codeNow 2 = .ok (.iconst 0, 1) := by decide +kernel
theorem dX3_codeNow_3 : decode cX3_codeNow 3 = .ok (.istore_n 2, 1) := by decide +kernel
theorem dX3_codeNow_4 : decode cX3_codeNow 4 = .ok (.iload_n 2, 1) := by decide +kernel
theorem dX3_codeNow_5 : decode cX3_codeNow 5 = .ok (.aload_n 0, 1) := by decide +kernel
theorem dX3_codeNow_6 : decode cX3_codeNow 6 = .ok (.getfield 34, 3) := by decide +kernel
theorem dX3_codeNow_9 : decode cX3_codeNow 9 = .ok (.if_icmp .ge 31, 3) := by decide +kernel
theorem dX3_codeNow_12 : decode cX3_codeNow 12 = .ok (.iload_n 1, 1) := by decide +kernel
theorem dX3_codeNow_13 : decode cX3_codeNow 13 = .ok (.bipush 10, 2) := by decide +kernel
theorem dX3_codeNow_15 : decode cX3_codeNow 15 = .ok (.imul, 1) := by decide +kernel
theorem dX3_codeNow_16 : decode cX3_codeNow 16 = .ok (.aload_n 0, 1) := by decide +kernel
theorem dX3_codeNow_17 : decode cX3_codeNow 17 = .ok (.aload_n 0, 1) := by decide +kernel
theorem dX3_codeNow_18 : decode cX3_codeNow 18 = .ok (.getfield 9, 3) := by decide +kernel
theorem dX3_codeNow_21 : decode cX3_codeNow 21 = .ok (.aload_n 0, 1) := by decide +kernel
theorem dX3_codeNow_22 : decode cX3_codeNow 22 = .ok (.getfield 15, 3) := by decide +kernel
theorem dX3_codeNow_25 : decode cX3_codeNow 25 = .ok (.iload_n 2, 1) := by decide +kernel
theorem dX3_codeNow_26 : decode cX3_codeNow 26 = .ok (.iaload, 1) := by decide +kernel
theorem dX3_codeNow_27 : decode cX3_codeNow 27 = .ok (.invokevirtual 42, 3) := by decide +kernel
theorem dX3_codeNow_30 : decode cX3_codeNow 30 = .ok (.iadd, 1) := by decide +kernel
theorem dX3_codeNow_31 : decode cX3_codeNow 31 = .ok (.iconst 1, 1) := by decide +kernel
theorem dX3_codeNow_32 : decode cX3_codeNow 32 = .ok (.iadd, 1) := by decide +kernel
theorem dX3_codeNow_33 : decode cX3_codeNow 33 = .ok (.istore_n 1, 1) := by decide +kernel
theorem dX3_codeNow_34 : decode cX3_codeNow 34 = .ok (.iinc 2 1, 3) := by decide +kernel
theorem dX3_codeNow_37 : decode cX3_codeNow 37 = .ok (.goto (-33), 3) := by decide +kernel
theorem dX3_codeNow_40 : decode cX3_codeNow 40 = .ok (.iload_n 1, 1) := by decide +kernel
theorem dX3_codeNow_41 : decode cX3_codeNow 41 = .ok (.ireturn, 1) := by decide +kernel
theorem dX3_placeIn_0 : decode cX3_placeIn 0 = .ok (.iconst 0, 1) := by decide +kernel
theorem dX3_placeIn_1 : decode cX3_placeIn 1 = .ok (.istore_n 3, 1) := by decide +kernel
theorem dX3_placeIn_2 : decode cX3_placeIn 2 = .ok (.iload_n 3, 1) := by decide +kernel
theorem dX3_placeIn_3 : decode cX3_placeIn 3 = .ok (.aload_n 0, 1) := by decide +kernel
theorem dX3_placeIn_4 : decode cX3_placeIn 4 = .ok (.getfield 34, 3) := by decide +kernel
theorem dX3_placeIn_7 : decode cX3_placeIn 7 = .ok (.if_icmp .ge 18, 3) := by decide +kernel
theorem dX3_placeIn_10 : decode cX3_placeIn 10 = .ok (.aload_n 1, 1) := by decide +kernel
theorem dX3_placeIn_11 : decode cX3_placeIn 11 = .ok (.iload_n 3, 1) := by decide +kernel
theorem dX3_placeIn_12 : decode cX3_placeIn 12 = .ok (.iaload, 1) := by decide +kernel
theorem dX3_placeIn_13 : decode cX3_placeIn 13 = .ok (.iload_n 2, 1) := by decide +kernel
theorem dX3_placeIn_14 : decode cX3_placeIn 14 = .ok (.if_icmp .ne 5, 3) := by decide +kernel
theorem dX3_placeIn_17 : decode cX3_placeIn 17 = .ok (.iload_n 3, 1) := by decide +kernel
theorem dX3_placeIn_18 : decode cX3_placeIn 18 = .ok (.ireturn, 1) := by decide +kernel
theorem dX3_placeIn_19 : decode cX3_placeIn 19 = .ok (.iinc 3 1, 3) := by decide +kernel
theorem dX3_placeIn_22 : decode cX3_placeIn 22 = .ok (.goto (-20), 3) := by decide +kernel
theorem dX3_placeIn_25 : decode cX3_placeIn 25 = .ok (.iconst (-1), 1) := by decide +kernel
theorem dX3_placeIn_26 : decode cX3_placeIn 26 = .ok (.ireturn, 1) := by decide +kernel
theorem dX3_letterBehind_0 : decode cX3_letterBehind 0 = .ok (.aload_n 0, 1) := by decide +kernel
theorem dX3_letterBehind_1 : decode cX3_letterBehind 1 = .ok (.aload_n 1, 1) := by decide +kernel
theorem dX3_letterBehind_2 : decode cX3_letterBehind 2 = .ok (.iload_n 2, 1) := by decide +kernel
theorem dX3_letterBehind_3 : decode cX3_letterBehind 3 = .ok (.invokevirtual 42, 3) := by decide +kernel
theorem dX3_letterBehind_6 : decode cX3_letterBehind 6 = .ok (.istore_n 3, 1) := by decide +kernel
theorem dX3_letterBehind_7 : decode cX3_letterBehind 7 = .ok (.iload_n 3, 1) := by decide +kernel
theorem dX3_letterBehind_8 : decode cX3_letterBehind 8 = .ok (.ifCond .lt 21, 3) := by decide +kernel
theorem dX3_letterBehind_11 : decode cX3_letterBehind 11 = .ok (.iload_n 3, 1) := by decide +kernel
theorem dX3_letterBehind_12 : decode cX3_letterBehind 12 = .ok (.aload_n 0, 1) := by decide +kernel
theorem dX3_letterBehind_13 : decode cX3_letterBehind 13 = .ok (.getfield 34, 3) := by decide +kernel
theorem dX3_letterBehind_16 : decode cX3_letterBehind 16 = .ok (.iconst 1, 1) := by decide +kernel
theorem dX3_letterBehind_17 : decode cX3_letterBehind 17 = .ok (.isub, 1) := by decide +kernel
theorem dX3_letterBehind_18 : decode cX3_letterBehind 18 = .ok (.if_icmp .ge 11, 3) := by decide +kernel
theorem dX3_letterBehind_21 : decode cX3_letterBehind 21 = .ok (.aload_n 1, 1) := by decide +kernel
theorem dX3_letterBehind_22 : decode cX3_letterBehind 22 = .ok (.iload_n 3, 1) := by decide +kernel
theorem dX3_letterBehind_23 : decode cX3_letterBehind 23 = .ok (.iconst 1, 1) := by decide +kernel
theorem dX3_letterBehind_24 : decode cX3_letterBehind 24 = .ok (.iadd, 1) := by decide +kernel
theorem dX3_letterBehind_25 : decode cX3_letterBehind 25 = .ok (.iaload, 1) := by decide +kernel
theorem dX3_letterBehind_26 : decode cX3_letterBehind 26 = .ok (.goto 4, 3) := by decide +kernel
theorem dX3_letterBehind_29 : decode cX3_letterBehind 29 = .ok (.iconst (-1), 1) := by decide +kernel
theorem dX3_letterBehind_30 : decode cX3_letterBehind 30 = .ok (.ireturn, 1) := by decide +kernel
theorem dX3_swapInBottom_0 : decode cX3_swapInBottom 0 = .ok (.iconst 0, 1) := by decide +kernel
theorem dX3_swapInBottom_1 : decode cX3_swapInBottom 1 = .ok (.istore_n 3, 1) := by decide +kernel
theorem dX3_swapInBottom_2 : decode cX3_swapInBottom 2 = .ok (.iload_n 3, 1) := by decide +kernel
theorem dX3_swapInBottom_3 : decode cX3_swapInBottom 3 = .ok (.aload_n 0, 1) := by decide +kernel
theorem dX3_swapInBottom_4 : decode cX3_swapInBottom 4 = .ok (.getfield 34, 3) := by decide +kernel
theorem dX3_swapInBottom_7 : decode cX3_swapInBottom 7 = .ok (.if_icmp .ge 46, 3) := by decide +kernel
theorem dX3_swapInBottom_10 : decode cX3_swapInBottom 10 = .ok (.aload_n 0, 1) := by decide +kernel
theorem dX3_swapInBottom_11 : decode cX3_swapInBottom 11 = .ok (.getfield 15, 3) := by decide +kernel
theorem dX3_swapInBottom_14 : decode cX3_swapInBottom 14 = .ok (.iload_n 3, 1) := by decide +kernel
theorem dX3_swapInBottom_15 : decode cX3_swapInBottom 15 = .ok (.iaload, 1) := by decide +kernel
theorem dX3_swapInBottom_16 : decode cX3_swapInBottom 16 = .ok (.iload_n 1, 1) := by decide +kernel
theorem dX3_swapInBottom_17 : decode cX3_swapInBottom 17 = .ok (.if_icmp .ne 13, 3) := by decide +kernel
theorem dX3_swapInBottom_20 : decode cX3_swapInBottom 20 = .ok (.aload_n 0, 1) := by decide +kernel
theorem dX3_swapInBottom_21 : decode cX3_swapInBottom 21 = .ok (.getfield 15, 3) := by decide +kernel
theorem dX3_swapInBottom_24 : decode cX3_swapInBottom 24 = .ok (.iload_n 3, 1) := by decide +kernel
theorem dX3_swapInBottom_25 : decode cX3_swapInBottom 25 = .ok (.iload_n 2, 1) := by decide +kernel
theorem dX3_swapInBottom_26 : decode cX3_swapInBottom 26 = .ok (.iastore, 1) := by decide +kernel
theorem dX3_swapInBottom_27 : decode cX3_swapInBottom 27 = .ok (.goto 20, 3) := by decide +kernel
theorem dX3_swapInBottom_30 : decode cX3_swapInBottom 30 = .ok (.aload_n 0, 1) := by decide +kernel
theorem dX3_swapInBottom_31 : decode cX3_swapInBottom 31 = .ok (.getfield 15, 3) := by decide +kernel
theorem dX3_swapInBottom_34 : decode cX3_swapInBottom 34 = .ok (.iload_n 3, 1) := by decide +kernel
theorem dX3_swapInBottom_35 : decode cX3_swapInBottom 35 = .ok (.iaload, 1) := by decide +kernel
theorem dX3_swapInBottom_36 : decode cX3_swapInBottom 36 = .ok (.iload_n 2, 1) := by decide +kernel
theorem dX3_swapInBottom_37 : decode cX3_swapInBottom 37 = .ok (.if_icmp .ne 10, 3) := by decide +kernel
theorem dX3_swapInBottom_40 : decode cX3_swapInBottom 40 = .ok (.aload_n 0, 1) := by decide +kernel
theorem dX3_swapInBottom_41 : decode cX3_swapInBottom 41 = .ok (.getfield 15, 3) := by decide +kernel
theorem dX3_swapInBottom_44 : decode cX3_swapInBottom 44 = .ok (.iload_n 3, 1) := by decide +kernel
theorem dX3_swapInBottom_45 : decode cX3_swapInBottom 45 = .ok (.iload_n 1, 1) := by decide +kernel
theorem dX3_swapInBottom_46 : decode cX3_swapInBottom 46 = .ok (.iastore, 1) := by decide +kernel
theorem dX3_swapInBottom_47 : decode cX3_swapInBottom 47 = .ok (.iinc 3 1, 3) := by decide +kernel
theorem dX3_swapInBottom_50 : decode cX3_swapInBottom 50 = .ok (.goto (-48), 3) := by decide +kernel
theorem dX3_swapInBottom_53 : decode cX3_swapInBottom 53 = .ok (.return_, 1) := by decide +kernel
theorem dX3_isWhole_0 : decode cX3_isWhole 0 = .ok (.iconst 0, 1) := by decide +kernel
theorem dX3_isWhole_1 : decode cX3_isWhole 1 = .ok (.istore_n 1, 1) := by decide +kernel
theorem dX3_isWhole_2 : decode cX3_isWhole 2 = .ok (.iconst 0, 1) := by decide +kernel
theorem dX3_isWhole_3 : decode cX3_isWhole 3 = .ok (.istore_n 2, 1) := by decide +kernel
theorem dX3_isWhole_4 : decode cX3_isWhole 4 = .ok (.iconst 0, 1) := by decide +kernel
theorem dX3_isWhole_5 : decode cX3_isWhole 5 = .ok (.istore_n 3, 1) := by decide +kernel
theorem dX3_isWhole_6 : decode cX3_isWhole 6 = .ok (.iload_n 3, 1) := by decide +kernel
theorem dX3_isWhole_7 : decode cX3_isWhole 7 = .ok (.aload_n 0, 1) := by decide +kernel
theorem dX3_isWhole_8 : decode cX3_isWhole 8 = .ok (.getfield 34, 3) := by decide +kernel
theorem dX3_isWhole_11 : decode cX3_isWhole 11 = .ok (.iconst 1, 1) := by decide +kernel
theorem dX3_isWhole_12 : decode cX3_isWhole 12 = .ok (.isub, 1) := by decide +kernel
theorem dX3_isWhole_13 : decode cX3_isWhole 13 = .ok (.if_icmp .ge 38, 3) := by decide +kernel
theorem dX3_isWhole_16 : decode cX3_isWhole 16 = .ok (.iload_n 1, 1) := by decide +kernel
theorem dX3_isWhole_17 : decode cX3_isWhole 17 = .ok (.iconst 1, 1) := by decide +kernel
theorem dX3_isWhole_18 : decode cX3_isWhole 18 = .ok (.aload_n 0, 1) := by decide +kernel
theorem dX3_isWhole_19 : decode cX3_isWhole 19 = .ok (.getfield 9, 3) := by decide +kernel
theorem dX3_isWhole_22 : decode cX3_isWhole 22 = .ok (.iload_n 3, 1) := by decide +kernel
theorem dX3_isWhole_23 : decode cX3_isWhole 23 = .ok (.iaload, 1) := by decide +kernel
theorem dX3_isWhole_24 : decode cX3_isWhole 24 = .ok (.ishl, 1) := by decide +kernel
theorem dX3_isWhole_25 : decode cX3_isWhole 25 = .ok (.ior, 1) := by decide +kernel
theorem dX3_isWhole_26 : decode cX3_isWhole 26 = .ok (.istore_n 1, 1) := by decide +kernel
theorem dX3_isWhole_27 : decode cX3_isWhole 27 = .ok (.iload_n 2, 1) := by decide +kernel
theorem dX3_isWhole_28 : decode cX3_isWhole 28 = .ok (.iconst 1, 1) := by decide +kernel
theorem dX3_isWhole_29 : decode cX3_isWhole 29 = .ok (.aload_n 0, 1) := by decide +kernel
theorem dX3_isWhole_30 : decode cX3_isWhole 30 = .ok (.getfield 15, 3) := by decide +kernel
theorem dX3_isWhole_33 : decode cX3_isWhole 33 = .ok (.iload_n 3, 1) := by decide +kernel
theorem dX3_isWhole_34 : decode cX3_isWhole 34 = .ok (.iaload, 1) := by decide +kernel
theorem dX3_isWhole_35 : decode cX3_isWhole 35 = .ok (.ishl, 1) := by decide +kernel
theorem dX3_isWhole_36 : decode cX3_isWhole 36 = .ok (.ior, 1) := by decide +kernel
theorem dX3_isWhole_37 : decode cX3_isWhole 37 = .ok (.istore_n 2, 1) := by decide +kernel
theorem dX3_isWhole_38 : decode cX3_isWhole 38 = .ok (.iload_n 1, 1) := by decide +kernel
theorem dX3_isWhole_39 : decode cX3_isWhole 39 = .ok (.iload_n 2, 1) := by decide +kernel
theorem dX3_isWhole_40 : decode cX3_isWhole 40 = .ok (.if_icmp .ne 5, 3) := by decide +kernel
theorem dX3_isWhole_43 : decode cX3_isWhole 43 = .ok (.iconst 0, 1) := by decide +kernel
theorem dX3_isWhole_44 : decode cX3_isWhole 44 = .ok (.ireturn, 1) := by decide +kernel
theorem dX3_isWhole_45 : decode cX3_isWhole 45 = .ok (.iinc 3 1, 3) := by decide +kernel
theorem dX3_isWhole_48 : decode cX3_isWhole 48 = .ok (.goto (-42), 3) := by decide +kernel
theorem dX3_isWhole_51 : decode cX3_isWhole 51 = .ok (.iconst 1, 1) := by decide +kernel
theorem dX3_isWhole_52 : decode cX3_isWhole 52 = .ok (.ireturn, 1) := by decide +kernel
theorem dX3_stayingRow_0 : decode cX3_stayingRow 0 = .ok (.iload_n 1, 1) := by decide +kernel
theorem dX3_stayingRow_1 : decode cX3_stayingRow 1 = .ok (.ifCond .ne 10, 3) := by decide +kernel
theorem dX3_stayingRow_4 : decode cX3_stayingRow 4 = .ok (.aload_n 0, 1) := by decide +kernel
theorem dX3_stayingRow_5 : decode cX3_stayingRow 5 = .ok (.getfield 9, 3) := by decide +kernel
theorem dX3_stayingRow_8 : decode cX3_stayingRow 8 = .ok (.goto 7, 3) := by decide +kernel
theorem dX3_stayingRow_11 : decode cX3_stayingRow 11 = .ok (.aload_n 0, 1) := by decide +kernel
theorem dX3_stayingRow_12 : decode cX3_stayingRow 12 = .ok (.getfield 15, 3) := by decide +kernel
theorem dX3_stayingRow_15 : decode cX3_stayingRow 15 = .ok (.areturn, 1) := by decide +kernel
theorem dX3_movingRow_0 : decode cX3_movingRow 0 = .ok (.iload_n 1, 1) := by decide +kernel
theorem dX3_movingRow_1 : decode cX3_movingRow 1 = .ok (.ifCond .ne 10, 3) := by decide +kernel
theorem dX3_movingRow_4 : decode cX3_movingRow 4 = .ok (.aload_n 0, 1) := by decide +kernel
theorem dX3_movingRow_5 : decode cX3_movingRow 5 = .ok (.getfield 15, 3) := by decide +kernel
theorem dX3_movingRow_8 : decode cX3_movingRow 8 = .ok (.goto 7, 3) := by decide +kernel
theorem dX3_movingRow_11 : decode cX3_movingRow 11 = .ok (.aload_n 0, 1) := by decide +kernel
theorem dX3_movingRow_12 : decode cX3_movingRow 12 = .ok (.getfield 9, 3) := by decide +kernel
theorem dX3_movingRow_15 : decode cX3_movingRow 15 = .ok (.areturn, 1) := by decide +kernel
theorem dX3_endsAlike_0 : decode cX3_endsAlike 0 = .ok (.aload_n 0, 1) := by decide +kernel
theorem dX3_endsAlike_1 : decode cX3_endsAlike 1 = .ok (.getfield 9, 3) := by decide +kernel
theorem dX3_endsAlike_4 : decode cX3_endsAlike 4 = .ok (.aload_n 0, 1) := by decide +kernel
theorem dX3_endsAlike_5 : decode cX3_endsAlike 5 = .ok (.getfield 34, 3) := by decide +kernel
theorem dX3_endsAlike_8 : decode cX3_endsAlike 8 = .ok (.iconst 1, 1) := by decide +kernel
theorem dX3_endsAlike_9 : decode cX3_endsAlike 9 = .ok (.isub, 1) := by decide +kernel
theorem dX3_endsAlike_10 : decode cX3_endsAlike 10 = .ok (.iaload, 1) := by decide +kernel
theorem dX3_endsAlike_11 : decode cX3_endsAlike 11 = .ok (.aload_n 0, 1) := by decide +kernel
theorem dX3_endsAlike_12 : decode cX3_endsAlike 12 = .ok (.getfield 15, 3) := by decide +kernel
theorem dX3_endsAlike_15 : decode cX3_endsAlike 15 = .ok (.aload_n 0, 1) := by decide +kernel
theorem dX3_endsAlike_16 : decode cX3_endsAlike 16 = .ok (.getfield 34, 3) := by decide +kernel
theorem dX3_endsAlike_19 : decode cX3_endsAlike 19 = .ok (.iconst 1, 1) := by decide +kernel
theorem dX3_endsAlike_20 : decode cX3_endsAlike 20 = .ok (.isub, 1) := by decide +kernel
theorem dX3_endsAlike_21 : decode cX3_endsAlike 21 = .ok (.iaload, 1) := by decide +kernel
theorem dX3_endsAlike_22 : decode cX3_endsAlike 22 = .ok (.if_icmp .ne 7, 3) := by decide +kernel
theorem dX3_endsAlike_25 : decode cX3_endsAlike 25 = .ok (.iconst 1, 1) := by decide +kernel
theorem dX3_endsAlike_26 : decode cX3_endsAlike 26 = .ok (.goto 4, 3) := by decide +kernel
theorem dX3_endsAlike_29 : decode cX3_endsAlike 29 = .ok (.iconst 0, 1) := by decide +kernel
theorem dX3_endsAlike_30 : decode cX3_endsAlike 30 = .ok (.ireturn, 1) := by decide +kernel
theorem dX3_kindOfStep_0 : decode cX3_kindOfStep 0 = .ok (.aload_n 0, 1) := by decide +kernel
theorem dX3_kindOfStep_1 : decode cX3_kindOfStep 1 = .ok (.getfield 18, 3) := by decide +kernel
theorem dX3_kindOfStep_4 : decode cX3_kindOfStep 4 = .ok (.aload_n 0, 1) := by decide +kernel
theorem dX3_kindOfStep_5 : decode cX3_kindOfStep 5 = .ok (.getfield 9, 3) := by decide +kernel
theorem dX3_kindOfStep_8 : decode cX3_kindOfStep 8 = .ok (.aload_n 0, 1) := by decide +kernel
theorem dX3_kindOfStep_9 : decode cX3_kindOfStep 9 = .ok (.getfield 34, 3) := by decide +kernel
theorem dX3_kindOfStep_12 : decode cX3_kindOfStep 12 = .ok (.iconst 1, 1) := by decide +kernel
theorem dX3_kindOfStep_13 : decode cX3_kindOfStep 13 = .ok (.isub, 1) := by decide +kernel
theorem dX3_kindOfStep_14 : decode cX3_kindOfStep 14 = .ok (.iaload, 1) := by decide +kernel
theorem dX3_kindOfStep_15 : decode cX3_kindOfStep 15 = .ok (.iaload, 1) := by decide +kernel
theorem dX3_kindOfStep_16 : decode cX3_kindOfStep 16 = .ok (.istore_n 1, 1) := by decide +kernel
theorem dX3_kindOfStep_17 : decode cX3_kindOfStep 17 = .ok (.aload_n 0, 1) := by decide +kernel
theorem dX3_kindOfStep_18 : decode cX3_kindOfStep 18 = .ok (.getfield 18, 3) := by decide +kernel
theorem dX3_kindOfStep_21 : decode cX3_kindOfStep 21 = .ok (.aload_n 0, 1) := by decide +kernel
theorem dX3_kindOfStep_22 : decode cX3_kindOfStep 22 = .ok (.getfield 15, 3) := by decide +kernel
theorem dX3_kindOfStep_25 : decode cX3_kindOfStep 25 = .ok (.aload_n 0, 1) := by decide +kernel
theorem dX3_kindOfStep_26 : decode cX3_kindOfStep 26 = .ok (.getfield 34, 3) := by decide +kernel
theorem dX3_kindOfStep_29 : decode cX3_kindOfStep 29 = .ok (.iconst 1, 1) := by decide +kernel
theorem dX3_kindOfStep_30 : decode cX3_kindOfStep 30 = .ok (.isub, 1) := by decide +kernel
theorem dX3_kindOfStep_31 : decode cX3_kindOfStep 31 = .ok (.iaload, 1) := by decide +kernel
theorem dX3_kindOfStep_32 : decode cX3_kindOfStep 32 = .ok (.iaload, 1) := by decide +kernel
theorem dX3_kindOfStep_33 : decode cX3_kindOfStep 33 = .ok (.istore_n 2, 1) := by decide +kernel
theorem dX3_kindOfStep_34 : decode cX3_kindOfStep 34 = .ok (.aload_n 0, 1) := by decide +kernel
theorem dX3_kindOfStep_35 : decode cX3_kindOfStep 35 = .ok (.invokevirtual 46, 3) := by decide +kernel
theorem dX3_kindOfStep_38 : decode cX3_kindOfStep 38 = .ok (.ifCond .ne 8, 3) := by decide +kernel
theorem dX3_kindOfStep_41 : decode cX3_kindOfStep 41 = .ok (.iload_n 1, 1) := by decide +kernel
theorem dX3_kindOfStep_42 : decode cX3_kindOfStep 42 = .ok (.iload_n 2, 1) := by decide +kernel
theorem dX3_kindOfStep_43 : decode cX3_kindOfStep 43 = .ok (.if_icmp .ne 5, 3) := by decide +kernel
theorem dX3_kindOfStep_46 : decode cX3_kindOfStep 46 = .ok (.iconst (-1), 1) := by decide +kernel
theorem dX3_kindOfStep_47 : decode cX3_kindOfStep 47 = .ok (.ireturn, 1) := by decide +kernel
theorem dX3_kindOfStep_48 : decode cX3_kindOfStep 48 = .ok (.iload_n 1, 1) := by decide +kernel
theorem dX3_kindOfStep_49 : decode cX3_kindOfStep 49 = .ok (.iload_n 2, 1) := by decide +kernel
theorem dX3_kindOfStep_50 : decode cX3_kindOfStep 50 = .ok (.if_icmp .le 7, 3) := by decide +kernel
theorem dX3_kindOfStep_53 : decode cX3_kindOfStep 53 = .ok (.iconst 0, 1) := by decide +kernel
theorem dX3_kindOfStep_54 : decode cX3_kindOfStep 54 = .ok (.goto 4, 3) := by decide +kernel
theorem dX3_kindOfStep_57 : decode cX3_kindOfStep 57 = .ok (.iconst 1, 1) := by decide +kernel
theorem dX3_kindOfStep_58 : decode cX3_kindOfStep 58 = .ok (.ireturn, 1) := by decide +kernel
theorem dX3_goStep_0 : decode cX3_goStep 0 = .ok (.aload_n 0, 1) := by decide +kernel
theorem dX3_goStep_1 : decode cX3_goStep 1 = .ok (.iload_n 1, 1) := by decide +kernel
theorem dX3_goStep_2 : decode cX3_goStep 2 = .ok (.invokevirtual 50, 3) := by decide +kernel
theorem dX3_goStep_5 : decode cX3_goStep 5 = .ok (.aload_n 0, 1) := by decide +kernel
theorem dX3_goStep_6 : decode cX3_goStep 6 = .ok (.getfield 34, 3) := by decide +kernel
theorem dX3_goStep_9 : decode cX3_goStep 9 = .ok (.iconst 1, 1) := by decide +kernel
theorem dX3_goStep_10 : decode cX3_goStep 10 = .ok (.isub, 1) := by decide +kernel
theorem dX3_goStep_11 : decode cX3_goStep 11 = .ok (.iaload, 1) := by decide +kernel
theorem dX3_goStep_12 : decode cX3_goStep 12 = .ok (.istore_n 2, 1) := by decide +kernel
theorem dX3_goStep_13 : decode cX3_goStep 13 = .ok (.aload_n 0, 1) := by decide +kernel
theorem dX3_goStep_14 : decode cX3_goStep 14 = .ok (.iload_n 1, 1) := by decide +kernel
theorem dX3_goStep_15 : decode cX3_goStep 15 = .ok (.invokevirtual 54, 3) := by decide +kernel
theorem dX3_goStep_18 : decode cX3_goStep 18 = .ok (.aload_n 0, 1) := by decide +kernel
theorem dX3_goStep_19 : decode cX3_goStep 19 = .ok (.getfield 34, 3) := by decide +kernel
theorem dX3_goStep_22 : decode cX3_goStep 22 = .ok (.iconst 1, 1) := by decide +kernel
theorem dX3_goStep_23 : decode cX3_goStep 23 = .ok (.isub, 1) := by decide +kernel
theorem dX3_goStep_24 : decode cX3_goStep 24 = .ok (.iaload, 1) := by decide +kernel
theorem dX3_goStep_25 : decode cX3_goStep 25 = .ok (.istore_n 3, 1) := by decide +kernel
theorem dX3_goStep_26 : decode cX3_goStep 26 = .ok (.aload_n 0, 1) := by decide +kernel
theorem dX3_goStep_27 : decode cX3_goStep 27 = .ok (.getfield 18, 3) := by decide +kernel
theorem dX3_goStep_30 : decode cX3_goStep 30 = .ok (.iload_n 2, 1) := by decide +kernel
theorem dX3_goStep_31 : decode cX3_goStep 31 = .ok (.dup2, 1) := by decide +kernel
theorem dX3_goStep_32 : decode cX3_goStep 32 = .ok (.iaload, 1) := by decide +kernel
theorem dX3_goStep_33 : decode cX3_goStep 33 = .ok (.aload_n 0, 1) := by decide +kernel
theorem dX3_goStep_34 : decode cX3_goStep 34 = .ok (.getfield 18, 3) := by decide +kernel
theorem dX3_goStep_37 : decode cX3_goStep 37 = .ok (.iload_n 3, 1) := by decide +kernel
theorem dX3_goStep_38 : decode cX3_goStep 38 = .ok (.iaload, 1) := by decide +kernel
theorem dX3_goStep_39 : decode cX3_goStep 39 = .ok (.isub, 1) := by decide +kernel
theorem dX3_goStep_40 : decode cX3_goStep 40 = .ok (.iastore, 1) := by decide +kernel
theorem dX3_goStep_41 : decode cX3_goStep 41 = .ok (.aload_n 0, 1) := by decide +kernel
theorem dX3_goStep_42 : decode cX3_goStep 42 = .ok (.iload_n 1, 1) := by decide +kernel
theorem dX3_goStep_43 : decode cX3_goStep 43 = .ok (.invokevirtual 57, 3) := by decide +kernel
theorem dX3_goStep_46 : decode cX3_goStep 46 = .ok (.return_, 1) := by decide +kernel
theorem dX3_moveForStep_0 : decode cX3_moveForStep 0 = .ok (.aload_n 0, 1) := by decide +kernel
theorem dX3_moveForStep_1 : decode cX3_moveForStep 1 = .ok (.iload_n 1, 1) := by decide +kernel
theorem dX3_moveForStep_2 : decode cX3_moveForStep 2 = .ok (.invokevirtual 50, 3) := by decide +kernel
theorem dX3_moveForStep_5 : decode cX3_moveForStep 5 = .ok (.aload_n 0, 1) := by decide +kernel
theorem dX3_moveForStep_6 : decode cX3_moveForStep 6 = .ok (.getfield 34, 3) := by decide +kernel
theorem dX3_moveForStep_9 : decode cX3_moveForStep 9 = .ok (.iconst 1, 1) := by decide +kernel
theorem dX3_moveForStep_10 : decode cX3_moveForStep 10 = .ok (.isub, 1) := by decide +kernel
theorem dX3_moveForStep_11 : decode cX3_moveForStep 11 = .ok (.iaload, 1) := by decide +kernel
theorem dX3_moveForStep_12 : decode cX3_moveForStep 12 = .ok (.istore_n 2, 1) := by decide +kernel
theorem dX3_moveForStep_13 : decode cX3_moveForStep 13 = .ok (.aload_n 0, 1) := by decide +kernel
theorem dX3_moveForStep_14 : decode cX3_moveForStep 14 = .ok (.iload_n 1, 1) := by decide +kernel
theorem dX3_moveForStep_15 : decode cX3_moveForStep 15 = .ok (.invokevirtual 54, 3) := by decide +kernel
theorem dX3_moveForStep_18 : decode cX3_moveForStep 18 = .ok (.astore_n 3, 1) := by decide +kernel
theorem dX3_moveForStep_19 : decode cX3_moveForStep 19 = .ok (.aload_n 3, 1) := by decide +kernel
theorem dX3_moveForStep_20 : decode cX3_moveForStep 20 = .ok (.aload_n 0, 1) := by decide +kernel
theorem dX3_moveForStep_21 : decode cX3_moveForStep 21 = .ok (.getfield 34, 3) := by decide +kernel
theorem dX3_moveForStep_24 : decode cX3_moveForStep 24 = .ok (.iconst 1, 1) := by decide +kernel
theorem dX3_moveForStep_25 : decode cX3_moveForStep 25 = .ok (.isub, 1) := by decide +kernel
theorem dX3_moveForStep_26 : decode cX3_moveForStep 26 = .ok (.iaload, 1) := by decide +kernel
theorem dX3_moveForStep_27 : decode cX3_moveForStep 27 = .ok (.istore 4, 2) := by decide +kernel
theorem dX3_moveForStep_29 : decode cX3_moveForStep 29 = .ok (.aload_n 0, 1) := by decide +kernel
theorem dX3_moveForStep_30 : decode cX3_moveForStep 30 = .ok (.getfield 34, 3) := by decide +kernel
theorem dX3_moveForStep_33 : decode cX3_moveForStep 33 = .ok (.iconst 1, 1) := by decide +kernel
theorem dX3_moveForStep_34 : decode cX3_moveForStep 34 = .ok (.isub, 1) := by decide +kernel
theorem dX3_moveForStep_35 : decode cX3_moveForStep 35 = .ok (.istore 5, 2) := by decide +kernel
theorem dX3_moveForStep_37 : decode cX3_moveForStep 37 = .ok (.iload 5, 2) := by decide +kernel
theorem dX3_moveForStep_39 : decode cX3_moveForStep 39 = .ok (.ifCond .le 29, 3) := by decide +kernel
theorem dX3_moveForStep_42 : decode cX3_moveForStep 42 = .ok (.aload_n 3, 1) := by decide +kernel
theorem dX3_moveForStep_43 : decode cX3_moveForStep 43 = .ok (.iload 5, 2) := by decide +kernel
theorem dX3_moveForStep_45 : decode cX3_moveForStep 45 = .ok (.iconst 1, 1) := by decide +kernel
theorem dX3_moveForStep_46 : decode cX3_moveForStep 46 = .ok (.isub, 1) := by decide +kernel
theorem dX3_moveForStep_47 : decode cX3_moveForStep 47 = .ok (.iaload, 1) := by decide +kernel
theorem dX3_moveForStep_48 : decode cX3_moveForStep 48 = .ok (.iload_n 2, 1) := by decide +kernel
theorem dX3_moveForStep_49 : decode cX3_moveForStep 49 = .ok (.if_icmp .eq 19, 3) := by decide +kernel
theorem dX3_moveForStep_52 : decode cX3_moveForStep 52 = .ok (.aload_n 3, 1) := by decide +kernel
theorem dX3_moveForStep_53 : decode cX3_moveForStep 53 = .ok (.iload 5, 2) := by decide +kernel
theorem dX3_moveForStep_55 : decode cX3_moveForStep 55 = .ok (.aload_n 3, 1) := by decide +kernel
theorem dX3_moveForStep_56 : decode cX3_moveForStep 56 = .ok (.iload 5, 2) := by decide +kernel
theorem dX3_moveForStep_58 : decode cX3_moveForStep 58 = .ok (.iconst 1, 1) := by decide +kernel
theorem dX3_moveForStep_59 : decode cX3_moveForStep 59 = .ok (.isub, 1) := by decide +kernel
theorem dX3_moveForStep_60 : decode cX3_moveForStep 60 = .ok (.iaload, 1) := by decide +kernel
theorem dX3_moveForStep_61 : decode cX3_moveForStep 61 = .ok (.iastore, 1) := by decide +kernel
theorem dX3_moveForStep_62 : decode cX3_moveForStep 62 = .ok (.iinc 5 (-1), 3) := by decide +kernel
theorem dX3_moveForStep_65 : decode cX3_moveForStep 65 = .ok (.goto (-28), 3) := by decide +kernel
theorem dX3_moveForStep_68 : decode cX3_moveForStep 68 = .ok (.aload_n 3, 1) := by decide +kernel
theorem dX3_moveForStep_69 : decode cX3_moveForStep 69 = .ok (.iload 5, 2) := by decide +kernel
theorem dX3_moveForStep_71 : decode cX3_moveForStep 71 = .ok (.iload 4, 2) := by decide +kernel
theorem dX3_moveForStep_73 : decode cX3_moveForStep 73 = .ok (.iastore, 1) := by decide +kernel
theorem dX3_moveForStep_74 : decode cX3_moveForStep 74 = .ok (.return_, 1) := by decide +kernel
theorem dX3_refusalOfStepBack_0 : decode cX3_refusalOfStepBack 0 = .ok (.aload_n 0, 1) := by decide +kernel
theorem dX3_refusalOfStepBack_1 : decode cX3_refusalOfStepBack 1 = .ok (.iload_n 1, 1) := by decide +kernel
theorem dX3_refusalOfStepBack_2 : decode cX3_refusalOfStepBack 2 = .ok (.invokevirtual 50, 3) := by decide +kernel
theorem dX3_refusalOfStepBack_5 : decode cX3_refusalOfStepBack 5 = .ok (.aload_n 0, 1) := by decide +kernel
theorem dX3_refusalOfStepBack_6 : decode cX3_refusalOfStepBack 6 = .ok (.getfield 34, 3) := by decide +kernel
theorem dX3_refusalOfStepBack_9 : decode cX3_refusalOfStepBack 9 = .ok (.iconst 1, 1) := by decide +kernel
theorem dX3_refusalOfStepBack_10 : decode cX3_refusalOfStepBack 10 = .ok (.isub, 1) := by decide +kernel
theorem dX3_refusalOfStepBack_11 : decode cX3_refusalOfStepBack 11 = .ok (.iaload, 1) := by decide +kernel
theorem dX3_refusalOfStepBack_12 : decode cX3_refusalOfStepBack 12 = .ok (.istore_n 2, 1) := by decide +kernel
theorem dX3_refusalOfStepBack_13 : decode cX3_refusalOfStepBack 13 = .ok (.aload_n 0, 1) := by decide +kernel
theorem dX3_refusalOfStepBack_14 : decode cX3_refusalOfStepBack 14 = .ok (.aload_n 0, 1) := by decide +kernel
theorem dX3_refusalOfStepBack_15 : decode cX3_refusalOfStepBack 15 = .ok (.iload_n 1, 1) := by decide +kernel
theorem dX3_refusalOfStepBack_16 : decode cX3_refusalOfStepBack 16 = .ok (.invokevirtual 54, 3) := by decide +kernel
theorem dX3_refusalOfStepBack_19 : decode cX3_refusalOfStepBack 19 = .ok (.iload_n 2, 1) := by decide +kernel
theorem dX3_refusalOfStepBack_20 : decode cX3_refusalOfStepBack 20 = .ok (.invokevirtual 60, 3) := by decide +kernel
theorem dX3_refusalOfStepBack_23 : decode cX3_refusalOfStepBack 23 = .ok (.istore_n 3, 1) := by decide +kernel
theorem dX3_refusalOfStepBack_24 : decode cX3_refusalOfStepBack 24 = .ok (.iload_n 3, 1) := by decide +kernel
theorem dX3_refusalOfStepBack_25 : decode cX3_refusalOfStepBack 25 = .ok (.iconst (-1), 1) := by decide +kernel
theorem dX3_refusalOfStepBack_26 : decode cX3_refusalOfStepBack 26 = .ok (.if_icmp .ne 6, 3) := by decide +kernel
theorem dX3_refusalOfStepBack_29 : decode cX3_refusalOfStepBack 29 = .ok (.bipush (-3), 2) := by decide +kernel
theorem dX3_refusalOfStepBack_31 : decode cX3_refusalOfStepBack 31 = .ok (.ireturn, 1) := by decide +kernel
theorem dX3_refusalOfStepBack_32 : decode cX3_refusalOfStepBack 32 = .ok (.aload_n 0, 1) := by decide +kernel
theorem dX3_refusalOfStepBack_33 : decode cX3_refusalOfStepBack 33 = .ok (.getfield 18, 3) := by decide +kernel
theorem dX3_refusalOfStepBack_36 : decode cX3_refusalOfStepBack 36 = .ok (.iload_n 2, 1) := by decide +kernel
theorem dX3_refusalOfStepBack_37 : decode cX3_refusalOfStepBack 37 = .ok (.iaload, 1) := by decide +kernel
theorem dX3_refusalOfStepBack_38 : decode cX3_refusalOfStepBack 38 = .ok (.aload_n 0, 1) := by decide +kernel
theorem dX3_refusalOfStepBack_39 : decode cX3_refusalOfStepBack 39 = .ok (.getfield 18, 3) := by decide +kernel
theorem dX3_refusalOfStepBack_42 : decode cX3_refusalOfStepBack 42 = .ok (.iload_n 3, 1) := by decide +kernel
theorem dX3_refusalOfStepBack_43 : decode cX3_refusalOfStepBack 43 = .ok (.iaload, 1) := by decide +kernel
theorem dX3_refusalOfStepBack_44 : decode cX3_refusalOfStepBack 44 = .ok (.iadd, 1) := by decide +kernel
theorem dX3_refusalOfStepBack_45 : decode cX3_refusalOfStepBack 45 = .ok (.bipush 99, 2) := by decide +kernel
theorem dX3_refusalOfStepBack_47 : decode cX3_refusalOfStepBack 47 = .ok (.if_icmp .le 8, 3) := by decide +kernel
theorem dX3_refusalOfStepBack_50 : decode cX3_refusalOfStepBack 50 = .ok (.bipush (-2), 2) := by decide +kernel
theorem dX3_refusalOfStepBack_52 : decode cX3_refusalOfStepBack 52 = .ok (.goto 4, 3) := by decide +kernel
theorem dX3_refusalOfStepBack_55 : decode cX3_refusalOfStepBack 55 = .ok (.iconst 0, 1) := by decide +kernel
theorem dX3_refusalOfStepBack_56 : decode cX3_refusalOfStepBack 56 = .ok (.ireturn, 1) := by decide +kernel
theorem dX3_goStepBack_0 : decode cX3_goStepBack 0 = .ok (.aload_n 0, 1) := by decide +kernel
theorem dX3_goStepBack_1 : decode cX3_goStepBack 1 = .ok (.iload_n 1, 1) := by decide +kernel
theorem dX3_goStepBack_2 : decode cX3_goStepBack 2 = .ok (.invokevirtual 50, 3) := by decide +kernel
theorem dX3_goStepBack_5 : decode cX3_goStepBack 5 = .ok (.aload_n 0, 1) := by decide +kernel
theorem dX3_goStepBack_6 : decode cX3_goStepBack 6 = .ok (.getfield 34, 3) := by decide +kernel
theorem dX3_goStepBack_9 : decode cX3_goStepBack 9 = .ok (.iconst 1, 1) := by decide +kernel
theorem dX3_goStepBack_10 : decode cX3_goStepBack 10 = .ok (.isub, 1) := by decide +kernel
theorem dX3_goStepBack_11 : decode cX3_goStepBack 11 = .ok (.iaload, 1) := by decide +kernel
theorem dX3_goStepBack_12 : decode cX3_goStepBack 12 = .ok (.istore_n 2, 1) := by decide +kernel
theorem dX3_goStepBack_13 : decode cX3_goStepBack 13 = .ok (.aload_n 0, 1) := by decide +kernel
theorem dX3_goStepBack_14 : decode cX3_goStepBack 14 = .ok (.iload_n 1, 1) := by decide +kernel
theorem dX3_goStepBack_15 : decode cX3_goStepBack 15 = .ok (.invokevirtual 54, 3) := by decide +kernel
theorem dX3_goStepBack_18 : decode cX3_goStepBack 18 = .ok (.astore_n 3, 1) := by decide +kernel
theorem dX3_goStepBack_19 : decode cX3_goStepBack 19 = .ok (.aload_n 0, 1) := by decide +kernel
theorem dX3_goStepBack_20 : decode cX3_goStepBack 20 = .ok (.aload_n 3, 1) := by decide +kernel
theorem dX3_goStepBack_21 : decode cX3_goStepBack 21 = .ok (.iload_n 2, 1) := by decide +kernel
theorem dX3_goStepBack_22 : decode cX3_goStepBack 22 = .ok (.invokevirtual 60, 3) := by decide +kernel
theorem dX3_goStepBack_25 : decode cX3_goStepBack 25 = .ok (.istore 4, 2) := by decide +kernel
theorem dX3_goStepBack_27 : decode cX3_goStepBack 27 = .ok (.iload 4, 2) := by decide +kernel
theorem dX3_goStepBack_29 : decode cX3_goStepBack 29 = .ok (.iconst (-1), 1) := by decide +kernel
theorem dX3_goStepBack_30 : decode cX3_goStepBack 30 = .ok (.if_icmp .ne 4, 3) := by decide +kernel
theorem dX3_goStepBack_33 : decode cX3_goStepBack 33 = .ok (.return_, 1) := by decide +kernel
theorem dX3_goStepBack_34 : decode cX3_goStepBack 34 = .ok (.aload_n 0, 1) := by decide +kernel
theorem dX3_goStepBack_35 : decode cX3_goStepBack 35 = .ok (.aload_n 3, 1) := by decide +kernel
theorem dX3_goStepBack_36 : decode cX3_goStepBack 36 = .ok (.iload_n 2, 1) := by decide +kernel
theorem dX3_goStepBack_37 : decode cX3_goStepBack 37 = .ok (.invokevirtual 42, 3) := by decide +kernel
theorem dX3_goStepBack_40 : decode cX3_goStepBack 40 = .ok (.iconst 1, 1) := by decide +kernel
theorem dX3_goStepBack_41 : decode cX3_goStepBack 41 = .ok (.iadd, 1) := by decide +kernel
theorem dX3_goStepBack_42 : decode cX3_goStepBack 42 = .ok (.istore 5, 2) := by decide +kernel
theorem dX3_goStepBack_44 : decode cX3_goStepBack 44 = .ok (.iload 5, 2) := by decide +kernel
theorem dX3_goStepBack_46 : decode cX3_goStepBack 46 = .ok (.aload_n 0, 1) := by decide +kernel
theorem dX3_goStepBack_47 : decode cX3_goStepBack 47 = .ok (.getfield 34, 3) := by decide +kernel
theorem dX3_goStepBack_50 : decode cX3_goStepBack 50 = .ok (.iconst 1, 1) := by decide +kernel
theorem dX3_goStepBack_51 : decode cX3_goStepBack 51 = .ok (.isub, 1) := by decide +kernel
theorem dX3_goStepBack_52 : decode cX3_goStepBack 52 = .ok (.if_icmp .ge 19, 3) := by decide +kernel
theorem dX3_goStepBack_55 : decode cX3_goStepBack 55 = .ok (.aload_n 3, 1) := by decide +kernel
theorem dX3_goStepBack_56 : decode cX3_goStepBack 56 = .ok (.iload 5, 2) := by decide +kernel
theorem dX3_goStepBack_58 : decode cX3_goStepBack 58 = .ok (.aload_n 3, 1) := by decide +kernel
theorem dX3_goStepBack_59 : decode cX3_goStepBack 59 = .ok (.iload 5, 2) := by decide +kernel
theorem dX3_goStepBack_61 : decode cX3_goStepBack 61 = .ok (.iconst 1, 1) := by decide +kernel
theorem dX3_goStepBack_62 : decode cX3_goStepBack 62 = .ok (.iadd, 1) := by decide +kernel
theorem dX3_goStepBack_63 : decode cX3_goStepBack 63 = .ok (.iaload, 1) := by decide +kernel
theorem dX3_goStepBack_64 : decode cX3_goStepBack 64 = .ok (.iastore, 1) := by decide +kernel
theorem dX3_goStepBack_65 : decode cX3_goStepBack 65 = .ok (.iinc 5 1, 3) := by decide +kernel
theorem dX3_goStepBack_68 : decode cX3_goStepBack 68 = .ok (.goto (-24), 3) := by decide +kernel
theorem dX3_goStepBack_71 : decode cX3_goStepBack 71 = .ok (.aload_n 3, 1) := by decide +kernel
theorem dX3_goStepBack_72 : decode cX3_goStepBack 72 = .ok (.aload_n 0, 1) := by decide +kernel
theorem dX3_goStepBack_73 : decode cX3_goStepBack 73 = .ok (.getfield 34, 3) := by decide +kernel
theorem dX3_goStepBack_76 : decode cX3_goStepBack 76 = .ok (.iconst 1, 1) := by decide +kernel
theorem dX3_goStepBack_77 : decode cX3_goStepBack 77 = .ok (.isub, 1) := by decide +kernel
theorem dX3_goStepBack_78 : decode cX3_goStepBack 78 = .ok (.iload 4, 2) := by decide +kernel
theorem dX3_goStepBack_80 : decode cX3_goStepBack 80 = .ok (.iastore, 1) := by decide +kernel
theorem dX3_goStepBack_81 : decode cX3_goStepBack 81 = .ok (.aload_n 0, 1) := by decide +kernel
theorem dX3_goStepBack_82 : decode cX3_goStepBack 82 = .ok (.getfield 18, 3) := by decide +kernel
theorem dX3_goStepBack_85 : decode cX3_goStepBack 85 = .ok (.iload_n 2, 1) := by decide +kernel
theorem dX3_goStepBack_86 : decode cX3_goStepBack 86 = .ok (.dup2, 1) := by decide +kernel
theorem dX3_goStepBack_87 : decode cX3_goStepBack 87 = .ok (.iaload, 1) := by decide +kernel
theorem dX3_goStepBack_88 : decode cX3_goStepBack 88 = .ok (.aload_n 0, 1) := by decide +kernel
theorem dX3_goStepBack_89 : decode cX3_goStepBack 89 = .ok (.getfield 18, 3) := by decide +kernel
theorem dX3_goStepBack_92 : decode cX3_goStepBack 92 = .ok (.iload 4, 2) := by decide +kernel
theorem dX3_goStepBack_94 : decode cX3_goStepBack 94 = .ok (.iaload, 1) := by decide +kernel
theorem dX3_goStepBack_95 : decode cX3_goStepBack 95 = .ok (.iadd, 1) := by decide +kernel
theorem dX3_goStepBack_96 : decode cX3_goStepBack 96 = .ok (.iastore, 1) := by decide +kernel
theorem dX3_goStepBack_97 : decode cX3_goStepBack 97 = .ok (.return_, 1) := by decide +kernel
theorem dX3_happen_0 : decode cX3_happen 0 = .ok (.iload_n 1, 1) := by decide +kernel
theorem dX3_happen_1 : decode cX3_happen 1 = .ok (.ifCond .ne 21, 3) := by decide +kernel
theorem dX3_happen_4 : decode cX3_happen 4 = .ok (.aload_n 0, 1) := by decide +kernel
theorem dX3_happen_5 : decode cX3_happen 5 = .ok (.invokevirtual 63, 3) := by decide +kernel
theorem dX3_happen_8 : decode cX3_happen 8 = .ok (.istore_n 3, 1) := by decide +kernel
theorem dX3_happen_9 : decode cX3_happen 9 = .ok (.iload_n 3, 1) := by decide +kernel
theorem dX3_happen_10 : decode cX3_happen 10 = .ok (.iconst (-1), 1) := by decide +kernel
theorem dX3_happen_11 : decode cX3_happen 11 = .ok (.if_icmp .eq 8, 3) := by decide +kernel
theorem dX3_happen_14 : decode cX3_happen 14 = .ok (.aload_n 0, 1) := by decide +kernel
theorem dX3_happen_15 : decode cX3_happen 15 = .ok (.iload_n 3, 1) := by decide +kernel
theorem dX3_happen_16 : decode cX3_happen 16 = .ok (.invokevirtual 66, 3) := by decide +kernel
theorem dX3_happen_19 : decode cX3_happen 19 = .ok (.goto 51, 3) := by decide +kernel
theorem dX3_happen_22 : decode cX3_happen 22 = .ok (.iload_n 1, 1) := by decide +kernel
theorem dX3_happen_23 : decode cX3_happen 23 = .ok (.iconst 1, 1) := by decide +kernel
theorem dX3_happen_24 : decode cX3_happen 24 = .ok (.if_icmp .ne 33, 3) := by decide +kernel
theorem dX3_happen_27 : decode cX3_happen 27 = .ok (.aload_n 0, 1) := by decide +kernel
theorem dX3_happen_28 : decode cX3_happen 28 = .ok (.iload_n 2, 1) := by decide +kernel
theorem dX3_happen_29 : decode cX3_happen 29 = .ok (.invokevirtual 69, 3) := by decide +kernel
theorem dX3_happen_32 : decode cX3_happen 32 = .ok (.ifCond .eq 38, 3) := by decide +kernel
theorem dX3_happen_35 : decode cX3_happen 35 = .ok (.aload_n 0, 1) := by decide +kernel
theorem dX3_happen_36 : decode cX3_happen 36 = .ok (.getfield 18, 3) := by decide +kernel
theorem dX3_happen_39 : decode cX3_happen 39 = .ok (.iload_n 2, 1) := by decide +kernel
theorem dX3_happen_40 : decode cX3_happen 40 = .ok (.aload_n 0, 1) := by decide +kernel
theorem dX3_happen_41 : decode cX3_happen 41 = .ok (.getfield 18, 3) := by decide +kernel
theorem dX3_happen_44 : decode cX3_happen 44 = .ok (.iload_n 2, 1) := by decide +kernel
theorem dX3_happen_45 : decode cX3_happen 45 = .ok (.iaload, 1) := by decide +kernel
theorem dX3_happen_46 : decode cX3_happen 46 = .ok (.iconst 1, 1) := by decide +kernel
theorem dX3_happen_47 : decode cX3_happen 47 = .ok (.iadd, 1) := by decide +kernel
theorem dX3_happen_48 : decode cX3_happen 48 = .ok (.bipush 99, 2) := by decide +kernel
theorem dX3_happen_50 : decode cX3_happen 50 = .ok (.invokestatic 25, 3) := by decide +kernel
theorem dX3_happen_53 : decode cX3_happen 53 = .ok (.iastore, 1) := by decide +kernel
theorem dX3_happen_54 : decode cX3_happen 54 = .ok (.goto 16, 3) := by decide +kernel
theorem dX3_happen_57 : decode cX3_happen 57 = .ok (.aload_n 0, 1) := by decide +kernel
theorem dX3_happen_58 : decode cX3_happen 58 = .ok (.iload_n 2, 1) := by decide +kernel
theorem dX3_happen_59 : decode cX3_happen 59 = .ok (.invokevirtual 73, 3) := by decide +kernel
theorem dX3_happen_62 : decode cX3_happen 62 = .ok (.ifCond .ne 8, 3) := by decide +kernel
theorem dX3_happen_65 : decode cX3_happen 65 = .ok (.aload_n 0, 1) := by decide +kernel
theorem dX3_happen_66 : decode cX3_happen 66 = .ok (.iload_n 2, 1) := by decide +kernel
theorem dX3_happen_67 : decode cX3_happen 67 = .ok (.invokevirtual 77, 3) := by decide +kernel
theorem dX3_happen_70 : decode cX3_happen 70 = .ok (.return_, 1) := by decide +kernel
theorem dX3_letterAt_0 : decode cX3_letterAt 0 = .ok (.iconst 0, 1) := by decide +kernel
theorem dX3_letterAt_1 : decode cX3_letterAt 1 = .ok (.istore_n 2, 1) := by decide +kernel
theorem dX3_letterAt_2 : decode cX3_letterAt 2 = .ok (.iconst 0, 1) := by decide +kernel
theorem dX3_letterAt_3 : decode cX3_letterAt 3 = .ok (.istore_n 3, 1) := by decide +kernel
theorem dX3_letterAt_4 : decode cX3_letterAt 4 = .ok (.iload_n 3, 1) := by decide +kernel
theorem dX3_letterAt_5 : decode cX3_letterAt 5 = .ok (.aload_n 0, 1) := by decide +kernel
theorem dX3_letterAt_6 : decode cX3_letterAt 6 = .ok (.getfield 34, 3) := by decide +kernel
theorem dX3_letterAt_9 : decode cX3_letterAt 9 = .ok (.if_icmp .ge 35, 3) := by decide +kernel
theorem dX3_letterAt_12 : decode cX3_letterAt 12 = .ok (.iload_n 2, 1) := by decide +kernel
theorem dX3_letterAt_13 : decode cX3_letterAt 13 = .ok (.aload_n 0, 1) := by decide +kernel
theorem dX3_letterAt_14 : decode cX3_letterAt 14 = .ok (.getfield 18, 3) := by decide +kernel
theorem dX3_letterAt_17 : decode cX3_letterAt 17 = .ok (.aload_n 0, 1) := by decide +kernel
theorem dX3_letterAt_18 : decode cX3_letterAt 18 = .ok (.getfield 9, 3) := by decide +kernel
theorem dX3_letterAt_21 : decode cX3_letterAt 21 = .ok (.iload_n 3, 1) := by decide +kernel
theorem dX3_letterAt_22 : decode cX3_letterAt 22 = .ok (.iaload, 1) := by decide +kernel
theorem dX3_letterAt_23 : decode cX3_letterAt 23 = .ok (.iaload, 1) := by decide +kernel
theorem dX3_letterAt_24 : decode cX3_letterAt 24 = .ok (.iadd, 1) := by decide +kernel
theorem dX3_letterAt_25 : decode cX3_letterAt 25 = .ok (.istore_n 2, 1) := by decide +kernel
theorem dX3_letterAt_26 : decode cX3_letterAt 26 = .ok (.iload_n 1, 1) := by decide +kernel
theorem dX3_letterAt_27 : decode cX3_letterAt 27 = .ok (.iload_n 2, 1) := by decide +kernel
theorem dX3_letterAt_28 : decode cX3_letterAt 28 = .ok (.if_icmp .ge 10, 3) := by decide +kernel
theorem dX3_letterAt_31 : decode cX3_letterAt 31 = .ok (.aload_n 0, 1) := by decide +kernel
theorem dX3_letterAt_32 : decode cX3_letterAt 32 = .ok (.getfield 9, 3) := by decide +kernel
theorem dX3_letterAt_35 : decode cX3_letterAt 35 = .ok (.iload_n 3, 1) := by decide +kernel
theorem dX3_letterAt_36 : decode cX3_letterAt 36 = .ok (.iaload, 1) := by decide +kernel
theorem dX3_letterAt_37 : decode cX3_letterAt 37 = .ok (.ireturn, 1) := by decide +kernel
theorem dX3_letterAt_38 : decode cX3_letterAt 38 = .ok (.iinc 3 1, 3) := by decide +kernel
theorem dX3_letterAt_41 : decode cX3_letterAt 41 = .ok (.goto (-37), 3) := by decide +kernel
theorem dX3_letterAt_44 : decode cX3_letterAt 44 = .ok (.iconst (-1), 1) := by decide +kernel
theorem dX3_letterAt_45 : decode cX3_letterAt 45 = .ok (.ireturn, 1) := by decide +kernel
theorem dX3_startIn_0 : decode cX3_startIn 0 = .ok (.iconst 0, 1) := by decide +kernel
theorem dX3_startIn_1 : decode cX3_startIn 1 = .ok (.istore_n 3, 1) := by decide +kernel
theorem dX3_startIn_2 : decode cX3_startIn 2 = .ok (.iconst 0, 1) := by decide +kernel
theorem dX3_startIn_3 : decode cX3_startIn 3 = .ok (.istore 4, 2) := by decide +kernel
theorem dX3_startIn_5 : decode cX3_startIn 5 = .ok (.iload 4, 2) := by decide +kernel
theorem dX3_startIn_7 : decode cX3_startIn 7 = .ok (.aload_n 0, 1) := by decide +kernel
theorem dX3_startIn_8 : decode cX3_startIn 8 = .ok (.getfield 34, 3) := by decide +kernel
theorem dX3_startIn_11 : decode cX3_startIn 11 = .ok (.if_icmp .ge 29, 3) := by decide +kernel
theorem dX3_startIn_14 : decode cX3_startIn 14 = .ok (.aload_n 1, 1) := by decide +kernel
theorem dX3_startIn_15 : decode cX3_startIn 15 = .ok (.iload 4, 2) := by decide +kernel
theorem dX3_startIn_17 : decode cX3_startIn 17 = .ok (.iaload, 1) := by decide +kernel
theorem dX3_startIn_18 : decode cX3_startIn 18 = .ok (.iload_n 2, 1) := by decide +kernel
theorem dX3_startIn_19 : decode cX3_startIn 19 = .ok (.if_icmp .eq 21, 3) := by decide +kernel
theorem dX3_startIn_22 : decode cX3_startIn 22 = .ok (.iload_n 3, 1) := by decide +kernel
theorem dX3_startIn_23 : decode cX3_startIn 23 = .ok (.aload_n 0, 1) := by decide +kernel
theorem dX3_startIn_24 : decode cX3_startIn 24 = .ok (.getfield 18, 3) := by decide +kernel
theorem dX3_startIn_27 : decode cX3_startIn 27 = .ok (.aload_n 1, 1) := by decide +kernel
theorem dX3_startIn_28 : decode cX3_startIn 28 = .ok (.iload 4, 2) := by decide +kernel
theorem dX3_startIn_30 : decode cX3_startIn 30 = .ok (.iaload, 1) := by decide +kernel
theorem dX3_startIn_31 : decode cX3_startIn 31 = .ok (.iaload, 1) := by decide +kernel
theorem dX3_startIn_32 : decode cX3_startIn 32 = .ok (.iadd, 1) := by decide +kernel
theorem dX3_startIn_33 : decode cX3_startIn 33 = .ok (.istore_n 3, 1) := by decide +kernel
theorem dX3_startIn_34 : decode cX3_startIn 34 = .ok (.iinc 4 1, 3) := by decide +kernel
theorem dX3_startIn_37 : decode cX3_startIn 37 = .ok (.goto (-32), 3) := by decide +kernel
theorem dX3_startIn_40 : decode cX3_startIn 40 = .ok (.iload_n 3, 1) := by decide +kernel
theorem dX3_startIn_41 : decode cX3_startIn 41 = .ok (.ireturn, 1) := by decide +kernel
theorem dX3_goesTo_0 : decode cX3_goesTo 0 = .ok (.aload_n 0, 1) := by decide +kernel
theorem dX3_goesTo_1 : decode cX3_goesTo 1 = .ok (.iload_n 1, 1) := by decide +kernel
theorem dX3_goesTo_2 : decode cX3_goesTo 2 = .ok (.invokevirtual 80, 3) := by decide +kernel
theorem dX3_goesTo_5 : decode cX3_goesTo 5 = .ok (.istore_n 2, 1) := by decide +kernel
theorem dX3_goesTo_6 : decode cX3_goesTo 6 = .ok (.iload_n 1, 1) := by decide +kernel
theorem dX3_goesTo_7 : decode cX3_goesTo 7 = .ok (.aload_n 0, 1) := by decide +kernel
theorem dX3_goesTo_8 : decode cX3_goesTo 8 = .ok (.aload_n 0, 1) := by decide +kernel
theorem dX3_goesTo_9 : decode cX3_goesTo 9 = .ok (.getfield 9, 3) := by decide +kernel
theorem dX3_goesTo_12 : decode cX3_goesTo 12 = .ok (.iload_n 2, 1) := by decide +kernel
theorem dX3_goesTo_13 : decode cX3_goesTo 13 = .ok (.invokevirtual 83, 3) := by decide +kernel
theorem dX3_goesTo_16 : decode cX3_goesTo 16 = .ok (.isub, 1) := by decide +kernel
theorem dX3_goesTo_17 : decode cX3_goesTo 17 = .ok (.aload_n 0, 1) := by decide +kernel
theorem dX3_goesTo_18 : decode cX3_goesTo 18 = .ok (.aload_n 0, 1) := by decide +kernel
theorem dX3_goesTo_19 : decode cX3_goesTo 19 = .ok (.getfield 15, 3) := by decide +kernel
theorem dX3_goesTo_22 : decode cX3_goesTo 22 = .ok (.iload_n 2, 1) := by decide +kernel
theorem dX3_goesTo_23 : decode cX3_goesTo 23 = .ok (.invokevirtual 83, 3) := by decide +kernel
theorem dX3_goesTo_26 : decode cX3_goesTo 26 = .ok (.iadd, 1) := by decide +kernel
theorem dX3_goesTo_27 : decode cX3_goesTo 27 = .ok (.ireturn, 1) := by decide +kernel
theorem dX3_meetingBehind_0 : decode cX3_meetingBehind 0 = .ok (.iload_n 1, 1) := by decide +kernel
theorem dX3_meetingBehind_1 : decode cX3_meetingBehind 1 = .ok (.ifCond .ne 12, 3) := by decide +kernel
theorem dX3_meetingBehind_4 : decode cX3_meetingBehind 4 = .ok (.aload_n 0, 1) := by decide +kernel
theorem dX3_meetingBehind_5 : decode cX3_meetingBehind 5 = .ok (.getfield 15, 3) := by decide +kernel
theorem dX3_meetingBehind_8 : decode cX3_meetingBehind 8 = .ok (.iconst 0, 1) := by decide +kernel
theorem dX3_meetingBehind_9 : decode cX3_meetingBehind 9 = .ok (.iaload, 1) := by decide +kernel
theorem dX3_meetingBehind_10 : decode cX3_meetingBehind 10 = .ok (.goto 19, 3) := by decide +kernel
theorem dX3_meetingBehind_13 : decode cX3_meetingBehind 13 = .ok (.aload_n 0, 1) := by decide +kernel
theorem dX3_meetingBehind_14 : decode cX3_meetingBehind 14 = .ok (.aload_n 0, 1) := by decide +kernel
theorem dX3_meetingBehind_15 : decode cX3_meetingBehind 15 = .ok (.getfield 15, 3) := by decide +kernel
theorem dX3_meetingBehind_18 : decode cX3_meetingBehind 18 = .ok (.aload_n 0, 1) := by decide +kernel
theorem dX3_meetingBehind_19 : decode cX3_meetingBehind 19 = .ok (.getfield 9, 3) := by decide +kernel
theorem dX3_meetingBehind_22 : decode cX3_meetingBehind 22 = .ok (.iload_n 1, 1) := by decide +kernel
theorem dX3_meetingBehind_23 : decode cX3_meetingBehind 23 = .ok (.iconst 1, 1) := by decide +kernel
theorem dX3_meetingBehind_24 : decode cX3_meetingBehind 24 = .ok (.isub, 1) := by decide +kernel
theorem dX3_meetingBehind_25 : decode cX3_meetingBehind 25 = .ok (.iaload, 1) := by decide +kernel
theorem dX3_meetingBehind_26 : decode cX3_meetingBehind 26 = .ok (.invokevirtual 60, 3) := by decide +kernel
theorem dX3_meetingBehind_29 : decode cX3_meetingBehind 29 = .ok (.istore_n 2, 1) := by decide +kernel
theorem dX3_meetingBehind_30 : decode cX3_meetingBehind 30 = .ok (.iload_n 2, 1) := by decide +kernel
theorem dX3_meetingBehind_31 : decode cX3_meetingBehind 31 = .ok (.iconst (-1), 1) := by decide +kernel
theorem dX3_meetingBehind_32 : decode cX3_meetingBehind 32 = .ok (.if_icmp .ne 10, 3) := by decide +kernel
theorem dX3_meetingBehind_35 : decode cX3_meetingBehind 35 = .ok (.aload_n 0, 1) := by decide +kernel
theorem dX3_meetingBehind_36 : decode cX3_meetingBehind 36 = .ok (.getfield 34, 3) := by decide +kernel
theorem dX3_meetingBehind_39 : decode cX3_meetingBehind 39 = .ok (.goto 12, 3) := by decide +kernel
theorem dX3_meetingBehind_42 : decode cX3_meetingBehind 42 = .ok (.aload_n 0, 1) := by decide +kernel
theorem dX3_meetingBehind_43 : decode cX3_meetingBehind 43 = .ok (.aload_n 0, 1) := by decide +kernel
theorem dX3_meetingBehind_44 : decode cX3_meetingBehind 44 = .ok (.getfield 9, 3) := by decide +kernel
theorem dX3_meetingBehind_47 : decode cX3_meetingBehind 47 = .ok (.iload_n 2, 1) := by decide +kernel
theorem dX3_meetingBehind_48 : decode cX3_meetingBehind 48 = .ok (.invokevirtual 42, 3) := by decide +kernel
theorem dX3_meetingBehind_51 : decode cX3_meetingBehind 51 = .ok (.ireturn, 1) := by decide +kernel
theorem dX3_corners_0 : decode cX3_corners 0 = .ok (.iconst 0, 1) := by decide +kernel
theorem dX3_corners_1 : decode cX3_corners 1 = .ok (.istore_n 1, 1) := by decide +kernel
theorem dX3_corners_2 : decode cX3_corners 2 = .ok (.iconst 0, 1) := by decide +kernel
theorem dX3_corners_3 : decode cX3_corners 3 = .ok (.istore_n 2, 1) := by decide +kernel
theorem dX3_corners_4 : decode cX3_corners 4 = .ok (.iconst 0, 1) := by decide +kernel
theorem dX3_corners_5 : decode cX3_corners 5 = .ok (.istore_n 3, 1) := by decide +kernel
theorem dX3_corners_6 : decode cX3_corners 6 = .ok (.iload_n 3, 1) := by decide +kernel
theorem dX3_corners_7 : decode cX3_corners 7 = .ok (.aload_n 0, 1) := by decide +kernel
theorem dX3_corners_8 : decode cX3_corners 8 = .ok (.getfield 34, 3) := by decide +kernel
theorem dX3_corners_11 : decode cX3_corners 11 = .ok (.if_icmp .gt 56, 3) := by decide +kernel
theorem dX3_corners_14 : decode cX3_corners 14 = .ok (.iload_n 1, 1) := by decide +kernel
theorem dX3_corners_15 : decode cX3_corners 15 = .ok (.iload_n 3, 1) := by decide +kernel
theorem dX3_corners_16 : decode cX3_corners 16 = .ok (.ishr, 1) := by decide +kernel
theorem dX3_corners_17 : decode cX3_corners 17 = .ok (.iconst 1, 1) := by decide +kernel
theorem dX3_corners_18 : decode cX3_corners 18 = .ok (.iand, 1) := by decide +kernel
theorem dX3_corners_19 : decode cX3_corners 19 = .ok (.ifCond .ne 42, 3) := by decide +kernel
theorem dX3_corners_22 : decode cX3_corners 22 = .ok (.iinc 2 1, 3) := by decide +kernel
theorem dX3_corners_25 : decode cX3_corners 25 = .ok (.iload_n 3, 1) := by decide +kernel
theorem dX3_corners_26 : decode cX3_corners 26 = .ok (.istore 4, 2) := by decide +kernel
theorem dX3_corners_28 : decode cX3_corners 28 = .ok (.iconst 0, 1) := by decide +kernel
theorem dX3_corners_29 : decode cX3_corners 29 = .ok (.istore 5, 2) := by decide +kernel
theorem dX3_corners_31 : decode cX3_corners 31 = .ok (.iload 5, 2) := by decide +kernel
theorem dX3_corners_33 : decode cX3_corners 33 = .ok (.aload_n 0, 1) := by decide +kernel
theorem dX3_corners_34 : decode cX3_corners 34 = .ok (.getfield 34, 3) := by decide +kernel
theorem dX3_corners_37 : decode cX3_corners 37 = .ok (.if_icmp .gt 24, 3) := by decide +kernel
theorem dX3_corners_40 : decode cX3_corners 40 = .ok (.iload_n 1, 1) := by decide +kernel
theorem dX3_corners_41 : decode cX3_corners 41 = .ok (.iconst 1, 1) := by decide +kernel
theorem dX3_corners_42 : decode cX3_corners 42 = .ok (.iload 4, 2) := by decide +kernel
theorem dX3_corners_44 : decode cX3_corners 44 = .ok (.ishl, 1) := by decide +kernel
theorem dX3_corners_45 : decode cX3_corners 45 = .ok (.ior, 1) := by decide +kernel
theorem dX3_corners_46 : decode cX3_corners 46 = .ok (.istore_n 1, 1) := by decide +kernel
theorem dX3_corners_47 : decode cX3_corners 47 = .ok (.aload_n 0, 1) := by decide +kernel
theorem dX3_corners_48 : decode cX3_corners 48 = .ok (.iload 4, 2) := by decide +kernel
theorem dX3_corners_50 : decode cX3_corners 50 = .ok (.invokevirtual 86, 3) := by decide +kernel
theorem dX3_corners_53 : decode cX3_corners 53 = .ok (.istore 4, 2) := by decide +kernel
theorem dX3_corners_55 : decode cX3_corners 55 = .ok (.iinc 5 1, 3) := by decide +kernel
theorem dX3_corners_58 : decode cX3_corners 58 = .ok (.goto (-27), 3) := by decide +kernel
theorem dX3_corners_61 : decode cX3_corners 61 = .ok (.iinc 3 1, 3) := by decide +kernel
theorem dX3_corners_64 : decode cX3_corners 64 = .ok (.goto (-58), 3) := by decide +kernel
theorem dX3_corners_67 : decode cX3_corners 67 = .ok (.iload_n 2, 1) := by decide +kernel
theorem dX3_corners_68 : decode cX3_corners 68 = .ok (.ireturn, 1) := by decide +kernel
theorem dX4_init_0 : decode cX4_init 0 = .ok (.aload_n 0, 1) := by decide +kernel
theorem dX4_init_1 : decode cX4_init 1 = .ok (.invokespecial 3, 3) := by decide +kernel
theorem dX4_init_4 : decode cX4_init 4 = .ok (.aload_n 0, 1) := by decide +kernel
theorem dX4_init_5 : decode cX4_init 5 = .ok (.new 9, 3) := by decide +kernel
theorem dX4_init_8 : decode cX4_init 8 = .ok (.dup, 1) := by decide +kernel
theorem dX4_init_9 : decode cX4_init 9 = .ok (.invokespecial 11, 3) := by decide +kernel
theorem dX4_init_12 : decode cX4_init 12 = .ok (.putfield 12, 3) := by decide +kernel
theorem dX4_init_15 : decode cX4_init 15 = .ok (.aload_n 0, 1) := by decide +kernel
theorem dX4_init_16 : decode cX4_init 16 = .ok (.aload_n 0, 1) := by decide +kernel
theorem dX4_init_17 : decode cX4_init 17 = .ok (.getfield 12, 3) := by decide +kernel
theorem dX4_init_20 : decode cX4_init 20 = .ok (.invokevirtual 18, 3) := by decide +kernel
theorem dX4_init_23 : decode cX4_init 23 = .ok (.putfield 22, 3) := by decide +kernel
theorem dX4_init_26 : decode cX4_init 26 = .ok (.aload_n 0, 1) := by decide +kernel
theorem dX4_init_27 : decode cX4_init 27 = .ok (.new 26, 3) := by decide +kernel
theorem dX4_init_30 : decode cX4_init 30 = .ok (.dup, 1) := by decide +kernel
theorem dX4_init_31 : decode cX4_init 31 = .ok (.iconst 4, 1) := by decide +kernel
theorem dX4_init_32 : decode cX4_init 32 = .ok (.invokespecial 28, 3) := by decide +kernel
theorem dX4_init_35 : decode cX4_init 35 = .ok (.putfield 31, 3) := by decide +kernel
theorem dX4_init_38 : decode cX4_init 38 = .ok (.aload_n 0, 1) := by decide +kernel
theorem dX4_init_39 : decode cX4_init 39 = .ok (.new 26, 3) := by decide +kernel
theorem dX4_init_42 : decode cX4_init 42 = .ok (.dup, 1) := by decide +kernel
theorem dX4_init_43 : decode cX4_init 43 = .ok (.bipush 8, 2) := by decide +kernel
theorem dX4_init_45 : decode cX4_init 45 = .ok (.invokespecial 28, 3) := by decide +kernel
theorem dX4_init_48 : decode cX4_init 48 = .ok (.putfield 35, 3) := by decide +kernel
theorem dX4_init_51 : decode cX4_init 51 = .ok (.aload_n 0, 1) := by decide +kernel
theorem dX4_init_52 : decode cX4_init 52 = .ok (.new 26, 3) := by decide +kernel
theorem dX4_init_55 : decode cX4_init 55 = .ok (.dup, 1) := by decide +kernel
theorem dX4_init_56 : decode cX4_init 56 = .ok (.bipush 8, 2) := by decide +kernel
theorem dX4_init_58 : decode cX4_init 58 = .ok (.invokespecial 28, 3) := by decide +kernel
theorem dX4_init_61 : decode cX4_init 61 = .ok (.putfield 38, 3) := by decide +kernel
theorem dX4_init_64 : decode cX4_init 64 = .ok (.return_, 1) := by decide +kernel
theorem dX4_begin_0 : decode cX4_begin 0 = .ok (.aload_n 0, 1) := by decide +kernel
theorem dX4_begin_1 : decode cX4_begin 1 = .ok (.getfield 12, 3) := by decide +kernel
theorem dX4_begin_4 : decode cX4_begin 4 = .ok (.iload_n 1, 1) := by decide +kernel
theorem dX4_begin_5 : decode cX4_begin 5 = .ok (.invokevirtual 41, 3) := by decide +kernel
theorem dX4_begin_8 : decode cX4_begin 8 = .ok (.aload_n 0, 1) := by decide +kernel
theorem dX4_begin_9 : decode cX4_begin 9 = .ok (.aload_n 0, 1) := by decide +kernel
theorem dX4_begin_10 : decode cX4_begin 10 = .ok (.getfield 12, 3) := by decide +kernel
theorem dX4_begin_13 : decode cX4_begin 13 = .ok (.invokevirtual 18, 3) := by decide +kernel
theorem dX4_begin_16 : decode cX4_begin 16 = .ok (.putfield 22, 3) := by decide +kernel
theorem dX4_begin_19 : decode cX4_begin 19 = .ok (.return_, 1) := by decide +kernel
theorem dX4_copyFrom_0 : decode cX4_copyFrom 0 = .ok (.aload_n 0, 1) := by decide +kernel
theorem dX4_copyFrom_1 : decode cX4_copyFrom 1 = .ok (.getfield 12, 3) := by decide +kernel
theorem dX4_copyFrom_4 : decode cX4_copyFrom 4 = .ok (.aload_n 1, 1) := by decide +kernel
theorem dX4_copyFrom_5 : decode cX4_copyFrom 5 = .ok (.getfield 12, 3) := by decide +kernel
theorem dX4_copyFrom_8 : decode cX4_copyFrom 8 = .ok (.invokevirtual 44, 3) := by decide +kernel
theorem dX4_copyFrom_11 : decode cX4_copyFrom 11 = .ok (.aload_n 0, 1) := by decide +kernel
theorem dX4_copyFrom_12 : decode cX4_copyFrom 12 = .ok (.aload_n 1, 1) := by decide +kernel
theorem dX4_copyFrom_13 : decode cX4_copyFrom 13 = .ok (.getfield 22, 3) := by decide +kernel
theorem dX4_copyFrom_16 : decode cX4_copyFrom 16 = .ok (.putfield 22, 3) := by decide +kernel
theorem dX4_copyFrom_19 : decode cX4_copyFrom 19 = .ok (.aload_n 0, 1) := by decide +kernel
theorem dX4_copyFrom_20 : decode cX4_copyFrom 20 = .ok (.getfield 31, 3) := by decide +kernel
theorem dX4_copyFrom_23 : decode cX4_copyFrom 23 = .ok (.aload_n 1, 1) := by decide +kernel
theorem dX4_copyFrom_24 : decode cX4_copyFrom 24 = .ok (.getfield 31, 3) := by decide +kernel
theorem dX4_copyFrom_27 : decode cX4_copyFrom 27 = .ok (.invokevirtual 48, 3) := by decide +kernel
theorem dX4_copyFrom_30 : decode cX4_copyFrom 30 = .ok (.aload_n 0, 1) := by decide +kernel
theorem dX4_copyFrom_31 : decode cX4_copyFrom 31 = .ok (.getfield 35, 3) := by decide +kernel
theorem dX4_copyFrom_34 : decode cX4_copyFrom 34 = .ok (.aload_n 1, 1) := by decide +kernel
theorem dX4_copyFrom_35 : decode cX4_copyFrom 35 = .ok (.getfield 35, 3) := by decide +kernel
theorem dX4_copyFrom_38 : decode cX4_copyFrom 38 = .ok (.invokevirtual 48, 3) := by decide +kernel
theorem dX4_copyFrom_41 : decode cX4_copyFrom 41 = .ok (.aload_n 0, 1) := by decide +kernel
theorem dX4_copyFrom_42 : decode cX4_copyFrom 42 = .ok (.getfield 38, 3) := by decide +kernel
theorem dX4_copyFrom_45 : decode cX4_copyFrom 45 = .ok (.aload_n 1, 1) := by decide +kernel
theorem dX4_copyFrom_46 : decode cX4_copyFrom 46 = .ok (.getfield 38, 3) := by decide +kernel
theorem dX4_copyFrom_49 : decode cX4_copyFrom 49 = .ok (.invokevirtual 48, 3) := by decide +kernel
theorem dX4_copyFrom_52 : decode cX4_copyFrom 52 = .ok (.return_, 1) := by decide +kernel
theorem dX5_init_0 : decode cX5_init 0 = .ok (.aload_n 0, 1) := by decide +kernel
theorem dX5_init_1 : decode cX5_init 1 = .ok (.invokespecial 3, 3) := by decide +kernel
theorem dX5_init_4 : decode cX5_init 4 = .ok (.aload_n 0, 1) := by decide +kernel
theorem dX5_init_5 : decode cX5_init 5 = .ok (.new 9, 3) := by decide +kernel
theorem dX5_init_8 : decode cX5_init 8 = .ok (.dup, 1) := by decide +kernel
theorem dX5_init_9 : decode cX5_init 9 = .ok (.invokespecial 11, 3) := by decide +kernel
theorem dX5_init_12 : decode cX5_init 12 = .ok (.putfield 12, 3) := by decide +kernel
theorem dX5_init_15 : decode cX5_init 15 = .ok (.aload_n 0, 1) := by decide +kernel
theorem dX5_init_16 : decode cX5_init 16 = .ok (.bipush 120, 2) := by decide +kernel
theorem dX5_init_18 : decode cX5_init 18 = .ok (.newarray .int, 2) := by decide +kernel
theorem dX5_init_20 : decode cX5_init 20 = .ok (.putfield 18, 3) := by decide +kernel
theorem dX5_init_23 : decode cX5_init 23 = .ok (.aload_n 0, 1) := by decide +kernel
theorem dX5_init_24 : decode cX5_init 24 = .ok (.bipush 120, 2) := by decide +kernel
theorem dX5_init_26 : decode cX5_init 26 = .ok (.newarray .int, 2) := by decide +kernel
theorem dX5_init_28 : decode cX5_init 28 = .ok (.putfield 22, 3) := by decide +kernel
theorem dX5_init_31 : decode cX5_init 31 = .ok (.aload_n 0, 1) := by decide +kernel
theorem dX5_init_32 : decode cX5_init 32 = .ok (.iconst 0, 1) := by decide +kernel
theorem dX5_init_33 : decode cX5_init 33 = .ok (.putfield 25, 3) := by decide +kernel
theorem dX5_init_36 : decode cX5_init 36 = .ok (.return_, 1) := by decide +kernel
theorem dX5_follow_0 : decode cX5_follow 0 = .ok (.aload_n 0, 1) := by decide +kernel
theorem dX5_follow_1 : decode cX5_follow 1 = .ok (.getfield 12, 3) := by decide +kernel
theorem dX5_follow_4 : decode cX5_follow 4 = .ok (.iload_n 2, 1) := by decide +kernel
theorem dX5_follow_5 : decode cX5_follow 5 = .ok (.putfield 29, 3) := by decide +kernel
theorem dX5_follow_8 : decode cX5_follow 8 = .ok (.aload_n 0, 1) := by decide +kernel
theorem dX5_follow_9 : decode cX5_follow 9 = .ok (.getfield 12, 3) := by decide +kernel
theorem dX5_follow_12 : decode cX5_follow 12 = .ok (.iload_n 1, 1) := by decide +kernel
theorem dX5_follow_13 : decode cX5_follow 13 = .ok (.invokevirtual 32, 3) := by decide +kernel
theorem dX5_follow_16 : decode cX5_follow 16 = .ok (.aload_n 0, 1) := by decide +kernel
theorem dX5_follow_17 : decode cX5_follow 17 = .ok (.getfield 12, 3) := by decide +kernel
theorem dX5_follow_20 : decode cX5_follow 20 = .ok (.invokevirtual 36, 3) := by decide +kernel
theorem dX5_follow_23 : decode cX5_follow 23 = .ok (.ifCond .eq 6, 3) := by decide +kernel
theorem dX5_follow_26 : decode cX5_follow 26 = .ok (.bipush (-5), 2) := by decide +kernel
theorem dX5_follow_28 : decode cX5_follow 28 = .ok (.ireturn, 1) := by decide +kernel
theorem dX5_follow_29 : decode cX5_follow 29 = .ok (.aload_n 0, 1) := by decide +kernel
theorem dX5_follow_30 : decode cX5_follow 30 = .ok (.getfield 12, 3) := by decide +kernel
theorem dX5_follow_33 : decode cX5_follow 33 = .ok (.iload_n 3, 1) := by decide +kernel
theorem dX5_follow_34 : decode cX5_follow 34 = .ok (.invokevirtual 40, 3) := by decide +kernel
theorem dX5_follow_37 : decode cX5_follow 37 = .ok (.aload_n 0, 1) := by decide +kernel
theorem dX5_follow_38 : decode cX5_follow 38 = .ok (.getfield 12, 3) := by decide +kernel
theorem dX5_follow_41 : decode cX5_follow 41 = .ok (.invokevirtual 43, 3) := by decide +kernel
theorem dX5_follow_44 : decode cX5_follow 44 = .ok (.ireturn, 1) := by decide +kernel
theorem dX5_explore_0 : decode cX5_explore 0 = .ok (.aload_n 0, 1) := by decide +kernel
theorem dX5_explore_1 : decode cX5_explore 1 = .ok (.iconst 0, 1) := by decide +kernel
theorem dX5_explore_2 : decode cX5_explore 2 = .ok (.putfield 25, 3) := by decide +kernel
theorem dX5_explore_5 : decode cX5_explore 5 = .ok (.aload_n 0, 1) := by decide +kernel
theorem dX5_explore_6 : decode cX5_explore 6 = .ok (.iload_n 1, 1) := by decide +kernel
theorem dX5_explore_7 : decode cX5_explore 7 = .ok (.iconst 0, 1) := by decide +kernel
theorem dX5_explore_8 : decode cX5_explore 8 = .ok (.invokevirtual 47, 3) := by decide +kernel
theorem dX5_explore_11 : decode cX5_explore 11 = .ok (.iconst 0, 1) := by decide +kernel
theorem dX5_explore_12 : decode cX5_explore 12 = .ok (.istore_n 3, 1) := by decide +kernel
theorem dX5_explore_13 : decode cX5_explore 13 = .ok (.iload_n 3, 1) := by decide +kernel
theorem dX5_explore_14 : decode cX5_explore 14 = .ok (.aload_n 0, 1) := by decide +kernel
theorem dX5_explore_15 : decode cX5_explore 15 = .ok (.getfield 25, 3) := by decide +kernel
theorem dX5_explore_18 : decode cX5_explore 18 = .ok (.if_icmp .ge 63, 3) := by decide +kernel
theorem dX5_explore_21 : decode cX5_explore 21 = .ok (.iload_n 3, 1) := by decide +kernel
theorem dX5_explore_22 : decode cX5_explore 22 = .ok (.bipush 120, 2) := by decide +kernel
theorem dX5_explore_24 : decode cX5_explore 24 = .ok (.if_icmp .ge 57, 3) := by decide +kernel
theorem dX5_explore_27 : decode cX5_explore 27 = .ok (.aload_n 0, 1) := by decide +kernel
theorem dX5_explore_28 : decode cX5_explore 28 = .ok (.aload_n 0, 1) := by decide +kernel
theorem dX5_explore_29 : decode cX5_explore 29 = .ok (.aload_n 0, 1) := by decide +kernel
theorem dX5_explore_30 : decode cX5_explore 30 = .ok (.getfield 18, 3) := by decide +kernel
theorem dX5_explore_33 : decode cX5_explore 33 = .ok (.iload_n 3, 1) := by decide +kernel
theorem dX5_explore_34 : decode cX5_explore 34 = .ok (.iaload, 1) := by decide +kernel
theorem dX5_explore_35 : decode cX5_explore 35 = .ok (.iload_n 2, 1) := by decide +kernel
theorem dX5_explore_36 : decode cX5_explore 36 = .ok (.iconst 0, 1) := by decide +kernel
theorem dX5_explore_37 : decode cX5_explore 37 = .ok (.invokevirtual 51, 3) := by decide +kernel
theorem dX5_explore_40 : decode cX5_explore 40 = .ok (.aload_n 0, 1) := by decide +kernel
theorem dX5_explore_41 : decode cX5_explore 41 = .ok (.getfield 22, 3) := by decide +kernel
theorem dX5_explore_44 : decode cX5_explore 44 = .ok (.iload_n 3, 1) := by decide +kernel
theorem dX5_explore_45 : decode cX5_explore 45 = .ok (.iaload, 1) := by decide +kernel
theorem dX5_explore_46 : decode cX5_explore 46 = .ok (.iconst 1, 1) := by decide +kernel
theorem dX5_explore_47 : decode cX5_explore 47 = .ok (.iadd, 1) := by decide +kernel
theorem dX5_explore_48 : decode cX5_explore 48 = .ok (.invokevirtual 47, 3) := by decide +kernel
theorem dX5_explore_51 : decode cX5_explore 51 = .ok (.aload_n 0, 1) := by decide +kernel
theorem dX5_explore_52 : decode cX5_explore 52 = .ok (.aload_n 0, 1) := by decide +kernel
theorem dX5_explore_53 : decode cX5_explore 53 = .ok (.aload_n 0, 1) := by decide +kernel
theorem dX5_explore_54 : decode cX5_explore 54 = .ok (.getfield 18, 3) := by decide +kernel
theorem dX5_explore_57 : decode cX5_explore 57 = .ok (.iload_n 3, 1) := by decide +kernel
theorem dX5_explore_58 : decode cX5_explore 58 = .ok (.iaload, 1) := by decide +kernel
theorem dX5_explore_59 : decode cX5_explore 59 = .ok (.iload_n 2, 1) := by decide +kernel
theorem dX5_explore_60 : decode cX5_explore 60 = .ok (.iconst 1, 1) := by decide +kernel
theorem dX5_explore_61 : decode cX5_explore 61 = .ok (.invokevirtual 51, 3) := by decide +kernel
theorem dX5_explore_64 : decode cX5_explore 64 = .ok (.aload_n 0, 1) := by decide +kernel
theorem dX5_explore_65 : decode cX5_explore 65 = .ok (.getfield 22, 3) := by decide +kernel
theorem dX5_explore_68 : decode cX5_explore 68 = .ok (.iload_n 3, 1) := by decide +kernel
theorem dX5_explore_69 : decode cX5_explore 69 = .ok (.iaload, 1) := by decide +kernel
theorem dX5_explore_70 : decode cX5_explore 70 = .ok (.iconst 1, 1) := by decide +kernel
theorem dX5_explore_71 : decode cX5_explore 71 = .ok (.iadd, 1) := by decide +kernel
theorem dX5_explore_72 : decode cX5_explore 72 = .ok (.invokevirtual 47, 3) := by decide +kernel
theorem dX5_explore_75 : decode cX5_explore 75 = .ok (.iinc 3 1, 3) := by decide +kernel
theorem dX5_explore_78 : decode cX5_explore 78 = .ok (.goto (-65), 3) := by decide +kernel
theorem dX5_explore_81 : decode cX5_explore 81 = .ok (.return_, 1) := by decide +kernel
theorem dX5_note_0 : decode cX5_note 0 = .ok (.iload_n 1, 1) := by decide +kernel
theorem dX5_note_1 : decode cX5_note 1 = .ok (.bipush (-5), 2) := by decide +kernel
theorem dX5_note_3 : decode cX5_note 3 = .ok (.if_icmp .eq 21, 3) := by decide +kernel
theorem dX5_note_6 : decode cX5_note 6 = .ok (.aload_n 0, 1) := by decide +kernel
theorem dX5_note_7 : decode cX5_note 7 = .ok (.iload_n 1, 1) := by decide +kernel
theorem dX5_note_8 : decode cX5_note 8 = .ok (.invokevirtual 55, 3) := by decide +kernel
theorem dX5_note_11 : decode cX5_note 11 = .ok (.iconst (-1), 1) := by decide +kernel
theorem dX5_note_12 : decode cX5_note 12 = .ok (.if_icmp .ne 12, 3) := by decide +kernel
theorem dX5_note_15 : decode cX5_note 15 = .ok (.aload_n 0, 1) := by decide +kernel
theorem dX5_note_16 : decode cX5_note 16 = .ok (.getfield 25, 3) := by decide +kernel
theorem dX5_note_19 : decode cX5_note 19 = .ok (.bipush 120, 2) := by decide +kernel
theorem dX5_note_21 : decode cX5_note 21 = .ok (.if_icmp .lt 4, 3) := by decide +kernel
theorem dX5_note_24 : decode cX5_note 24 = .ok (.return_, 1) := by decide +kernel
theorem dX5_note_25 : decode cX5_note 25 = .ok (.aload_n 0, 1) := by decide +kernel
theorem dX5_note_26 : decode cX5_note 26 = .ok (.getfield 18, 3) := by decide +kernel
theorem dX5_note_29 : decode cX5_note 29 = .ok (.aload_n 0, 1) := by decide +kernel
theorem dX5_note_30 : decode cX5_note 30 = .ok (.getfield 25, 3) := by decide +kernel
theorem dX5_note_33 : decode cX5_note 33 = .ok (.iload_n 1, 1) := by decide +kernel
theorem dX5_note_34 : decode cX5_note 34 = .ok (.iastore, 1) := by decide +kernel
theorem dX5_note_35 : decode cX5_note 35 = .ok (.aload_n 0, 1) := by decide +kernel
theorem dX5_note_36 : decode cX5_note 36 = .ok (.getfield 22, 3) := by decide +kernel
theorem dX5_note_39 : decode cX5_note 39 = .ok (.aload_n 0, 1) := by decide +kernel
theorem dX5_note_40 : decode cX5_note 40 = .ok (.getfield 25, 3) := by decide +kernel
theorem dX5_note_43 : decode cX5_note 43 = .ok (.iload_n 2, 1) := by decide +kernel
theorem dX5_note_44 : decode cX5_note 44 = .ok (.iastore, 1) := by decide +kernel
theorem dX5_note_45 : decode cX5_note 45 = .ok (.aload_n 0, 1) := by decide +kernel
theorem dX5_note_46 : decode cX5_note 46 = .ok (.dup, 1) := by decide +kernel
theorem dX5_note_47 : decode cX5_note 47 = .ok (.getfield 25, 3) := by decide +kernel
theorem dX5_note_50 : decode cX5_note 50 = .ok (.iconst 1, 1) := by decide +kernel
theorem dX5_note_51 : decode cX5_note 51 = .ok (.iadd, 1) := by decide +kernel
theorem dX5_note_52 : decode cX5_note 52 = .ok (.putfield 25, 3) := by decide +kernel
theorem dX5_note_55 : decode cX5_note 55 = .ok (.return_, 1) := by decide +kernel
theorem dX5_indexOf_0 : decode cX5_indexOf 0 = .ok (.iconst 0, 1) := by decide +kernel
theorem dX5_indexOf_1 : decode cX5_indexOf 1 = .ok (.istore_n 2, 1) := by decide +kernel
theorem dX5_indexOf_2 : decode cX5_indexOf 2 = .ok (.iload_n 2, 1) := by decide +kernel
theorem dX5_indexOf_3 : decode cX5_indexOf 3 = .ok (.aload_n 0, 1) := by decide +kernel
theorem dX5_indexOf_4 : decode cX5_indexOf 4 = .ok (.getfield 25, 3) := by decide +kernel
theorem dX5_indexOf_7 : decode cX5_indexOf 7 = .ok (.if_icmp .ge 21, 3) := by decide +kernel
theorem dX5_indexOf_10 : decode cX5_indexOf 10 = .ok (.aload_n 0, 1) := by decide +kernel
theorem dX5_indexOf_11 : decode cX5_indexOf 11 = .ok (.getfield 18, 3) := by decide +kernel
theorem dX5_indexOf_14 : decode cX5_indexOf 14 = .ok (.iload_n 2, 1) := by decide +kernel
theorem dX5_indexOf_15 : decode cX5_indexOf 15 = .ok (.iaload, 1) := by decide +kernel
theorem dX5_indexOf_16 : decode cX5_indexOf 16 = .ok (.iload_n 1, 1) := by decide +kernel
theorem dX5_indexOf_17 : decode cX5_indexOf 17 = .ok (.if_icmp .ne 5, 3) := by decide +kernel
theorem dX5_indexOf_20 : decode cX5_indexOf 20 = .ok (.iload_n 2, 1) := by decide +kernel
theorem dX5_indexOf_21 : decode cX5_indexOf 21 = .ok (.ireturn, 1) := by decide +kernel
theorem dX5_indexOf_22 : decode cX5_indexOf 22 = .ok (.iinc 2 1, 3) := by decide +kernel
theorem dX5_indexOf_25 : decode cX5_indexOf 25 = .ok (.goto (-23), 3) := by decide +kernel
theorem dX5_indexOf_28 : decode cX5_indexOf 28 = .ok (.iconst (-1), 1) := by decide +kernel
theorem dX5_indexOf_29 : decode cX5_indexOf 29 = .ok (.ireturn, 1) := by decide +kernel
theorem dX5_stepsTo_0 : decode cX5_stepsTo 0 = .ok (.aload_n 0, 1) := by decide +kernel
theorem dX5_stepsTo_1 : decode cX5_stepsTo 1 = .ok (.iload_n 1, 1) := by decide +kernel
theorem dX5_stepsTo_2 : decode cX5_stepsTo 2 = .ok (.invokevirtual 55, 3) := by decide +kernel
theorem dX5_stepsTo_5 : decode cX5_stepsTo 5 = .ok (.istore_n 2, 1) := by decide +kernel
theorem dX5_stepsTo_6 : decode cX5_stepsTo 6 = .ok (.iload_n 2, 1) := by decide +kernel
theorem dX5_stepsTo_7 : decode cX5_stepsTo 7 = .ok (.iconst (-1), 1) := by decide +kernel
theorem dX5_stepsTo_8 : decode cX5_stepsTo 8 = .ok (.if_icmp .ne 8, 3) := by decide +kernel
theorem dX5_stepsTo_11 : decode cX5_stepsTo 11 = .ok (.bipush (-5), 2) := by decide +kernel
theorem dX5_stepsTo_13 : decode cX5_stepsTo 13 = .ok (.goto 9, 3) := by decide +kernel
theorem dX5_stepsTo_16 : decode cX5_stepsTo 16 = .ok (.aload_n 0, 1) := by decide +kernel
theorem dX5_stepsTo_17 : decode cX5_stepsTo 17 = .ok (.getfield 22, 3) := by decide +kernel
theorem dX5_stepsTo_20 : decode cX5_stepsTo 20 = .ok (.iload_n 2, 1) := by decide +kernel
theorem dX5_stepsTo_21 : decode cX5_stepsTo 21 = .ok (.iaload, 1) := by decide +kernel
theorem dX5_stepsTo_22 : decode cX5_stepsTo 22 = .ok (.ireturn, 1) := by decide +kernel
theorem dX5_codeOfRank_0 : decode cX5_codeOfRank 0 = .ok (.iconst 0, 1) := by decide +kernel
theorem dX5_codeOfRank_1 : decode cX5_codeOfRank 1 = .ok (.istore_n 2, 1) := by decide +kernel
theorem dX5_codeOfRank_2 : decode cX5_codeOfRank 2 = .ok (.iload_n 2, 1) := by decide +kernel
theorem dX5_codeOfRank_3 : decode cX5_codeOfRank 3 = .ok (.aload_n 0, 1) := by decide +kernel
theorem dX5_codeOfRank_4 : decode cX5_codeOfRank 4 = .ok (.getfield 25, 3) := by decide +kernel
theorem dX5_codeOfRank_7 : decode cX5_codeOfRank 7 = .ok (.if_icmp .ge 30, 3) := by decide +kernel
theorem dX5_codeOfRank_10 : decode cX5_codeOfRank 10 = .ok (.aload_n 0, 1) := by decide +kernel
theorem dX5_codeOfRank_11 : decode cX5_codeOfRank 11 = .ok (.aload_n 0, 1) := by decide +kernel
theorem dX5_codeOfRank_12 : decode cX5_codeOfRank 12 = .ok (.getfield 18, 3) := by decide +kernel
theorem dX5_codeOfRank_15 : decode cX5_codeOfRank 15 = .ok (.iload_n 2, 1) := by decide +kernel
theorem dX5_codeOfRank_16 : decode cX5_codeOfRank 16 = .ok (.iaload, 1) := by decide +kernel
theorem dX5_codeOfRank_17 : decode cX5_codeOfRank 17 = .ok (.invokevirtual 59, 3) := by decide +kernel
theorem dX5_codeOfRank_20 : decode cX5_codeOfRank 20 = .ok (.iload_n 1, 1) := by decide +kernel
theorem dX5_codeOfRank_21 : decode cX5_codeOfRank 21 = .ok (.if_icmp .ne 10, 3) := by decide +kernel
