theorem dX5_codeOfRank_24 : decode cX5_codeOfRank 24 = .ok (.aload_n 0, 1) := by decide +kernel
theorem dX5_codeOfRank_25 : decode cX5_codeOfRank 25 = .ok (.getfield 18, 3) := by decide +kernel
theorem dX5_codeOfRank_28 : decode cX5_codeOfRank 28 = .ok (.iload_n 2, 1) := by decide +kernel
theorem dX5_codeOfRank_29 : decode cX5_codeOfRank 29 = .ok (.iaload, 1) := by decide +kernel
theorem dX5_codeOfRank_30 : decode cX5_codeOfRank 30 = .ok (.ireturn, 1) := by decide +kernel
theorem dX5_codeOfRank_31 : decode cX5_codeOfRank 31 = .ok (.iinc 2 1, 3) := by decide +kernel
theorem dX5_codeOfRank_34 : decode cX5_codeOfRank 34 = .ok (.goto (-32), 3) := by decide +kernel
theorem dX5_codeOfRank_37 : decode cX5_codeOfRank 37 = .ok (.bipush (-5), 2) := by decide +kernel
theorem dX5_codeOfRank_39 : decode cX5_codeOfRank 39 = .ok (.ireturn, 1) := by decide +kernel
theorem dX5_rankOf_0 : decode cX5_rankOf 0 = .ok (.iconst 0, 1) := by decide +kernel
theorem dX5_rankOf_1 : decode cX5_rankOf 1 = .ok (.istore_n 2, 1) := by decide +kernel
theorem dX5_rankOf_2 : decode cX5_rankOf 2 = .ok (.iconst 0, 1) := by decide +kernel
theorem dX5_rankOf_3 : decode cX5_rankOf 3 = .ok (.istore_n 3, 1) := by decide +kernel
theorem dX5_rankOf_4 : decode cX5_rankOf 4 = .ok (.iload_n 3, 1) := by decide +kernel
theorem dX5_rankOf_5 : decode cX5_rankOf 5 = .ok (.aload_n 0, 1) := by decide +kernel
theorem dX5_rankOf_6 : decode cX5_rankOf 6 = .ok (.getfield 25, 3) := by decide +kernel
theorem dX5_rankOf_9 : decode cX5_rankOf 9 = .ok (.if_icmp .ge 22, 3) := by decide +kernel
theorem dX5_rankOf_12 : decode cX5_rankOf 12 = .ok (.aload_n 0, 1) := by decide +kernel
theorem dX5_rankOf_13 : decode cX5_rankOf 13 = .ok (.getfield 18, 3) := by decide +kernel
theorem dX5_rankOf_16 : decode cX5_rankOf 16 = .ok (.iload_n 3, 1) := by decide +kernel
theorem dX5_rankOf_17 : decode cX5_rankOf 17 = .ok (.iaload, 1) := by decide +kernel
theorem dX5_rankOf_18 : decode cX5_rankOf 18 = .ok (.iload_n 1, 1) := by decide +kernel
theorem dX5_rankOf_19 : decode cX5_rankOf 19 = .ok (.if_icmp .ge 6, 3) := by decide +kernel
theorem dX5_rankOf_22 : decode cX5_rankOf 22 = .ok (.iinc 2 1, 3) := by decide +kernel
theorem dX5_rankOf_25 : decode cX5_rankOf 25 = .ok (.iinc 3 1, 3) := by decide +kernel
theorem dX5_rankOf_28 : decode cX5_rankOf 28 = .ok (.goto (-24), 3) := by decide +kernel
theorem dX5_rankOf_31 : decode cX5_rankOf 31 = .ok (.iload_n 2, 1) := by decide +kernel
theorem dX5_rankOf_32 : decode cX5_rankOf 32 = .ok (.ireturn, 1) := by decide +kernel
theorem dX6_init_0 : decode cX6_init 0 = .ok (.aload_n 0, 1) := by decide +kernel
theorem dX6_init_1 : decode cX6_init 1 = .ok (.invokespecial 3, 3) := by decide +kernel
theorem dX6_init_4 : decode cX6_init 4 = .ok (.aload_n 0, 1) := by decide +kernel
theorem dX6_init_5 : decode cX6_init 5 = .ok (.iconst (-1), 1) := by decide +kernel
theorem dX6_init_6 : decode cX6_init 6 = .ok (.putfield 9, 3) := by decide +kernel
theorem dX6_init_9 : decode cX6_init 9 = .ok (.aload_n 0, 1) := by decide +kernel
theorem dX6_init_10 : decode cX6_init 10 = .ok (.iconst 0, 1) := by decide +kernel
theorem dX6_init_11 : decode cX6_init 11 = .ok (.putfield 15, 3) := by decide +kernel
theorem dX6_init_14 : decode cX6_init 14 = .ok (.aload_n 0, 1) := by decide +kernel
theorem dX6_init_15 : decode cX6_init 15 = .ok (.bipush 60, 2) := by decide +kernel
theorem dX6_init_17 : decode cX6_init 17 = .ok (.newarray .long, 2) := by decide +kernel
theorem dX6_init_19 : decode cX6_init 19 = .ok (.putfield 18, 3) := by decide +kernel
theorem dX6_init_22 : decode cX6_init 22 = .ok (.return_, 1) := by decide +kernel
theorem dX6_become_0 : decode cX6_become 0 = .ok (.aload_n 0, 1) := by decide +kernel
theorem dX6_become_1 : decode cX6_become 1 = .ok (.iload_n 1, 1) := by decide +kernel
theorem dX6_become_2 : decode cX6_become 2 = .ok (.putfield 9, 3) := by decide +kernel
theorem dX6_become_5 : decode cX6_become 5 = .ok (.aload_n 0, 1) := by decide +kernel
theorem dX6_become_6 : decode cX6_become 6 = .ok (.iconst 0, 1) := by decide +kernel
theorem dX6_become_7 : decode cX6_become 7 = .ok (.iload_n 2, 1) := by decide +kernel
theorem dX6_become_8 : decode cX6_become 8 = .ok (.bipush 60, 2) := by decide +kernel
theorem dX6_become_10 : decode cX6_become 10 = .ok (.invokestatic 22, 3) := by decide +kernel
theorem dX6_become_13 : decode cX6_become 13 = .ok (.invokestatic 28, 3) := by decide +kernel
theorem dX6_become_16 : decode cX6_become 16 = .ok (.putfield 15, 3) := by decide +kernel
theorem dX6_become_19 : decode cX6_become 19 = .ok (.aload_n 0, 1) := by decide +kernel
theorem dX6_become_20 : decode cX6_become 20 = .ok (.getfield 18, 3) := by decide +kernel
theorem dX6_become_23 : decode cX6_become 23 = .ok (.lconst 0, 1) := by decide +kernel
theorem dX6_become_24 : decode cX6_become 24 = .ok (.invokestatic 31, 3) := by decide +kernel
theorem dX6_become_27 : decode cX6_become 27 = .ok (.return_, 1) := by decide +kernel
theorem dX6_hasPlace_0 : decode cX6_hasPlace 0 = .ok (.iload_n 1, 1) := by decide +kernel
theorem dX6_hasPlace_1 : decode cX6_hasPlace 1 = .ok (.ifCond .lt 15, 3) := by decide +kernel
theorem dX6_hasPlace_4 : decode cX6_hasPlace 4 = .ok (.iload_n 1, 1) := by decide +kernel
theorem dX6_hasPlace_5 : decode cX6_hasPlace 5 = .ok (.aload_n 0, 1) := by decide +kernel
theorem dX6_hasPlace_6 : decode cX6_hasPlace 6 = .ok (.getfield 15, 3) := by decide +kernel
theorem dX6_hasPlace_9 : decode cX6_hasPlace 9 = .ok (.if_icmp .ge 7, 3) := by decide +kernel
theorem dX6_hasPlace_12 : decode cX6_hasPlace 12 = .ok (.iconst 1, 1) := by decide +kernel
theorem dX6_hasPlace_13 : decode cX6_hasPlace 13 = .ok (.goto 4, 3) := by decide +kernel
theorem dX6_hasPlace_16 : decode cX6_hasPlace 16 = .ok (.iconst 0, 1) := by decide +kernel
theorem dX6_hasPlace_17 : decode cX6_hasPlace 17 = .ok (.ireturn, 1) := by decide +kernel
theorem dX6_hasRun_0 : decode cX6_hasRun 0 = .ok (.iload_n 1, 1) := by decide +kernel
theorem dX6_hasRun_1 : decode cX6_hasRun 1 = .ok (.ifCond .lt 21, 3) := by decide +kernel
theorem dX6_hasRun_4 : decode cX6_hasRun 4 = .ok (.iload_n 2, 1) := by decide +kernel
theorem dX6_hasRun_5 : decode cX6_hasRun 5 = .ok (.ifCond .lt 17, 3) := by decide +kernel
theorem dX6_hasRun_8 : decode cX6_hasRun 8 = .ok (.iload_n 1, 1) := by decide +kernel
theorem dX6_hasRun_9 : decode cX6_hasRun 9 = .ok (.aload_n 0, 1) := by decide +kernel
theorem dX6_hasRun_10 : decode cX6_hasRun 10 = .ok (.getfield 15, 3) := by decide +kernel
theorem dX6_hasRun_13 : decode cX6_hasRun 13 = .ok (.iload_n 2, 1) := by decide +kernel
theorem dX6_hasRun_14 : decode cX6_hasRun 14 = .ok (.isub, 1) := by decide +kernel
theorem dX6_hasRun_15 : decode cX6_hasRun 15 = .ok (.if_icmp .gt 7, 3) := by decide +kernel
theorem dX6_hasRun_18 : decode cX6_hasRun 18 = .ok (.iconst 1, 1) := by decide +kernel
theorem dX6_hasRun_19 : decode cX6_hasRun 19 = .ok (.goto 4, 3) := by decide +kernel
theorem dX6_hasRun_22 : decode cX6_hasRun 22 = .ok (.iconst 0, 1) := by decide +kernel
theorem dX6_hasRun_23 : decode cX6_hasRun 23 = .ok (.ireturn, 1) := by decide +kernel
theorem dX6_put_0 : decode cX6_put 0 = .ok (.aload_n 0, 1) := by decide +kernel
theorem dX6_put_1 : decode cX6_put 1 = .ok (.iload_n 1, 1) := by decide +kernel
theorem dX6_put_2 : decode cX6_put 2 = .ok (.invokevirtual 37, 3) := by decide +kernel
theorem dX6_put_5 : decode cX6_put 5 = .ok (.ifCond .ne 4, 3) := by decide +kernel
theorem dX6_put_8 : decode cX6_put 8 = .ok (.return_, 1) := by decide +kernel
theorem dX6_put_9 : decode cX6_put 9 = .ok (.aload_n 0, 1) := by decide +kernel
theorem dX6_put_10 : decode cX6_put 10 = .ok (.getfield 9, 3) := by decide +kernel
theorem dX6_put_13 : decode cX6_put 13 = .ok (.tableswitch 79 0 3 #[31, 44, 57, 69], 31) := by decide +kernel
theorem dX6_put_44 : decode cX6_put 44 = .ok (.aload_n 0, 1) := by decide +kernel
theorem dX6_put_45 : decode cX6_put 45 = .ok (.getfield 18, 3) := by decide +kernel
theorem dX6_put_48 : decode cX6_put 48 = .ok (.iload_n 1, 1) := by decide +kernel
theorem dX6_put_49 : decode cX6_put 49 = .ok (.lload_n 2, 1) := by decide +kernel
theorem dX6_put_50 : decode cX6_put 50 = .ok (.l2i, 1) := by decide +kernel
theorem dX6_put_51 : decode cX6_put 51 = .ok (.i2b, 1) := by decide +kernel
theorem dX6_put_52 : decode cX6_put 52 = .ok (.i2l, 1) := by decide +kernel
theorem dX6_put_53 : decode cX6_put 53 = .ok (.lastore, 1) := by decide +kernel
theorem dX6_put_54 : decode cX6_put 54 = .ok (.goto 55, 3) := by decide +kernel
theorem dX6_put_57 : decode cX6_put 57 = .ok (.aload_n 0, 1) := by decide +kernel
theorem dX6_put_58 : decode cX6_put 58 = .ok (.getfield 18, 3) := by decide +kernel
theorem dX6_put_61 : decode cX6_put 61 = .ok (.iload_n 1, 1) := by decide +kernel
theorem dX6_put_62 : decode cX6_put 62 = .ok (.lload_n 2, 1) := by decide +kernel
theorem dX6_put_63 : decode cX6_put 63 = .ok (.l2i, 1) := by decide +kernel
theorem dX6_put_64 : decode cX6_put 64 = .ok (.i2s, 1) := by decide +kernel
theorem dX6_put_65 : decode cX6_put 65 = .ok (.i2l, 1) := by decide +kernel
theorem dX6_put_66 : decode cX6_put 66 = .ok (.lastore, 1) := by decide +kernel
theorem dX6_put_67 : decode cX6_put 67 = .ok (.goto 42, 3) := by decide +kernel
theorem dX6_put_70 : decode cX6_put 70 = .ok (.aload_n 0, 1) := by decide +kernel
theorem dX6_put_71 : decode cX6_put 71 = .ok (.getfield 18, 3) := by decide +kernel
theorem dX6_put_74 : decode cX6_put 74 = .ok (.iload_n 1, 1) := by decide +kernel
theorem dX6_put_75 : decode cX6_put 75 = .ok (.lload_n 2, 1) := by decide +kernel
theorem dX6_put_76 : decode cX6_put 76 = .ok (.l2i, 1) := by decide +kernel
theorem dX6_put_77 : decode cX6_put 77 = .ok (.i2l, 1) := by decide +kernel
theorem dX6_put_78 : decode cX6_put 78 = .ok (.lastore, 1) := by decide +kernel
theorem dX6_put_79 : decode cX6_put 79 = .ok (.goto 30, 3) := by decide +kernel
theorem dX6_put_82 : decode cX6_put 82 = .ok (.aload_n 0, 1) := by decide +kernel
theorem dX6_put_83 : decode cX6_put 83 = .ok (.getfield 18, 3) := by decide +kernel
theorem dX6_put_86 : decode cX6_put 86 = .ok (.iload_n 1, 1) := by decide +kernel
theorem dX6_put_87 : decode cX6_put 87 = .ok (.lload_n 2, 1) := by decide +kernel
theorem dX6_put_88 : decode cX6_put 88 = .ok (.lastore, 1) := by decide +kernel
theorem dX6_put_89 : decode cX6_put 89 = .ok (.goto 20, 3) := by decide +kernel
theorem dX6_put_92 : decode cX6_put 92 = .ok (.aload_n 0, 1) := by decide +kernel
theorem dX6_put_93 : decode cX6_put 93 = .ok (.getfield 18, 3) := by decide +kernel
theorem dX6_put_96 : decode cX6_put 96 = .ok (.iload_n 1, 1) := by decide +kernel
theorem dX6_put_97 : decode cX6_put 97 = .ok (.lload_n 2, 1) := by decide +kernel
theorem dX6_put_98 : decode cX6_put 98 = .ok (.lconst 0, 1) := by decide +kernel
theorem dX6_put_99 : decode cX6_put 99 = .ok (.lcmp, 1) := by decide +kernel
theorem dX6_put_100 : decode cX6_put 100 = .ok (.ifCond .eq 7, 3) := by decide +kernel
theorem dX6_put_103 : decode cX6_put 103 = .ok (.lconst 1, 1) := by decide +kernel
theorem dX6_put_104 : decode cX6_put 104 = .ok (.goto 4, 3) := by decide +kernel
theorem dX6_put_107 : decode cX6_put 107 = .ok (.lconst 0, 1) := by decide +kernel
theorem dX6_put_108 : decode cX6_put 108 = .ok (.lastore, 1) := by decide +kernel
theorem dX6_put_109 : decode cX6_put 109 = .ok (.return_, 1) := by decide +kernel
theorem dX7_init_0 : decode cX7_init 0 = .ok (.aload_n 0, 1) := by decide +kernel
theorem dX7_init_1 : decode cX7_init 1 = .ok (.invokespecial 3, 3) := by decide +kernel
theorem dX7_init_4 : decode cX7_init 4 = .ok (.aload_n 0, 1) := by decide +kernel
theorem dX7_init_5 : decode cX7_init 5 = .ok (.bipush 100, 2) := by decide +kernel
theorem dX7_init_7 : decode cX7_init 7 = .ok (.newarray .byte, 2) := by decide +kernel
theorem dX7_init_9 : decode cX7_init 9 = .ok (.putfield 9, 3) := by decide +kernel
theorem dX7_init_12 : decode cX7_init 12 = .ok (.aload_n 0, 1) := by decide +kernel
theorem dX7_init_13 : decode cX7_init 13 = .ok (.iconst 0, 1) := by decide +kernel
theorem dX7_init_14 : decode cX7_init 14 = .ok (.putfield 15, 3) := by decide +kernel
theorem dX7_init_17 : decode cX7_init 17 = .ok (.aload_n 0, 1) := by decide +kernel
theorem dX7_init_18 : decode cX7_init 18 = .ok (.iconst 0, 1) := by decide +kernel
theorem dX7_init_19 : decode cX7_init 19 = .ok (.putfield 19, 3) := by decide +kernel
theorem dX7_init_22 : decode cX7_init 22 = .ok (.aload_n 0, 1) := by decide +kernel
theorem dX7_init_23 : decode cX7_init 23 = .ok (.iconst 0, 1) := by decide +kernel
theorem dX7_init_24 : decode cX7_init 24 = .ok (.putfield 22, 3) := by decide +kernel
theorem dX7_init_27 : decode cX7_init 27 = .ok (.aload_n 0, 1) := by decide +kernel
theorem dX7_init_28 : decode cX7_init 28 = .ok (.bipush 12, 2) := by decide +kernel
theorem dX7_init_30 : decode cX7_init 30 = .ok (.newarray .int, 2) := by decide +kernel
theorem dX7_init_32 : decode cX7_init 32 = .ok (.putfield 25, 3) := by decide +kernel
theorem dX7_init_35 : decode cX7_init 35 = .ok (.aload_n 0, 1) := by decide +kernel
theorem dX7_init_36 : decode cX7_init 36 = .ok (.bipush 12, 2) := by decide +kernel
theorem dX7_init_38 : decode cX7_init 38 = .ok (.newarray .int, 2) := by decide +kernel
theorem dX7_init_40 : decode cX7_init 40 = .ok (.putfield 29, 3) := by decide +kernel
theorem dX7_init_43 : decode cX7_init 43 = .ok (.aload_n 0, 1) := by decide +kernel
theorem dX7_init_44 : decode cX7_init 44 = .ok (.bipush 12, 2) := by decide +kernel
theorem dX7_init_46 : decode cX7_init 46 = .ok (.newarray .int, 2) := by decide +kernel
theorem dX7_init_48 : decode cX7_init 48 = .ok (.putfield 32, 3) := by decide +kernel
theorem dX7_init_51 : decode cX7_init 51 = .ok (.return_, 1) := by decide +kernel
theorem dX7_add_0 : decode cX7_add 0 = .ok (.aload_n 0, 1) := by decide +kernel
theorem dX7_add_1 : decode cX7_add 1 = .ok (.getfield 19, 3) := by decide +kernel
theorem dX7_add_4 : decode cX7_add 4 = .ok (.bipush 100, 2) := by decide +kernel
theorem dX7_add_6 : decode cX7_add 6 = .ok (.if_icmp .lt 6, 3) := by decide +kernel
theorem dX7_add_9 : decode cX7_add 9 = .ok (.bipush (-4), 2) := by decide +kernel
theorem dX7_add_11 : decode cX7_add 11 = .ok (.ireturn, 1) := by decide +kernel
theorem dX7_add_12 : decode cX7_add 12 = .ok (.aload_n 0, 1) := by decide +kernel
theorem dX7_add_13 : decode cX7_add 13 = .ok (.getfield 9, 3) := by decide +kernel
theorem dX7_add_16 : decode cX7_add 16 = .ok (.aload_n 0, 1) := by decide +kernel
theorem dX7_add_17 : decode cX7_add 17 = .ok (.getfield 19, 3) := by decide +kernel
theorem dX7_add_20 : decode cX7_add 20 = .ok (.iload_n 1, 1) := by decide +kernel
theorem dX7_add_21 : decode cX7_add 21 = .ok (.i2b, 1) := by decide +kernel
theorem dX7_add_22 : decode cX7_add 22 = .ok (.bastore, 1) := by decide +kernel
theorem dX7_add_23 : decode cX7_add 23 = .ok (.aload_n 0, 1) := by decide +kernel
theorem dX7_add_24 : decode cX7_add 24 = .ok (.dup, 1) := by decide +kernel
theorem dX7_add_25 : decode cX7_add 25 = .ok (.getfield 19, 3) := by decide +kernel
theorem dX7_add_28 : decode cX7_add 28 = .ok (.iconst 1, 1) := by decide +kernel
theorem dX7_add_29 : decode cX7_add 29 = .ok (.iadd, 1) := by decide +kernel
theorem dX7_add_30 : decode cX7_add 30 = .ok (.putfield 19, 3) := by decide +kernel
theorem dX7_add_33 : decode cX7_add 33 = .ok (.aload_n 0, 1) := by decide +kernel
theorem dX7_add_34 : decode cX7_add 34 = .ok (.getfield 19, 3) := by decide +kernel
theorem dX7_add_37 : decode cX7_add 37 = .ok (.ireturn, 1) := by decide +kernel
theorem dX7_clear_0 : decode cX7_clear 0 = .ok (.aload_n 0, 1) := by decide +kernel
theorem dX7_clear_1 : decode cX7_clear 1 = .ok (.iconst 0, 1) := by decide +kernel
theorem dX7_clear_2 : decode cX7_clear 2 = .ok (.putfield 19, 3) := by decide +kernel
theorem dX7_clear_5 : decode cX7_clear 5 = .ok (.return_, 1) := by decide +kernel
theorem dX7_findFault_0 : decode cX7_findFault 0 = .ok (.aload_n 0, 1) := by decide +kernel
theorem dX7_findFault_1 : decode cX7_findFault 1 = .ok (.iconst 0, 1) := by decide +kernel
theorem dX7_findFault_2 : decode cX7_findFault 2 = .ok (.putfield 15, 3) := by decide +kernel
theorem dX7_findFault_5 : decode cX7_findFault 5 = .ok (.aload_n 0, 1) := by decide +kernel
theorem dX7_findFault_6 : decode cX7_findFault 6 = .ok (.iconst 0, 1) := by decide +kernel
theorem dX7_findFault_7 : decode cX7_findFault 7 = .ok (.putfield 22, 3) := by decide +kernel
theorem dX7_findFault_10 : decode cX7_findFault 10 = .ok (.iconst 0, 1) := by decide +kernel
theorem dX7_findFault_11 : decode cX7_findFault 11 = .ok (.istore_n 1, 1) := by decide +kernel
theorem dX7_findFault_12 : decode cX7_findFault 12 = .ok (.iload_n 1, 1) := by decide +kernel
theorem dX7_findFault_13 : decode cX7_findFault 13 = .ok (.bipush 12, 2) := by decide +kernel
theorem dX7_findFault_15 : decode cX7_findFault 15 = .ok (.if_icmp .ge 75, 3) := by decide +kernel
theorem dX7_findFault_18 : decode cX7_findFault 18 = .ok (.aload_n 0, 1) := by decide +kernel
theorem dX7_findFault_19 : decode cX7_findFault 19 = .ok (.iload_n 1, 1) := by decide +kernel
theorem dX7_findFault_20 : decode cX7_findFault 20 = .ok (.invokevirtual 35, 3) := by decide +kernel
theorem dX7_findFault_23 : decode cX7_findFault 23 = .ok (.ifCond .ne 8, 3) := by decide +kernel
theorem dX7_findFault_26 : decode cX7_findFault 26 = .ok (.aload_n 0, 1) := by decide +kernel
theorem dX7_findFault_27 : decode cX7_findFault 27 = .ok (.getfield 15, 3) := by decide +kernel
theorem dX7_findFault_30 : decode cX7_findFault 30 = .ok (.ireturn, 1) := by decide +kernel
theorem dX7_findFault_31 : decode cX7_findFault 31 = .ok (.aload_n 0, 1) := by decide +kernel
theorem dX7_findFault_32 : decode cX7_findFault 32 = .ok (.iload_n 1, 1) := by decide +kernel
theorem dX7_findFault_33 : decode cX7_findFault 33 = .ok (.iconst 1, 1) := by decide +kernel
theorem dX7_findFault_34 : decode cX7_findFault 34 = .ok (.iadd, 1) := by decide +kernel
theorem dX7_findFault_35 : decode cX7_findFault 35 = .ok (.putfield 22, 3) := by decide +kernel
theorem dX7_findFault_38 : decode cX7_findFault 38 = .ok (.aload_n 0, 1) := by decide +kernel
theorem dX7_findFault_39 : decode cX7_findFault 39 = .ok (.getfield 15, 3) := by decide +kernel
theorem dX7_findFault_42 : decode cX7_findFault 42 = .ok (.aload_n 0, 1) := by decide +kernel
theorem dX7_findFault_43 : decode cX7_findFault 43 = .ok (.getfield 19, 3) := by decide +kernel
theorem dX7_findFault_46 : decode cX7_findFault 46 = .ok (.if_icmp .ne 5, 3) := by decide +kernel
theorem dX7_findFault_49 : decode cX7_findFault 49 = .ok (.iconst (-1), 1) := by decide +kernel
theorem dX7_findFault_50 : decode cX7_findFault 50 = .ok (.ireturn, 1) := by decide +kernel
theorem dX7_findFault_51 : decode cX7_findFault 51 = .ok (.aload_n 0, 1) := by decide +kernel
theorem dX7_findFault_52 : decode cX7_findFault 52 = .ok (.invokevirtual 39, 3) := by decide +kernel
theorem dX7_findFault_55 : decode cX7_findFault 55 = .ok (.bipush 59, 2) := by decide +kernel
theorem dX7_findFault_57 : decode cX7_findFault 57 = .ok (.if_icmp .ne 12, 3) := by decide +kernel
theorem dX7_findFault_60 : decode cX7_findFault 60 = .ok (.aload_n 0, 1) := by decide +kernel
theorem dX7_findFault_61 : decode cX7_findFault 61 = .ok (.getfield 22, 3) := by decide +kernel
theorem dX7_findFault_64 : decode cX7_findFault 64 = .ok (.bipush 12, 2) := by decide +kernel
theorem dX7_findFault_66 : decode cX7_findFault 66 = .ok (.if_icmp .ne 8, 3) := by decide +kernel
theorem dX7_findFault_69 : decode cX7_findFault 69 = .ok (.aload_n 0, 1) := by decide +kernel
theorem dX7_findFault_70 : decode cX7_findFault 70 = .ok (.getfield 15, 3) := by decide +kernel
theorem dX7_findFault_73 : decode cX7_findFault 73 = .ok (.ireturn, 1) := by decide +kernel
theorem dX7_findFault_74 : decode cX7_findFault 74 = .ok (.aload_n 0, 1) := by decide +kernel
theorem dX7_findFault_75 : decode cX7_findFault 75 = .ok (.dup, 1) := by decide +kernel
theorem dX7_findFault_76 : decode cX7_findFault 76 = .ok (.getfield 15, 3) := by decide +kernel
theorem dX7_findFault_79 : decode cX7_findFault 79 = .ok (.iconst 1, 1) := by decide +kernel
theorem dX7_findFault_80 : decode cX7_findFault 80 = .ok (.iadd, 1) := by decide +kernel
theorem dX7_findFault_81 : decode cX7_findFault 81 = .ok (.putfield 15, 3) := by decide +kernel
theorem dX7_findFault_84 : decode cX7_findFault 84 = .ok (.iinc 1 1, 3) := by decide +kernel
theorem dX7_findFault_87 : decode cX7_findFault 87 = .ok (.goto (-75), 3) := by decide +kernel
theorem dX7_findFault_90 : decode cX7_findFault 90 = .ok (.aload_n 0, 1) := by decide +kernel
theorem dX7_findFault_91 : decode cX7_findFault 91 = .ok (.getfield 15, 3) := by decide +kernel
theorem dX7_findFault_94 : decode cX7_findFault 94 = .ok (.ireturn, 1) := by decide +kernel
theorem dX7_takeClause_0 : decode cX7_takeClause 0 = .ok (.aload_n 0, 1) := by decide +kernel
theorem dX7_takeClause_1 : decode cX7_takeClause 1 = .ok (.invokevirtual 39, 3) := by decide +kernel
theorem dX7_takeClause_4 : decode cX7_takeClause 4 = .ok (.istore_n 2, 1) := by decide +kernel
theorem dX7_takeClause_5 : decode cX7_takeClause 5 = .ok (.iload_n 2, 1) := by decide +kernel
theorem dX7_takeClause_6 : decode cX7_takeClause 6 = .ok (.iconst 0, 1) := by decide +kernel
theorem dX7_takeClause_7 : decode cX7_takeClause 7 = .ok (.invokestatic 43, 3) := by decide +kernel
theorem dX7_takeClause_10 : decode cX7_takeClause 10 = .ok (.istore_n 3, 1) := by decide +kernel
theorem dX7_takeClause_11 : decode cX7_takeClause 11 = .ok (.iload_n 3, 1) := by decide +kernel
theorem dX7_takeClause_12 : decode cX7_takeClause 12 = .ok (.iconst (-1), 1) := by decide +kernel
theorem dX7_takeClause_13 : decode cX7_takeClause 13 = .ok (.if_icmp .ne 5, 3) := by decide +kernel
theorem dX7_takeClause_16 : decode cX7_takeClause 16 = .ok (.iconst 0, 1) := by decide +kernel
theorem dX7_takeClause_17 : decode cX7_takeClause 17 = .ok (.ireturn, 1) := by decide +kernel
theorem dX7_takeClause_18 : decode cX7_takeClause 18 = .ok (.aload_n 0, 1) := by decide +kernel
theorem dX7_takeClause_19 : decode cX7_takeClause 19 = .ok (.dup, 1) := by decide +kernel
theorem dX7_takeClause_20 : decode cX7_takeClause 20 = .ok (.getfield 15, 3) := by decide +kernel
theorem dX7_takeClause_23 : decode cX7_takeClause 23 = .ok (.iconst 1, 1) := by decide +kernel
theorem dX7_takeClause_24 : decode cX7_takeClause 24 = .ok (.iadd, 1) := by decide +kernel
theorem dX7_takeClause_25 : decode cX7_takeClause 25 = .ok (.putfield 15, 3) := by decide +kernel
theorem dX7_takeClause_28 : decode cX7_takeClause 28 = .ok (.aload_n 0, 1) := by decide +kernel
theorem dX7_takeClause_29 : decode cX7_takeClause 29 = .ok (.iload_n 3, 1) := by decide +kernel
theorem dX7_takeClause_30 : decode cX7_takeClause 30 = .ok (.invokevirtual 47, 3) := by decide +kernel
theorem dX7_takeClause_33 : decode cX7_takeClause 33 = .ok (.istore 4, 2) := by decide +kernel
theorem dX7_takeClause_35 : decode cX7_takeClause 35 = .ok (.iload 4, 2) := by decide +kernel
theorem dX7_takeClause_37 : decode cX7_takeClause 37 = .ok (.iconst (-1), 1) := by decide +kernel
theorem dX7_takeClause_38 : decode cX7_takeClause 38 = .ok (.if_icmp .ne 5, 3) := by decide +kernel
theorem dX7_takeClause_41 : decode cX7_takeClause 41 = .ok (.iconst 0, 1) := by decide +kernel
theorem dX7_takeClause_42 : decode cX7_takeClause 42 = .ok (.ireturn, 1) := by decide +kernel
theorem dX7_takeClause_43 : decode cX7_takeClause 43 = .ok (.aload_n 0, 1) := by decide +kernel
theorem dX7_takeClause_44 : decode cX7_takeClause 44 = .ok (.iload_n 2, 1) := by decide +kernel
theorem dX7_takeClause_45 : decode cX7_takeClause 45 = .ok (.iconst 1, 1) := by decide +kernel
theorem dX7_takeClause_46 : decode cX7_takeClause 46 = .ok (.invokestatic 43, 3) := by decide +kernel
theorem dX7_takeClause_49 : decode cX7_takeClause 49 = .ok (.invokevirtual 47, 3) := by decide +kernel
theorem dX7_takeClause_52 : decode cX7_takeClause 52 = .ok (.istore 5, 2) := by decide +kernel
theorem dX7_takeClause_54 : decode cX7_takeClause 54 = .ok (.aload_n 0, 1) := by decide +kernel
theorem dX7_takeClause_55 : decode cX7_takeClause 55 = .ok (.getfield 25, 3) := by decide +kernel
theorem dX7_takeClause_58 : decode cX7_takeClause 58 = .ok (.iload_n 1, 1) := by decide +kernel
theorem dX7_takeClause_59 : decode cX7_takeClause 59 = .ok (.iload_n 2, 1) := by decide +kernel
theorem dX7_takeClause_60 : decode cX7_takeClause 60 = .ok (.iastore, 1) := by decide +kernel
theorem dX7_takeClause_61 : decode cX7_takeClause 61 = .ok (.aload_n 0, 1) := by decide +kernel
theorem dX7_takeClause_62 : decode cX7_takeClause 62 = .ok (.getfield 29, 3) := by decide +kernel
theorem dX7_takeClause_65 : decode cX7_takeClause 65 = .ok (.iload_n 1, 1) := by decide +kernel
theorem dX7_takeClause_66 : decode cX7_takeClause 66 = .ok (.iload 4, 2) := by decide +kernel
theorem dX7_takeClause_68 : decode cX7_takeClause 68 = .ok (.iastore, 1) := by decide +kernel
theorem dX7_takeClause_69 : decode cX7_takeClause 69 = .ok (.aload_n 0, 1) := by decide +kernel
theorem dX7_takeClause_70 : decode cX7_takeClause 70 = .ok (.getfield 32, 3) := by decide +kernel
theorem dX7_takeClause_73 : decode cX7_takeClause 73 = .ok (.iload_n 1, 1) := by decide +kernel
theorem dX7_takeClause_74 : decode cX7_takeClause 74 = .ok (.iload 5, 2) := by decide +kernel
theorem dX7_takeClause_76 : decode cX7_takeClause 76 = .ok (.iastore, 1) := by decide +kernel
theorem dX7_takeClause_77 : decode cX7_takeClause 77 = .ok (.iload 5, 2) := by decide +kernel
theorem dX7_takeClause_79 : decode cX7_takeClause 79 = .ok (.iconst (-1), 1) := by decide +kernel
theorem dX7_takeClause_80 : decode cX7_takeClause 80 = .ok (.if_icmp .eq 7, 3) := by decide +kernel
theorem dX7_takeClause_83 : decode cX7_takeClause 83 = .ok (.iconst 1, 1) := by decide +kernel
theorem dX7_takeClause_84 : decode cX7_takeClause 84 = .ok (.goto 4, 3) := by decide +kernel
theorem dX7_takeClause_87 : decode cX7_takeClause 87 = .ok (.iconst 0, 1) := by decide +kernel
theorem dX7_takeClause_88 : decode cX7_takeClause 88 = .ok (.ireturn, 1) := by decide +kernel
theorem dX7_mostDigits_0 : decode cX7_mostDigits 0 = .ok (.iload_n 0, 1) := by decide +kernel
theorem dX7_mostDigits_1 : decode cX7_mostDigits 1 = .ok (.tableswitch 151 98 119 #[113, 151, 151, 151, 151, 151, 151, 151, 151, 147, 133, 151, 103, 151, 151, 151, 123, 145, 151, 149, 151, 143], 103) := by decide +kernel
theorem dX7_mostDigits_104 : decode cX7_mostDigits 104 = .ok (.iload_n 1, 1) := by decide +kernel
theorem dX7_mostDigits_105 : decode cX7_mostDigits 105 = .ok (.ifCond .ne 7, 3) := by decide +kernel
theorem dX7_mostDigits_108 : decode cX7_mostDigits 108 = .ok (.iconst 1, 1) := by decide +kernel
theorem dX7_mostDigits_109 : decode cX7_mostDigits 109 = .ok (.goto 4, 3) := by decide +kernel
theorem dX7_mostDigits_112 : decode cX7_mostDigits 112 = .ok (.iconst 0, 1) := by decide +kernel
theorem dX7_mostDigits_113 : decode cX7_mostDigits 113 = .ok (.ireturn, 1) := by decide +kernel
theorem dX7_mostDigits_114 : decode cX7_mostDigits 114 = .ok (.iload_n 1, 1) := by decide +kernel
theorem dX7_mostDigits_115 : decode cX7_mostDigits 115 = .ok (.ifCond .ne 7, 3) := by decide +kernel
theorem dX7_mostDigits_118 : decode cX7_mostDigits 118 = .ok (.iconst 1, 1) := by decide +kernel
theorem dX7_mostDigits_119 : decode cX7_mostDigits 119 = .ok (.goto 4, 3) := by decide +kernel
theorem dX7_mostDigits_122 : decode cX7_mostDigits 122 = .ok (.iconst 0, 1) := by decide +kernel
theorem dX7_mostDigits_123 : decode cX7_mostDigits 123 = .ok (.ireturn, 1) := by decide +kernel
theorem dX7_mostDigits_124 : decode cX7_mostDigits 124 = .ok (.iload_n 1, 1) := by decide +kernel
theorem dX7_mostDigits_125 : decode cX7_mostDigits 125 = .ok (.ifCond .ne 7, 3) := by decide +kernel
theorem dX7_mostDigits_128 : decode cX7_mostDigits 128 = .ok (.iconst 5, 1) := by decide +kernel
theorem dX7_mostDigits_129 : decode cX7_mostDigits 129 = .ok (.goto 4, 3) := by decide +kernel
theorem dX7_mostDigits_132 : decode cX7_mostDigits 132 = .ok (.iconst 0, 1) := by decide +kernel
theorem dX7_mostDigits_133 : decode cX7_mostDigits 133 = .ok (.ireturn, 1) := by decide +kernel
theorem dX7_mostDigits_134 : decode cX7_mostDigits 134 = .ok (.iload_n 1, 1) := by decide +kernel
theorem dX7_mostDigits_135 : decode cX7_mostDigits 135 = .ok (.ifCond .ne 7, 3) := by decide +kernel
theorem dX7_mostDigits_138 : decode cX7_mostDigits 138 = .ok (.iconst 1, 1) := by decide +kernel
theorem dX7_mostDigits_139 : decode cX7_mostDigits 139 = .ok (.goto 4, 3) := by decide +kernel
theorem dX7_mostDigits_142 : decode cX7_mostDigits 142 = .ok (.iconst 3, 1) := by decide +kernel
theorem dX7_mostDigits_143 : decode cX7_mostDigits 143 = .ok (.ireturn, 1) := by decide +kernel
theorem dX7_mostDigits_144 : decode cX7_mostDigits 144 = .ok (.iconst 1, 1) := by decide +kernel
theorem dX7_mostDigits_145 : decode cX7_mostDigits 145 = .ok (.ireturn, 1) := by decide +kernel
theorem dX7_mostDigits_146 : decode cX7_mostDigits 146 = .ok (.iconst 0, 1) := by decide +kernel
theorem dX7_mostDigits_147 : decode cX7_mostDigits 147 = .ok (.ireturn, 1) := by decide +kernel
theorem dX7_mostDigits_148 : decode cX7_mostDigits 148 = .ok (.iconst 0, 1) := by decide +kernel
theorem dX7_mostDigits_149 : decode cX7_mostDigits 149 = .ok (.ireturn, 1) := by decide +kernel
theorem dX7_mostDigits_150 : decode cX7_mostDigits 150 = .ok (.iconst 0, 1) := by decide +kernel
theorem dX7_mostDigits_151 : decode cX7_mostDigits 151 = .ok (.ireturn, 1) := by decide +kernel
theorem dX7_mostDigits_152 : decode cX7_mostDigits 152 = .ok (.iconst (-1), 1) := by decide +kernel
theorem dX7_mostDigits_153 : decode cX7_mostDigits 153 = .ok (.ireturn, 1) := by decide +kernel
theorem dX7_takeNumber_0 : decode cX7_takeNumber 0 = .ok (.iconst 0, 1) := by decide +kernel
theorem dX7_takeNumber_1 : decode cX7_takeNumber 1 = .ok (.istore_n 2, 1) := by decide +kernel
theorem dX7_takeNumber_2 : decode cX7_takeNumber 2 = .ok (.iconst 0, 1) := by decide +kernel
theorem dX7_takeNumber_3 : decode cX7_takeNumber 3 = .ok (.istore_n 3, 1) := by decide +kernel
theorem dX7_takeNumber_4 : decode cX7_takeNumber 4 = .ok (.iload_n 3, 1) := by decide +kernel
theorem dX7_takeNumber_5 : decode cX7_takeNumber 5 = .ok (.iload_n 1, 1) := by decide +kernel
theorem dX7_takeNumber_6 : decode cX7_takeNumber 6 = .ok (.if_icmp .ge 58, 3) := by decide +kernel
theorem dX7_takeNumber_9 : decode cX7_takeNumber 9 = .ok (.aload_n 0, 1) := by decide +kernel
theorem dX7_takeNumber_10 : decode cX7_takeNumber 10 = .ok (.invokevirtual 39, 3) := by decide +kernel
theorem dX7_takeNumber_13 : decode cX7_takeNumber 13 = .ok (.bipush 48, 2) := by decide +kernel
theorem dX7_takeNumber_15 : decode cX7_takeNumber 15 = .ok (.isub, 1) := by decide +kernel
theorem dX7_takeNumber_16 : decode cX7_takeNumber 16 = .ok (.istore 4, 2) := by decide +kernel
theorem dX7_takeNumber_18 : decode cX7_takeNumber 18 = .ok (.iload 4, 2) := by decide +kernel
theorem dX7_takeNumber_20 : decode cX7_takeNumber 20 = .ok (.ifCond .lt 10, 3) := by decide +kernel
theorem dX7_takeNumber_23 : decode cX7_takeNumber 23 = .ok (.iload 4, 2) := by decide +kernel
theorem dX7_takeNumber_25 : decode cX7_takeNumber 25 = .ok (.bipush 9, 2) := by decide +kernel
theorem dX7_takeNumber_27 : decode cX7_takeNumber 27 = .ok (.if_icmp .le 13, 3) := by decide +kernel
theorem dX7_takeNumber_30 : decode cX7_takeNumber 30 = .ok (.iload_n 3, 1) := by decide +kernel
theorem dX7_takeNumber_31 : decode cX7_takeNumber 31 = .ok (.ifCond .ne 7, 3) := by decide +kernel
theorem dX7_takeNumber_34 : decode cX7_takeNumber 34 = .ok (.iconst (-1), 1) := by decide +kernel
theorem dX7_takeNumber_35 : decode cX7_takeNumber 35 = .ok (.goto 4, 3) := by decide +kernel
theorem dX7_takeNumber_38 : decode cX7_takeNumber 38 = .ok (.iload_n 2, 1) := by decide +kernel
theorem dX7_takeNumber_39 : decode cX7_takeNumber 39 = .ok (.ireturn, 1) := by decide +kernel
theorem dX7_takeNumber_40 : decode cX7_takeNumber 40 = .ok (.iload_n 2, 1) := by decide +kernel
theorem dX7_takeNumber_41 : decode cX7_takeNumber 41 = .ok (.bipush 10, 2) := by decide +kernel
theorem dX7_takeNumber_43 : decode cX7_takeNumber 43 = .ok (.imul, 1) := by decide +kernel
theorem dX7_takeNumber_44 : decode cX7_takeNumber 44 = .ok (.iload 4, 2) := by decide +kernel
theorem dX7_takeNumber_46 : decode cX7_takeNumber 46 = .ok (.iadd, 1) := by decide +kernel
theorem dX7_takeNumber_47 : decode cX7_takeNumber 47 = .ok (.istore_n 2, 1) := by decide +kernel
theorem dX7_takeNumber_48 : decode cX7_takeNumber 48 = .ok (.aload_n 0, 1) := by decide +kernel
theorem dX7_takeNumber_49 : decode cX7_takeNumber 49 = .ok (.dup, 1) := by decide +kernel
theorem dX7_takeNumber_50 : decode cX7_takeNumber 50 = .ok (.getfield 15, 3) := by decide +kernel
theorem dX7_takeNumber_53 : decode cX7_takeNumber 53 = .ok (.iconst 1, 1) := by decide +kernel
theorem dX7_takeNumber_54 : decode cX7_takeNumber 54 = .ok (.iadd, 1) := by decide +kernel
theorem dX7_takeNumber_55 : decode cX7_takeNumber 55 = .ok (.putfield 15, 3) := by decide +kernel
theorem dX7_takeNumber_58 : decode cX7_takeNumber 58 = .ok (.iinc 3 1, 3) := by decide +kernel
theorem dX7_takeNumber_61 : decode cX7_takeNumber 61 = .ok (.goto (-57), 3) := by decide +kernel
theorem dX7_takeNumber_64 : decode cX7_takeNumber 64 = .ok (.iload_n 2, 1) := by decide +kernel
theorem dX7_takeNumber_65 : decode cX7_takeNumber 65 = .ok (.ireturn, 1) := by decide +kernel
theorem dX7_signHere_0 : decode cX7_signHere 0 = .ok (.aload_n 0, 1) := by decide +kernel
theorem dX7_signHere_1 : decode cX7_signHere 1 = .ok (.getfield 15, 3) := by decide +kernel
theorem dX7_signHere_4 : decode cX7_signHere 4 = .ok (.ifCond .lt 26, 3) := by decide +kernel
theorem dX7_signHere_7 : decode cX7_signHere 7 = .ok (.aload_n 0, 1) := by decide +kernel
theorem dX7_signHere_8 : decode cX7_signHere 8 = .ok (.getfield 15, 3) := by decide +kernel
theorem dX7_signHere_11 : decode cX7_signHere 11 = .ok (.aload_n 0, 1) := by decide +kernel
theorem dX7_signHere_12 : decode cX7_signHere 12 = .ok (.getfield 19, 3) := by decide +kernel
theorem dX7_signHere_15 : decode cX7_signHere 15 = .ok (.if_icmp .ge 15, 3) := by decide +kernel
theorem dX7_signHere_18 : decode cX7_signHere 18 = .ok (.aload_n 0, 1) := by decide +kernel
theorem dX7_signHere_19 : decode cX7_signHere 19 = .ok (.getfield 9, 3) := by decide +kernel
theorem dX7_signHere_22 : decode cX7_signHere 22 = .ok (.aload_n 0, 1) := by decide +kernel
theorem dX7_signHere_23 : decode cX7_signHere 23 = .ok (.getfield 15, 3) := by decide +kernel
theorem dX7_signHere_26 : decode cX7_signHere 26 = .ok (.baload, 1) := by decide +kernel
theorem dX7_signHere_27 : decode cX7_signHere 27 = .ok (.goto 4, 3) := by decide +kernel
theorem dX7_signHere_30 : decode cX7_signHere 30 = .ok (.iconst (-1), 1) := by decide +kernel
theorem dX7_signHere_31 : decode cX7_signHere 31 = .ok (.ireturn, 1) := by decide +kernel
theorem dX8_init_0 : decode cX8_init 0 = .ok (.aload_n 0, 1) := by decide +kernel
theorem dX8_init_1 : decode cX8_init 1 = .ok (.invokespecial 5, 3) := by decide +kernel
theorem dX8_init_4 : decode cX8_init 4 = .ok (.aload_n 0, 1) := by decide +kernel
theorem dX8_init_5 : decode cX8_init 5 = .ok (.new 11, 3) := by decide +kernel
theorem dX8_init_8 : decode cX8_init 8 = .ok (.dup, 1) := by decide +kernel
theorem dX8_init_9 : decode cX8_init 9 = .ok (.invokespecial 13, 3) := by decide +kernel
theorem dX8_init_12 : decode cX8_init 12 = .ok (.putfield 14, 3) := by decide +kernel
theorem dX8_init_15 : decode cX8_init 15 = .ok (.aload_n 0, 1) := by decide +kernel
theorem dX8_init_16 : decode cX8_init 16 = .ok (.new 11, 3) := by decide +kernel
theorem dX8_init_19 : decode cX8_init 19 = .ok (.dup, 1) := by decide +kernel
theorem dX8_init_20 : decode cX8_init 20 = .ok (.invokespecial 13, 3) := by decide +kernel
theorem dX8_init_23 : decode cX8_init 23 = .ok (.putfield 18, 3) := by decide +kernel
theorem dX8_init_26 : decode cX8_init 26 = .ok (.aload_n 0, 1) := by decide +kernel
theorem dX8_init_27 : decode cX8_init 27 = .ok (.iconst 0, 1) := by decide +kernel
theorem dX8_init_28 : decode cX8_init 28 = .ok (.putfield 21, 3) := by decide +kernel
theorem dX8_init_31 : decode cX8_init 31 = .ok (.aload_n 0, 1) := by decide +kernel
theorem dX8_init_32 : decode cX8_init 32 = .ok (.new 25, 3) := by decide +kernel
theorem dX8_init_35 : decode cX8_init 35 = .ok (.dup, 1) := by decide +kernel
theorem dX8_init_36 : decode cX8_init 36 = .ok (.invokespecial 27, 3) := by decide +kernel
theorem dX8_init_39 : decode cX8_init 39 = .ok (.putfield 28, 3) := by decide +kernel
theorem dX8_init_42 : decode cX8_init 42 = .ok (.aload_n 0, 1) := by decide +kernel
theorem dX8_init_43 : decode cX8_init 43 = .ok (.new 32, 3) := by decide +kernel
theorem dX8_init_46 : decode cX8_init 46 = .ok (.dup, 1) := by decide +kernel
theorem dX8_init_47 : decode cX8_init 47 = .ok (.invokespecial 34, 3) := by decide +kernel
theorem dX8_init_50 : decode cX8_init 50 = .ok (.putfield 35, 3) := by decide +kernel
theorem dX8_init_53 : decode cX8_init 53 = .ok (.aload_n 0, 1) := by decide +kernel
theorem dX8_init_54 : decode cX8_init 54 = .ok (.new 39, 3) := by decide +kernel
theorem dX8_init_57 : decode cX8_init 57 = .ok (.dup, 1) := by decide +kernel
theorem dX8_init_58 : decode cX8_init 58 = .ok (.invokespecial 41, 3) := by decide +kernel
theorem dX8_init_61 : decode cX8_init 61 = .ok (.putfield 42, 3) := by decide +kernel
theorem dX8_init_64 : decode cX8_init 64 = .ok (.aload_n 0, 1) := by decide +kernel
theorem dX8_init_65 : decode cX8_init 65 = .ok (.new 46, 3) := by decide +kernel
theorem dX8_init_68 : decode cX8_init 68 = .ok (.dup, 1) := by decide +kernel
theorem dX8_init_69 : decode cX8_init 69 = .ok (.invokespecial 48, 3) := by decide +kernel
theorem dX8_init_72 : decode cX8_init 72 = .ok (.putfield 49, 3) := by decide +kernel
theorem dX8_init_75 : decode cX8_init 75 = .ok (.aload_n 0, 1) := by decide +kernel
theorem dX8_init_76 : decode cX8_init 76 = .ok (.new 53, 3) := by decide +kernel
theorem dX8_init_79 : decode cX8_init 79 = .ok (.dup, 1) := by decide +kernel
theorem dX8_init_80 : decode cX8_init 80 = .ok (.invokespecial 55, 3) := by decide +kernel
theorem dX8_init_83 : decode cX8_init 83 = .ok (.putfield 56, 3) := by decide +kernel
theorem dX8_init_86 : decode cX8_init 86 = .ok (.aload_n 0, 1) := by decide +kernel
theorem dX8_init_87 : decode cX8_init 87 = .ok (.bipush 6, 2) := by decide +kernel
theorem dX8_init_89 : decode cX8_init 89 = .ok (.anewarray 60, 3) := by decide +kernel
theorem dX8_init_92 : decode cX8_init 92 = .ok (.putfield 62, 3) := by decide +kernel
theorem dX8_init_95 : decode cX8_init 95 = .ok (.iconst 0, 1) := by decide +kernel
theorem dX8_init_96 : decode cX8_init 96 = .ok (.istore_n 1, 1) := by decide +kernel
theorem dX8_init_97 : decode cX8_init 97 = .ok (.iload_n 1, 1) := by decide +kernel
theorem dX8_init_98 : decode cX8_init 98 = .ok (.bipush 6, 2) := by decide +kernel
theorem dX8_init_100 : decode cX8_init 100 = .ok (.if_icmp .ge 22, 3) := by decide +kernel
theorem dX8_init_103 : decode cX8_init 103 = .ok (.aload_n 0, 1) := by decide +kernel
theorem dX8_init_104 : decode cX8_init 104 = .ok (.getfield 62, 3) := by decide +kernel
theorem dX8_init_107 : decode cX8_init 107 = .ok (.iload_n 1, 1) := by decide +kernel
theorem dX8_init_108 : decode cX8_init 108 = .ok (.new 60, 3) := by decide +kernel
theorem dX8_init_111 : decode cX8_init 111 = .ok (.dup, 1) := by decide +kernel
theorem dX8_init_112 : decode cX8_init 112 = .ok (.invokespecial 66, 3) := by decide +kernel
theorem dX8_init_115 : decode cX8_init 115 = .ok (.aastore, 1) := by decide +kernel
theorem dX8_init_116 : decode cX8_init 116 = .ok (.iinc 1 1, 3) := by decide +kernel
theorem dX8_init_119 : decode cX8_init 119 = .ok (.goto (-22), 3) := by decide +kernel
theorem dX8_init_122 : decode cX8_init 122 = .ok (.return_, 1) := by decide +kernel
theorem dX8_letters_0 : decode cX8_letters 0 = .ok (.iload_n 1, 1) := by decide +kernel
theorem dX8_letters_1 : decode cX8_letters 1 = .ok (.iconst 2, 1) := by decide +kernel
theorem dX8_letters_2 : decode cX8_letters 2 = .ok (.if_icmp .lt 8, 3) := by decide +kernel
theorem dX8_letters_5 : decode cX8_letters 5 = .ok (.iload_n 1, 1) := by decide +kernel
theorem dX8_letters_6 : decode cX8_letters 6 = .ok (.iconst 5, 1) := by decide +kernel
theorem dX8_letters_7 : decode cX8_letters 7 = .ok (.if_icmp .le 6, 3) := by decide +kernel
theorem dX8_letters_10 : decode cX8_letters 10 = .ok (.bipush (-2), 2) := by decide +kernel
theorem dX8_letters_12 : decode cX8_letters 12 = .ok (.ireturn, 1) := by decide +kernel
theorem dX8_letters_13 : decode cX8_letters 13 = .ok (.aload_n 0, 1) := by decide +kernel
theorem dX8_letters_14 : decode cX8_letters 14 = .ok (.getfield 14, 3) := by decide +kernel
theorem dX8_letters_17 : decode cX8_letters 17 = .ok (.getfield 67, 3) := by decide +kernel
theorem dX8_letters_20 : decode cX8_letters 20 = .ok (.getfield 70, 3) := by decide +kernel
theorem dX8_letters_23 : decode cX8_letters 23 = .ok (.istore_n 2, 1) := by decide +kernel
theorem dX8_letters_24 : decode cX8_letters 24 = .ok (.aload_n 0, 1) := by decide +kernel
theorem dX8_letters_25 : decode cX8_letters 25 = .ok (.getfield 14, 3) := by decide +kernel
theorem dX8_letters_28 : decode cX8_letters 28 = .ok (.iload_n 1, 1) := by decide +kernel
theorem dX8_letters_29 : decode cX8_letters 29 = .ok (.invokevirtual 74, 3) := by decide +kernel
theorem dX8_letters_32 : decode cX8_letters 32 = .ok (.aload_n 0, 1) := by decide +kernel
theorem dX8_letters_33 : decode cX8_letters 33 = .ok (.getfield 28, 3) := by decide +kernel
theorem dX8_letters_36 : decode cX8_letters 36 = .ok (.invokevirtual 78, 3) := by decide +kernel
theorem dX8_letters_39 : decode cX8_letters 39 = .ok (.iload_n 2, 1) := by decide +kernel
theorem dX8_letters_40 : decode cX8_letters 40 = .ok (.ireturn, 1) := by decide +kernel
theorem dX8_bottom_0 : decode cX8_bottom 0 = .ok (.iload_n 1, 1) := by decide +kernel
theorem dX8_bottom_1 : decode cX8_bottom 1 = .ok (.aload_n 0, 1) := by decide +kernel
theorem dX8_bottom_2 : decode cX8_bottom 2 = .ok (.getfield 14, 3) := by decide +kernel
theorem dX8_bottom_5 : decode cX8_bottom 5 = .ok (.getfield 67, 3) := by decide +kernel
theorem dX8_bottom_8 : decode cX8_bottom 8 = .ok (.getfield 70, 3) := by decide +kernel
theorem dX8_bottom_11 : decode cX8_bottom 11 = .ok (.invokestatic 81, 3) := by decide +kernel
theorem dX8_bottom_14 : decode cX8_bottom 14 = .ok (.ifCond .ne 6, 3) := by decide +kernel
theorem dX8_bottom_17 : decode cX8_bottom 17 = .ok (.bipush (-2), 2) := by decide +kernel
theorem dX8_bottom_19 : decode cX8_bottom 19 = .ok (.ireturn, 1) := by decide +kernel
theorem dX8_bottom_20 : decode cX8_bottom 20 = .ok (.aload_n 0, 1) := by decide +kernel
theorem dX8_bottom_21 : decode cX8_bottom 21 = .ok (.getfield 14, 3) := by decide +kernel
theorem dX8_bottom_24 : decode cX8_bottom 24 = .ok (.getfield 67, 3) := by decide +kernel
theorem dX8_bottom_27 : decode cX8_bottom 27 = .ok (.iload_n 1, 1) := by decide +kernel
theorem dX8_bottom_28 : decode cX8_bottom 28 = .ok (.invokevirtual 85, 3) := by decide +kernel
theorem dX8_bottom_31 : decode cX8_bottom 31 = .ok (.aload_n 0, 1) := by decide +kernel
theorem dX8_bottom_32 : decode cX8_bottom 32 = .ok (.getfield 28, 3) := by decide +kernel
theorem dX8_bottom_35 : decode cX8_bottom 35 = .ok (.invokevirtual 78, 3) := by decide +kernel
theorem dX8_bottom_38 : decode cX8_bottom 38 = .ok (.iconst 1, 1) := by decide +kernel
theorem dX8_bottom_39 : decode cX8_bottom 39 = .ok (.ireturn, 1) := by decide +kernel
theorem dX8_length_0 : decode cX8_length 0 = .ok (.aload_n 0, 1) := by decide +kernel
theorem dX8_length_1 : decode cX8_length 1 = .ok (.getfield 14, 3) := by decide +kernel
theorem dX8_length_4 : decode cX8_length 4 = .ok (.getfield 67, 3) := by decide +kernel
theorem dX8_length_7 : decode cX8_length 7 = .ok (.iload_n 1, 1) := by decide +kernel
theorem dX8_length_8 : decode cX8_length 8 = .ok (.invokevirtual 88, 3) := by decide +kernel
theorem dX8_length_11 : decode cX8_length 11 = .ok (.ifCond .ne 5, 3) := by decide +kernel
theorem dX8_length_14 : decode cX8_length 14 = .ok (.iconst (-1), 1) := by decide +kernel
theorem dX8_length_15 : decode cX8_length 15 = .ok (.ireturn, 1) := by decide +kernel
theorem dX8_length_16 : decode cX8_length 16 = .ok (.iload_n 2, 1) := by decide +kernel
theorem dX8_length_17 : decode cX8_length 17 = .ok (.invokestatic 92, 3) := by decide +kernel
theorem dX8_length_20 : decode cX8_length 20 = .ok (.ifCond .ne 6, 3) := by decide +kernel
theorem dX8_length_23 : decode cX8_length 23 = .ok (.bipush (-2), 2) := by decide +kernel
theorem dX8_length_25 : decode cX8_length 25 = .ok (.ireturn, 1) := by decide +kernel
theorem dX8_length_26 : decode cX8_length 26 = .ok (.aload_n 0, 1) := by decide +kernel
theorem dX8_length_27 : decode cX8_length 27 = .ok (.getfield 28, 3) := by decide +kernel
theorem dX8_length_30 : decode cX8_length 30 = .ok (.aload_n 0, 1) := by decide +kernel
theorem dX8_length_31 : decode cX8_length 31 = .ok (.getfield 14, 3) := by decide +kernel
theorem dX8_length_34 : decode cX8_length 34 = .ok (.getfield 67, 3) := by decide +kernel
theorem dX8_length_37 : decode cX8_length 37 = .ok (.invokevirtual 95, 3) := by decide +kernel
theorem dX8_length_40 : decode cX8_length 40 = .ok (.aload_n 0, 1) := by decide +kernel
theorem dX8_length_41 : decode cX8_length 41 = .ok (.getfield 14, 3) := by decide +kernel
theorem dX8_length_44 : decode cX8_length 44 = .ok (.getfield 67, 3) := by decide +kernel
theorem dX8_length_47 : decode cX8_length 47 = .ok (.getfield 99, 3) := by decide +kernel
theorem dX8_length_50 : decode cX8_length 50 = .ok (.iload_n 1, 1) := by decide +kernel
theorem dX8_length_51 : decode cX8_length 51 = .ok (.iaload, 1) := by decide +kernel
theorem dX8_length_52 : decode cX8_length 52 = .ok (.istore_n 3, 1) := by decide +kernel
theorem dX8_length_53 : decode cX8_length 53 = .ok (.aload_n 0, 1) := by decide +kernel
theorem dX8_length_54 : decode cX8_length 54 = .ok (.getfield 14, 3) := by decide +kernel
theorem dX8_length_57 : decode cX8_length 57 = .ok (.getfield 67, 3) := by decide +kernel
theorem dX8_length_60 : decode cX8_length 60 = .ok (.getfield 99, 3) := by decide +kernel
theorem dX8_length_63 : decode cX8_length 63 = .ok (.iload_n 1, 1) := by decide +kernel
theorem dX8_length_64 : decode cX8_length 64 = .ok (.iload_n 2, 1) := by decide +kernel
theorem dX8_length_65 : decode cX8_length 65 = .ok (.iastore, 1) := by decide +kernel
theorem dX8_length_66 : decode cX8_length 66 = .ok (.iload_n 3, 1) := by decide +kernel
theorem dX8_length_67 : decode cX8_length 67 = .ok (.ireturn, 1) := by decide +kernel
theorem dX8_swap_0 : decode cX8_swap 0 = .ok (.aload_n 0, 1) := by decide +kernel
theorem dX8_swap_1 : decode cX8_swap 1 = .ok (.getfield 14, 3) := by decide +kernel
theorem dX8_swap_4 : decode cX8_swap 4 = .ok (.getfield 67, 3) := by decide +kernel
theorem dX8_swap_7 : decode cX8_swap 7 = .ok (.iload_n 1, 1) := by decide +kernel
theorem dX8_swap_8 : decode cX8_swap 8 = .ok (.invokevirtual 88, 3) := by decide +kernel
theorem dX8_swap_11 : decode cX8_swap 11 = .ok (.ifCond .eq 22, 3) := by decide +kernel
theorem dX8_swap_14 : decode cX8_swap 14 = .ok (.aload_n 0, 1) := by decide +kernel
theorem dX8_swap_15 : decode cX8_swap 15 = .ok (.getfield 14, 3) := by decide +kernel
theorem dX8_swap_18 : decode cX8_swap 18 = .ok (.getfield 67, 3) := by decide +kernel
theorem dX8_swap_21 : decode cX8_swap 21 = .ok (.iload_n 2, 1) := by decide +kernel
theorem dX8_swap_22 : decode cX8_swap 22 = .ok (.invokevirtual 88, 3) := by decide +kernel
theorem dX8_swap_25 : decode cX8_swap 25 = .ok (.ifCond .eq 8, 3) := by decide +kernel
theorem dX8_swap_28 : decode cX8_swap 28 = .ok (.iload_n 1, 1) := by decide +kernel
theorem dX8_swap_29 : decode cX8_swap 29 = .ok (.iload_n 2, 1) := by decide +kernel
theorem dX8_swap_30 : decode cX8_swap 30 = .ok (.if_icmp .ne 5, 3) := by decide +kernel
theorem dX8_swap_33 : decode cX8_swap 33 = .ok (.iconst (-1), 1) := by decide +kernel
theorem dX8_swap_34 : decode cX8_swap 34 = .ok (.ireturn, 1) := by decide +kernel
theorem dX8_swap_35 : decode cX8_swap 35 = .ok (.aload_n 0, 1) := by decide +kernel
theorem dX8_swap_36 : decode cX8_swap 36 = .ok (.getfield 28, 3) := by decide +kernel
theorem dX8_swap_39 : decode cX8_swap 39 = .ok (.aload_n 0, 1) := by decide +kernel
theorem dX8_swap_40 : decode cX8_swap 40 = .ok (.getfield 14, 3) := by decide +kernel
theorem dX8_swap_43 : decode cX8_swap 43 = .ok (.getfield 67, 3) := by decide +kernel
theorem dX8_swap_46 : decode cX8_swap 46 = .ok (.invokevirtual 95, 3) := by decide +kernel
theorem dX8_swap_49 : decode cX8_swap 49 = .ok (.aload_n 0, 1) := by decide +kernel
theorem dX8_swap_50 : decode cX8_swap 50 = .ok (.getfield 14, 3) := by decide +kernel
theorem dX8_swap_53 : decode cX8_swap 53 = .ok (.getfield 67, 3) := by decide +kernel
theorem dX8_swap_56 : decode cX8_swap 56 = .ok (.iload_n 1, 1) := by decide +kernel
theorem dX8_swap_57 : decode cX8_swap 57 = .ok (.iload_n 2, 1) := by decide +kernel
theorem dX8_swap_58 : decode cX8_swap 58 = .ok (.invokevirtual 103, 3) := by decide +kernel
theorem dX8_swap_61 : decode cX8_swap 61 = .ok (.iconst 1, 1) := by decide +kernel
theorem dX8_swap_62 : decode cX8_swap 62 = .ok (.ireturn, 1) := by decide +kernel
theorem dX8_step_0 : decode cX8_step 0 = .ok (.aload_n 0, 1) := by decide +kernel
theorem dX8_step_1 : decode cX8_step 1 = .ok (.getfield 14, 3) := by decide +kernel
theorem dX8_step_4 : decode cX8_step 4 = .ok (.getfield 67, 3) := by decide +kernel
theorem dX8_step_7 : decode cX8_step 7 = .ok (.invokevirtual 107, 3) := by decide +kernel
theorem dX8_step_10 : decode cX8_step 10 = .ok (.istore_n 1, 1) := by decide +kernel
theorem dX8_step_11 : decode cX8_step 11 = .ok (.iload_n 1, 1) := by decide +kernel
theorem dX8_step_12 : decode cX8_step 12 = .ok (.iconst (-1), 1) := by decide +kernel
theorem dX8_step_13 : decode cX8_step 13 = .ok (.if_icmp .ne 6, 3) := by decide +kernel
theorem dX8_step_16 : decode cX8_step 16 = .ok (.bipush (-3), 2) := by decide +kernel
theorem dX8_step_18 : decode cX8_step 18 = .ok (.ireturn, 1) := by decide +kernel
theorem dX8_step_19 : decode cX8_step 19 = .ok (.aload_n 0, 1) := by decide +kernel
theorem dX8_step_20 : decode cX8_step 20 = .ok (.getfield 28, 3) := by decide +kernel
theorem dX8_step_23 : decode cX8_step 23 = .ok (.aload_n 0, 1) := by decide +kernel
theorem dX8_step_24 : decode cX8_step 24 = .ok (.getfield 14, 3) := by decide +kernel
theorem dX8_step_27 : decode cX8_step 27 = .ok (.getfield 67, 3) := by decide +kernel
theorem dX8_step_30 : decode cX8_step 30 = .ok (.invokevirtual 95, 3) := by decide +kernel
theorem dX8_step_33 : decode cX8_step 33 = .ok (.aload_n 0, 1) := by decide +kernel
theorem dX8_step_34 : decode cX8_step 34 = .ok (.getfield 14, 3) := by decide +kernel
theorem dX8_step_37 : decode cX8_step 37 = .ok (.getfield 67, 3) := by decide +kernel
theorem dX8_step_40 : decode cX8_step 40 = .ok (.iload_n 1, 1) := by decide +kernel
theorem dX8_step_41 : decode cX8_step 41 = .ok (.invokevirtual 111, 3) := by decide +kernel
theorem dX8_step_44 : decode cX8_step 44 = .ok (.iload_n 1, 1) := by decide +kernel
theorem dX8_step_45 : decode cX8_step 45 = .ok (.ireturn, 1) := by decide +kernel
theorem dX8_back_0 : decode cX8_back 0 = .ok (.iload_n 1, 1) := by decide +kernel
theorem dX8_back_1 : decode cX8_back 1 = .ok (.invokestatic 114, 3) := by decide +kernel
theorem dX8_back_4 : decode cX8_back 4 = .ok (.ifCond .ne 5, 3) := by decide +kernel
theorem dX8_back_7 : decode cX8_back 7 = .ok (.iconst (-1), 1) := by decide +kernel
theorem dX8_back_8 : decode cX8_back 8 = .ok (.ireturn, 1) := by decide +kernel
theorem dX8_back_9 : decode cX8_back 9 = .ok (.aload_n 0, 1) := by decide +kernel
theorem dX8_back_10 : decode cX8_back 10 = .ok (.getfield 14, 3) := by decide +kernel
theorem dX8_back_13 : decode cX8_back 13 = .ok (.getfield 67, 3) := by decide +kernel
theorem dX8_back_16 : decode cX8_back 16 = .ok (.iload_n 1, 1) := by decide +kernel
theorem dX8_back_17 : decode cX8_back 17 = .ok (.invokevirtual 117, 3) := by decide +kernel
theorem dX8_back_20 : decode cX8_back 20 = .ok (.istore_n 2, 1) := by decide +kernel
theorem dX8_back_21 : decode cX8_back 21 = .ok (.iload_n 2, 1) := by decide +kernel
theorem dX8_back_22 : decode cX8_back 22 = .ok (.ifCond .ge 5, 3) := by decide +kernel
theorem dX8_back_25 : decode cX8_back 25 = .ok (.iload_n 2, 1) := by decide +kernel
theorem dX8_back_26 : decode cX8_back 26 = .ok (.ireturn, 1) := by decide +kernel
theorem dX8_back_27 : decode cX8_back 27 = .ok (.aload_n 0, 1) := by decide +kernel
theorem dX8_back_28 : decode cX8_back 28 = .ok (.getfield 28, 3) := by decide +kernel
theorem dX8_back_31 : decode cX8_back 31 = .ok (.aload_n 0, 1) := by decide +kernel
theorem dX8_back_32 : decode cX8_back 32 = .ok (.getfield 14, 3) := by decide +kernel
theorem dX8_back_35 : decode cX8_back 35 = .ok (.getfield 67, 3) := by decide +kernel
theorem dX8_back_38 : decode cX8_back 38 = .ok (.invokevirtual 95, 3) := by decide +kernel
theorem dX8_back_41 : decode cX8_back 41 = .ok (.aload_n 0, 1) := by decide +kernel
theorem dX8_back_42 : decode cX8_back 42 = .ok (.getfield 14, 3) := by decide +kernel
theorem dX8_back_45 : decode cX8_back 45 = .ok (.getfield 67, 3) := by decide +kernel
theorem dX8_back_48 : decode cX8_back 48 = .ok (.iload_n 1, 1) := by decide +kernel
theorem dX8_back_49 : decode cX8_back 49 = .ok (.invokevirtual 121, 3) := by decide +kernel
theorem dX8_back_52 : decode cX8_back 52 = .ok (.aload_n 0, 1) := by decide +kernel
theorem dX8_back_53 : decode cX8_back 53 = .ok (.getfield 14, 3) := by decide +kernel
theorem dX8_back_56 : decode cX8_back 56 = .ok (.getfield 67, 3) := by decide +kernel
theorem dX8_back_59 : decode cX8_back 59 = .ok (.invokevirtual 124, 3) := by decide +kernel
theorem dX8_back_62 : decode cX8_back 62 = .ok (.ireturn, 1) := by decide +kernel
theorem dX8_takeBack_0 : decode cX8_takeBack 0 = .ok (.aload_n 0, 1) := by decide +kernel
theorem dX8_takeBack_1 : decode cX8_takeBack 1 = .ok (.getfield 28, 3) := by decide +kernel
theorem dX8_takeBack_4 : decode cX8_takeBack 4 = .ok (.getfield 127, 3) := by decide +kernel
theorem dX8_takeBack_7 : decode cX8_takeBack 7 = .ok (.ifCond .ne 6, 3) := by decide +kernel
theorem dX8_takeBack_10 : decode cX8_takeBack 10 = .ok (.bipush (-3), 2) := by decide +kernel
theorem dX8_takeBack_12 : decode cX8_takeBack 12 = .ok (.ireturn, 1) := by decide +kernel
theorem dX8_takeBack_13 : decode cX8_takeBack 13 = .ok (.aload_n 0, 1) := by decide +kernel
theorem dX8_takeBack_14 : decode cX8_takeBack 14 = .ok (.getfield 28, 3) := by decide +kernel
theorem dX8_takeBack_17 : decode cX8_takeBack 17 = .ok (.aload_n 0, 1) := by decide +kernel
theorem dX8_takeBack_18 : decode cX8_takeBack 18 = .ok (.getfield 14, 3) := by decide +kernel
theorem dX8_takeBack_21 : decode cX8_takeBack 21 = .ok (.getfield 67, 3) := by decide +kernel
theorem dX8_takeBack_24 : decode cX8_takeBack 24 = .ok (.invokevirtual 130, 3) := by decide +kernel
theorem dX8_takeBack_27 : decode cX8_takeBack 27 = .ok (.aload_n 0, 1) := by decide +kernel
theorem dX8_takeBack_28 : decode cX8_takeBack 28 = .ok (.getfield 28, 3) := by decide +kernel
theorem dX8_takeBack_31 : decode cX8_takeBack 31 = .ok (.getfield 127, 3) := by decide +kernel
theorem dX8_takeBack_34 : decode cX8_takeBack 34 = .ok (.ireturn, 1) := by decide +kernel
theorem dX8_keep_0 : decode cX8_keep 0 = .ok (.aload_n 0, 1) := by decide +kernel
theorem dX8_keep_1 : decode cX8_keep 1 = .ok (.getfield 14, 3) := by decide +kernel
theorem dX8_keep_4 : decode cX8_keep 4 = .ok (.aload_n 0, 1) := by decide +kernel
theorem dX8_keep_5 : decode cX8_keep 5 = .ok (.getfield 14, 3) := by decide +kernel
theorem dX8_keep_8 : decode cX8_keep 8 = .ok (.getfield 67, 3) := by decide +kernel
theorem dX8_keep_11 : decode cX8_keep 11 = .ok (.invokevirtual 133, 3) := by decide +kernel
theorem dX8_keep_14 : decode cX8_keep 14 = .ok (.putfield 136, 3) := by decide +kernel
theorem dX8_keep_17 : decode cX8_keep 17 = .ok (.aload_n 0, 1) := by decide +kernel
theorem dX8_keep_18 : decode cX8_keep 18 = .ok (.getfield 14, 3) := by decide +kernel
theorem dX8_keep_21 : decode cX8_keep 21 = .ok (.getfield 136, 3) := by decide +kernel
theorem dX8_keep_24 : decode cX8_keep 24 = .ok (.ireturn, 1) := by decide +kernel
theorem dX8_feed_0 : decode cX8_feed 0 = .ok (.iload_n 1, 1) := by decide +kernel
theorem dX8_feed_1 : decode cX8_feed 1 = .ok (.ifCond .lt 9, 3) := by decide +kernel
theorem dX8_feed_4 : decode cX8_feed 4 = .ok (.iload_n 1, 1) := by decide +kernel
theorem dX8_feed_5 : decode cX8_feed 5 = .ok (.bipush 127, 2) := by decide +kernel
theorem dX8_feed_7 : decode cX8_feed 7 = .ok (.if_icmp .le 6, 3) := by decide +kernel
theorem dX8_feed_10 : decode cX8_feed 10 = .ok (.bipush (-2), 2) := by decide +kernel
theorem dX8_feed_12 : decode cX8_feed 12 = .ok (.ireturn, 1) := by decide +kernel
theorem dX8_feed_13 : decode cX8_feed 13 = .ok (.aload_n 0, 1) := by decide +kernel
theorem dX8_feed_14 : decode cX8_feed 14 = .ok (.getfield 35, 3) := by decide +kernel
theorem dX8_feed_17 : decode cX8_feed 17 = .ok (.iload_n 1, 1) := by decide +kernel
theorem dX8_feed_18 : decode cX8_feed 18 = .ok (.invokevirtual 139, 3) := by decide +kernel
theorem dX8_feed_21 : decode cX8_feed 21 = .ok (.ireturn, 1) := by decide +kernel
theorem dX8_read_0 : decode cX8_read 0 = .ok (.aload_n 0, 1) := by decide +kernel
theorem dX8_read_1 : decode cX8_read 1 = .ok (.getfield 35, 3) := by decide +kernel
theorem dX8_read_4 : decode cX8_read 4 = .ok (.invokevirtual 142, 3) := by decide +kernel
theorem dX8_read_7 : decode cX8_read 7 = .ok (.istore_n 1, 1) := by decide +kernel
theorem dX8_read_8 : decode cX8_read 8 = .ok (.aload_n 0, 1) := by decide +kernel
theorem dX8_read_9 : decode cX8_read 9 = .ok (.getfield 35, 3) := by decide +kernel
theorem dX8_read_12 : decode cX8_read 12 = .ok (.invokevirtual 145, 3) := by decide +kernel
theorem dX8_read_15 : decode cX8_read 15 = .ok (.iload_n 1, 1) := by decide +kernel
theorem dX8_read_16 : decode cX8_read 16 = .ok (.iconst (-1), 1) := by decide +kernel
theorem dX8_read_17 : decode cX8_read 17 = .ok (.if_icmp .eq 8, 3) := by decide +kernel
theorem dX8_read_20 : decode cX8_read 20 = .ok (.bipush (-10), 2) := by decide +kernel
theorem dX8_read_22 : decode cX8_read 22 = .ok (.iload_n 1, 1) := by decide +kernel
theorem dX8_read_23 : decode cX8_read 23 = .ok (.isub, 1) := by decide +kernel
theorem dX8_read_24 : decode cX8_read 24 = .ok (.ireturn, 1) := by decide +kernel
theorem dX8_read_25 : decode cX8_read 25 = .ok (.iconst 0, 1) := by decide +kernel
theorem dX8_read_26 : decode cX8_read 26 = .ok (.istore_n 2, 1) := by decide +kernel
theorem dX8_read_27 : decode cX8_read 27 = .ok (.iconst 0, 1) := by decide +kernel
theorem dX8_read_28 : decode cX8_read 28 = .ok (.istore_n 3, 1) := by decide +kernel
theorem dX8_read_29 : decode cX8_read 29 = .ok (.iload_n 3, 1) := by decide +kernel
theorem dX8_read_30 : decode cX8_read 30 = .ok (.aload_n 0, 1) := by decide +kernel
theorem dX8_read_31 : decode cX8_read 31 = .ok (.getfield 35, 3) := by decide +kernel
theorem dX8_read_34 : decode cX8_read 34 = .ok (.getfield 148, 3) := by decide +kernel
theorem dX8_read_37 : decode cX8_read 37 = .ok (.if_icmp .ge 46, 3) := by decide +kernel
theorem dX8_read_40 : decode cX8_read 40 = .ok (.aload_n 0, 1) := by decide +kernel
theorem dX8_read_41 : decode cX8_read 41 = .ok (.aload_n 0, 1) := by decide +kernel
theorem dX8_read_42 : decode cX8_read 42 = .ok (.getfield 35, 3) := by decide +kernel
theorem dX8_read_45 : decode cX8_read 45 = .ok (.getfield 151, 3) := by decide +kernel
theorem dX8_read_48 : decode cX8_read 48 = .ok (.iload_n 3, 1) := by decide +kernel
theorem dX8_read_49 : decode cX8_read 49 = .ok (.iaload, 1) := by decide +kernel
theorem dX8_read_50 : decode cX8_read 50 = .ok (.aload_n 0, 1) := by decide +kernel
theorem dX8_read_51 : decode cX8_read 51 = .ok (.getfield 35, 3) := by decide +kernel
theorem dX8_read_54 : decode cX8_read 54 = .ok (.getfield 154, 3) := by decide +kernel
theorem dX8_read_57 : decode cX8_read 57 = .ok (.iload_n 3, 1) := by decide +kernel
theorem dX8_read_58 : decode cX8_read 58 = .ok (.iaload, 1) := by decide +kernel
theorem dX8_read_59 : decode cX8_read 59 = .ok (.aload_n 0, 1) := by decide +kernel
theorem dX8_read_60 : decode cX8_read 60 = .ok (.getfield 35, 3) := by decide +kernel
theorem dX8_read_63 : decode cX8_read 63 = .ok (.getfield 157, 3) := by decide +kernel
theorem dX8_read_66 : decode cX8_read 66 = .ok (.iload_n 3, 1) := by decide +kernel
theorem dX8_read_67 : decode cX8_read 67 = .ok (.iaload, 1) := by decide +kernel
theorem dX8_read_68 : decode cX8_read 68 = .ok (.invokevirtual 160, 3) := by decide +kernel
theorem dX8_read_71 : decode cX8_read 71 = .ok (.ifCond .lt 6, 3) := by decide +kernel
theorem dX8_read_74 : decode cX8_read 74 = .ok (.iinc 2 1, 3) := by decide +kernel
theorem dX8_read_77 : decode cX8_read 77 = .ok (.iinc 3 1, 3) := by decide +kernel
theorem dX8_read_80 : decode cX8_read 80 = .ok (.goto (-51), 3) := by decide +kernel
theorem dX8_read_83 : decode cX8_read 83 = .ok (.iload_n 2, 1) := by decide +kernel
theorem dX8_read_84 : decode cX8_read 84 = .ok (.ireturn, 1) := by decide +kernel
theorem dX8_doClause_0 : decode cX8_doClause 0 = .ok (.iload_n 1, 1) := by decide +kernel
theorem dX8_doClause_1 : decode cX8_doClause 1 = .ok (.tableswitch 150 98 119 #[127, 150, 150, 150, 150, 150, 150, 150, 150, 140, 109, 150, 103, 150, 150, 150, 116, 122, 150, 145, 150, 133], 103) := by decide +kernel
theorem dX8_doClause_104 : decode cX8_doClause 104 = .ok (.aload_n 0, 1) := by decide +kernel
theorem dX8_doClause_105 : decode cX8_doClause 105 = .ok (.iload_n 2, 1) := by decide +kernel
theorem dX8_doClause_106 : decode cX8_doClause 106 = .ok (.invokevirtual 164, 3) := by decide +kernel
theorem dX8_doClause_109 : decode cX8_doClause 109 = .ok (.ireturn, 1) := by decide +kernel
theorem dX8_doClause_110 : decode cX8_doClause 110 = .ok (.aload_n 0, 1) := by decide +kernel
theorem dX8_doClause_111 : decode cX8_doClause 111 = .ok (.iload_n 2, 1) := by decide +kernel
theorem dX8_doClause_112 : decode cX8_doClause 112 = .ok (.iload_n 3, 1) := by decide +kernel
theorem dX8_doClause_113 : decode cX8_doClause 113 = .ok (.invokevirtual 167, 3) := by decide +kernel
theorem dX8_doClause_116 : decode cX8_doClause 116 = .ok (.ireturn, 1) := by decide +kernel
theorem dX8_doClause_117 : decode cX8_doClause 117 = .ok (.aload_n 0, 1) := by decide +kernel
theorem dX8_doClause_118 : decode cX8_doClause 118 = .ok (.iload_n 2, 1) := by decide +kernel
theorem dX8_doClause_119 : decode cX8_doClause 119 = .ok (.invokevirtual 171, 3) := by decide +kernel
theorem dX8_doClause_122 : decode cX8_doClause 122 = .ok (.ireturn, 1) := by decide +kernel
theorem dX8_doClause_123 : decode cX8_doClause 123 = .ok (.aload_n 0, 1) := by decide +kernel
theorem dX8_doClause_124 : decode cX8_doClause 124 = .ok (.invokevirtual 174, 3) := by decide +kernel
theorem dX8_doClause_127 : decode cX8_doClause 127 = .ok (.ireturn, 1) := by decide +kernel
theorem dX8_doClause_128 : decode cX8_doClause 128 = .ok (.aload_n 0, 1) := by decide +kernel
theorem dX8_doClause_129 : decode cX8_doClause 129 = .ok (.iload_n 2, 1) := by decide +kernel
theorem dX8_doClause_130 : decode cX8_doClause 130 = .ok (.invokevirtual 177, 3) := by decide +kernel
theorem dX8_doClause_133 : decode cX8_doClause 133 = .ok (.ireturn, 1) := by decide +kernel
theorem dX8_doClause_134 : decode cX8_doClause 134 = .ok (.aload_n 0, 1) := by decide +kernel
theorem dX8_doClause_135 : decode cX8_doClause 135 = .ok (.iload_n 2, 1) := by decide +kernel
theorem dX8_doClause_136 : decode cX8_doClause 136 = .ok (.iload_n 3, 1) := by decide +kernel
theorem dX8_doClause_137 : decode cX8_doClause 137 = .ok (.invokevirtual 180, 3) := by decide +kernel
theorem dX8_doClause_140 : decode cX8_doClause 140 = .ok (.ireturn, 1) := by decide +kernel
theorem dX8_doClause_141 : decode cX8_doClause 141 = .ok (.aload_n 0, 1) := by decide +kernel
theorem dX8_doClause_142 : decode cX8_doClause 142 = .ok (.invokevirtual 183, 3) := by decide +kernel
theorem dX8_doClause_145 : decode cX8_doClause 145 = .ok (.ireturn, 1) := by decide +kernel
theorem dX8_doClause_146 : decode cX8_doClause 146 = .ok (.aload_n 0, 1) := by decide +kernel
theorem dX8_doClause_147 : decode cX8_doClause 147 = .ok (.invokevirtual 186, 3) := by decide +kernel
theorem dX8_doClause_150 : decode cX8_doClause 150 = .ok (.ireturn, 1) := by decide +kernel
theorem dX8_doClause_151 : decode cX8_doClause 151 = .ok (.iconst (-1), 1) := by decide +kernel
theorem dX8_doClause_152 : decode cX8_doClause 152 = .ok (.ireturn, 1) := by decide +kernel
theorem dX8_of_0 : decode cX8_of 0 = .ok (.aload_n 0, 1) := by decide +kernel
theorem dX8_of_1 : decode cX8_of 1 = .ok (.getfield 14, 3) := by decide +kernel
theorem dX8_of_4 : decode cX8_of 4 = .ok (.getfield 67, 3) := by decide +kernel
theorem dX8_of_7 : decode cX8_of 7 = .ok (.iload_n 1, 1) := by decide +kernel
theorem dX8_of_8 : decode cX8_of 8 = .ok (.invokevirtual 88, 3) := by decide +kernel
theorem dX8_of_11 : decode cX8_of 11 = .ok (.ifCond .ne 5, 3) := by decide +kernel
theorem dX8_of_14 : decode cX8_of 14 = .ok (.iconst (-1), 1) := by decide +kernel
theorem dX8_of_15 : decode cX8_of 15 = .ok (.ireturn, 1) := by decide +kernel
theorem dX8_of_16 : decode cX8_of 16 = .ok (.iload_n 2, 1) := by decide +kernel
theorem dX8_of_17 : decode cX8_of 17 = .ok (.tableswitch 66 0 2 #[27, 40, 53], 27) := by decide +kernel
theorem dX8_of_44 : decode cX8_of 44 = .ok (.aload_n 0, 1) := by decide +kernel
theorem dX8_of_45 : decode cX8_of 45 = .ok (.getfield 14, 3) := by decide +kernel
theorem dX8_of_48 : decode cX8_of 48 = .ok (.getfield 67, 3) := by decide +kernel
theorem dX8_of_51 : decode cX8_of 51 = .ok (.getfield 189, 3) := by decide +kernel
theorem dX8_of_54 : decode cX8_of 54 = .ok (.iload_n 1, 1) := by decide +kernel
theorem dX8_of_55 : decode cX8_of 55 = .ok (.iaload, 1) := by decide +kernel
theorem dX8_of_56 : decode cX8_of 56 = .ok (.ireturn, 1) := by decide +kernel
theorem dX8_of_57 : decode cX8_of 57 = .ok (.aload_n 0, 1) := by decide +kernel
theorem dX8_of_58 : decode cX8_of 58 = .ok (.getfield 14, 3) := by decide +kernel
theorem dX8_of_61 : decode cX8_of 61 = .ok (.getfield 67, 3) := by decide +kernel
theorem dX8_of_64 : decode cX8_of 64 = .ok (.getfield 192, 3) := by decide +kernel
theorem dX8_of_67 : decode cX8_of 67 = .ok (.iload_n 1, 1) := by decide +kernel
theorem dX8_of_68 : decode cX8_of 68 = .ok (.iaload, 1) := by decide +kernel
theorem dX8_of_69 : decode cX8_of 69 = .ok (.ireturn, 1) := by decide +kernel
theorem dX8_of_70 : decode cX8_of 70 = .ok (.aload_n 0, 1) := by decide +kernel
theorem dX8_of_71 : decode cX8_of 71 = .ok (.getfield 14, 3) := by decide +kernel
theorem dX8_of_74 : decode cX8_of 74 = .ok (.getfield 67, 3) := by decide +kernel
theorem dX8_of_77 : decode cX8_of 77 = .ok (.getfield 99, 3) := by decide +kernel
theorem dX8_of_80 : decode cX8_of 80 = .ok (.iload_n 1, 1) := by decide +kernel
theorem dX8_of_81 : decode cX8_of 81 = .ok (.iaload, 1) := by decide +kernel
theorem dX8_of_82 : decode cX8_of 82 = .ok (.ireturn, 1) := by decide +kernel
theorem dX8_of_83 : decode cX8_of 83 = .ok (.iconst (-1), 1) := by decide +kernel
theorem dX8_of_84 : decode cX8_of 84 = .ok (.ireturn, 1) := by decide +kernel
theorem dX8_told_0 : decode cX8_told 0 = .ok (.iload_n 1, 1) := by decide +kernel
theorem dX8_told_1 : decode cX8_told 1 = .ok (.tableswitch 155 0 10 #[59, 70, 81, 92, 100, 119, 124, 129, 140, 145, 150], 59) := by decide +kernel
theorem dX8_told_60 : decode cX8_told 60 = .ok (.aload_n 0, 1) := by decide +kernel
theorem dX8_told_61 : decode cX8_told 61 = .ok (.getfield 14, 3) := by decide +kernel
theorem dX8_told_64 : decode cX8_told 64 = .ok (.getfield 67, 3) := by decide +kernel
theorem dX8_told_67 : decode cX8_told 67 = .ok (.getfield 70, 3) := by decide +kernel
theorem dX8_told_70 : decode cX8_told 70 = .ok (.ireturn, 1) := by decide +kernel
theorem dX8_told_71 : decode cX8_told 71 = .ok (.aload_n 0, 1) := by decide +kernel
theorem dX8_told_72 : decode cX8_told 72 = .ok (.getfield 14, 3) := by decide +kernel
theorem dX8_told_75 : decode cX8_told 75 = .ok (.getfield 67, 3) := by decide +kernel
theorem dX8_told_78 : decode cX8_told 78 = .ok (.invokevirtual 124, 3) := by decide +kernel
theorem dX8_told_81 : decode cX8_told 81 = .ok (.ireturn, 1) := by decide +kernel
theorem dX8_told_82 : decode cX8_told 82 = .ok (.aload_n 0, 1) := by decide +kernel
theorem dX8_told_83 : decode cX8_told 83 = .ok (.getfield 14, 3) := by decide +kernel
theorem dX8_told_86 : decode cX8_told 86 = .ok (.getfield 67, 3) := by decide +kernel
theorem dX8_told_89 : decode cX8_told 89 = .ok (.invokevirtual 133, 3) := by decide +kernel
theorem dX8_told_92 : decode cX8_told 92 = .ok (.ireturn, 1) := by decide +kernel
theorem dX8_told_93 : decode cX8_told 93 = .ok (.aload_n 0, 1) := by decide +kernel
theorem dX8_told_94 : decode cX8_told 94 = .ok (.getfield 14, 3) := by decide +kernel
theorem dX8_told_97 : decode cX8_told 97 = .ok (.getfield 136, 3) := by decide +kernel
theorem dX8_told_100 : decode cX8_told 100 = .ok (.ireturn, 1) := by decide +kernel
theorem dX8_told_101 : decode cX8_told 101 = .ok (.aload_n 0, 1) := by decide +kernel
theorem dX8_told_102 : decode cX8_told 102 = .ok (.getfield 14, 3) := by decide +kernel
theorem dX8_told_105 : decode cX8_told 105 = .ok (.getfield 67, 3) := by decide +kernel
theorem dX8_told_108 : decode cX8_told 108 = .ok (.invokevirtual 194, 3) := by decide +kernel
theorem dX8_told_111 : decode cX8_told 111 = .ok (.ifCond .eq 7, 3) := by decide +kernel
theorem dX8_told_114 : decode cX8_told 114 = .ok (.iconst 1, 1) := by decide +kernel
theorem dX8_told_115 : decode cX8_told 115 = .ok (.goto 4, 3) := by decide +kernel
theorem dX8_told_118 : decode cX8_told 118 = .ok (.iconst 0, 1) := by decide +kernel
theorem dX8_told_119 : decode cX8_told 119 = .ok (.ireturn, 1) := by decide +kernel
theorem dX8_told_120 : decode cX8_told 120 = .ok (.aload_n 0, 1) := by decide +kernel
theorem dX8_told_121 : decode cX8_told 121 = .ok (.invokevirtual 198, 3) := by decide +kernel
theorem dX8_told_124 : decode cX8_told 124 = .ok (.ireturn, 1) := by decide +kernel
theorem dX8_told_125 : decode cX8_told 125 = .ok (.aload_n 0, 1) := by decide +kernel
theorem dX8_told_126 : decode cX8_told 126 = .ok (.invokevirtual 201, 3) := by decide +kernel
theorem dX8_told_129 : decode cX8_told 129 = .ok (.ireturn, 1) := by decide +kernel
theorem dX8_told_130 : decode cX8_told 130 = .ok (.aload_n 0, 1) := by decide +kernel
theorem dX8_told_131 : decode cX8_told 131 = .ok (.getfield 14, 3) := by decide +kernel
theorem dX8_told_134 : decode cX8_told 134 = .ok (.getfield 67, 3) := by decide +kernel
theorem dX8_told_137 : decode cX8_told 137 = .ok (.invokevirtual 204, 3) := by decide +kernel
theorem dX8_told_140 : decode cX8_told 140 = .ok (.ireturn, 1) := by decide +kernel
theorem dX8_told_141 : decode cX8_told 141 = .ok (.aload_n 0, 1) := by decide +kernel
theorem dX8_told_142 : decode cX8_told 142 = .ok (.invokevirtual 207, 3) := by decide +kernel
theorem dX8_told_145 : decode cX8_told 145 = .ok (.ireturn, 1) := by decide +kernel
theorem dX8_told_146 : decode cX8_told 146 = .ok (.aload_n 0, 1) := by decide +kernel
theorem dX8_told_147 : decode cX8_told 147 = .ok (.invokevirtual 210, 3) := by decide +kernel
theorem dX8_told_150 : decode cX8_told 150 = .ok (.ireturn, 1) := by decide +kernel
theorem dX8_told_151 : decode cX8_told 151 = .ok (.aload_n 0, 1) := by decide +kernel
theorem dX8_told_152 : decode cX8_told 152 = .ok (.invokevirtual 213, 3) := by decide +kernel
theorem dX8_told_155 : decode cX8_told 155 = .ok (.ireturn, 1) := by decide +kernel
theorem dX8_told_156 : decode cX8_told 156 = .ok (.iconst (-1), 1) := by decide +kernel
theorem dX8_told_157 : decode cX8_told 157 = .ok (.ireturn, 1) := by decide +kernel
theorem dX8_exploreClass_0 : decode cX8_exploreClass 0 = .ok (.aload_n 0, 1) := by decide +kernel
theorem dX8_exploreClass_1 : decode cX8_exploreClass 1 = .ok (.getfield 49, 3) := by decide +kernel
theorem dX8_exploreClass_4 : decode cX8_exploreClass 4 = .ok (.aload_n 0, 1) := by decide +kernel
theorem dX8_exploreClass_5 : decode cX8_exploreClass 5 = .ok (.getfield 14, 3) := by decide +kernel
theorem dX8_exploreClass_8 : decode cX8_exploreClass 8 = .ok (.getfield 67, 3) := by decide +kernel
theorem dX8_exploreClass_11 : decode cX8_exploreClass 11 = .ok (.invokevirtual 133, 3) := by decide +kernel
theorem dX8_exploreClass_14 : decode cX8_exploreClass 14 = .ok (.aload_n 0, 1) := by decide +kernel
theorem dX8_exploreClass_15 : decode cX8_exploreClass 15 = .ok (.getfield 14, 3) := by decide +kernel
theorem dX8_exploreClass_18 : decode cX8_exploreClass 18 = .ok (.getfield 67, 3) := by decide +kernel
theorem dX8_exploreClass_21 : decode cX8_exploreClass 21 = .ok (.getfield 70, 3) := by decide +kernel
theorem dX8_exploreClass_24 : decode cX8_exploreClass 24 = .ok (.invokevirtual 216, 3) := by decide +kernel
theorem dX8_exploreClass_27 : decode cX8_exploreClass 27 = .ok (.aload_n 0, 1) := by decide +kernel
theorem dX8_exploreClass_28 : decode cX8_exploreClass 28 = .ok (.getfield 49, 3) := by decide +kernel
theorem dX8_exploreClass_31 : decode cX8_exploreClass 31 = .ok (.getfield 219, 3) := by decide +kernel
theorem dX8_exploreClass_34 : decode cX8_exploreClass 34 = .ok (.ireturn, 1) := by decide +kernel
theorem dX8_stepsToKept_0 : decode cX8_stepsToKept 0 = .ok (.aload_n 0, 1) := by decide +kernel
theorem dX8_stepsToKept_1 : decode cX8_stepsToKept 1 = .ok (.invokevirtual 198, 3) := by decide +kernel
theorem dX8_stepsToKept_4 : decode cX8_stepsToKept 4 = .ok (.pop, 1) := by decide +kernel
theorem dX8_stepsToKept_5 : decode cX8_stepsToKept 5 = .ok (.aload_n 0, 1) := by decide +kernel
theorem dX8_stepsToKept_6 : decode cX8_stepsToKept 6 = .ok (.getfield 49, 3) := by decide +kernel
theorem dX8_stepsToKept_9 : decode cX8_stepsToKept 9 = .ok (.aload_n 0, 1) := by decide +kernel
theorem dX8_stepsToKept_10 : decode cX8_stepsToKept 10 = .ok (.getfield 14, 3) := by decide +kernel
theorem dX8_stepsToKept_13 : decode cX8_stepsToKept 13 = .ok (.getfield 136, 3) := by decide +kernel
theorem dX8_stepsToKept_16 : decode cX8_stepsToKept 16 = .ok (.invokevirtual 222, 3) := by decide +kernel
theorem dX8_stepsToKept_19 : decode cX8_stepsToKept 19 = .ok (.ireturn, 1) := by decide +kernel
theorem dX8_genus_0 : decode cX8_genus 0 = .ok (.aload_n 0, 1) := by decide +kernel
theorem dX8_genus_1 : decode cX8_genus 1 = .ok (.getfield 14, 3) := by decide +kernel
theorem dX8_genus_4 : decode cX8_genus 4 = .ok (.getfield 67, 3) := by decide +kernel
theorem dX8_genus_7 : decode cX8_genus 7 = .ok (.invokevirtual 194, 3) := by decide +kernel
theorem dX8_genus_10 : decode cX8_genus 10 = .ok (.ifCond .ne 6, 3) := by decide +kernel
theorem dX8_genus_13 : decode cX8_genus 13 = .ok (.bipush (-5), 2) := by decide +kernel
theorem dX8_genus_15 : decode cX8_genus 15 = .ok (.ireturn, 1) := by decide +kernel
theorem dX8_genus_16 : decode cX8_genus 16 = .ok (.aload_n 0, 1) := by decide +kernel
theorem dX8_genus_17 : decode cX8_genus 17 = .ok (.getfield 14, 3) := by decide +kernel
theorem dX8_genus_20 : decode cX8_genus 20 = .ok (.getfield 67, 3) := by decide +kernel
theorem dX8_genus_23 : decode cX8_genus 23 = .ok (.getfield 70, 3) := by decide +kernel
theorem dX8_genus_26 : decode cX8_genus 26 = .ok (.iconst 1, 1) := by decide +kernel
theorem dX8_genus_27 : decode cX8_genus 27 = .ok (.iadd, 1) := by decide +kernel
theorem dX8_genus_28 : decode cX8_genus 28 = .ok (.aload_n 0, 1) := by decide +kernel
theorem dX8_genus_29 : decode cX8_genus 29 = .ok (.getfield 14, 3) := by decide +kernel
theorem dX8_genus_32 : decode cX8_genus 32 = .ok (.getfield 67, 3) := by decide +kernel
theorem dX8_genus_35 : decode cX8_genus 35 = .ok (.invokevirtual 204, 3) := by decide +kernel
theorem dX8_genus_38 : decode cX8_genus 38 = .ok (.isub, 1) := by decide +kernel
theorem dX8_genus_39 : decode cX8_genus 39 = .ok (.iconst 2, 1) := by decide +kernel
theorem dX8_genus_40 : decode cX8_genus 40 = .ok (.idiv, 1) := by decide +kernel
theorem dX8_genus_41 : decode cX8_genus 41 = .ok (.ireturn, 1) := by decide +kernel
theorem dX8_rounds_0 : decode cX8_rounds 0 = .ok (.aload_n 0, 1) := by decide +kernel
theorem dX8_rounds_1 : decode cX8_rounds 1 = .ok (.getfield 42, 3) := by decide +kernel
theorem dX8_rounds_4 : decode cX8_rounds 4 = .ok (.aload_n 0, 1) := by decide +kernel
theorem dX8_rounds_5 : decode cX8_rounds 5 = .ok (.getfield 14, 3) := by decide +kernel
theorem dX8_rounds_8 : decode cX8_rounds 8 = .ok (.getfield 67, 3) := by decide +kernel
theorem dX8_rounds_11 : decode cX8_rounds 11 = .ok (.invokevirtual 225, 3) := by decide +kernel
theorem dX8_rounds_14 : decode cX8_rounds 14 = .ok (.aload_n 0, 1) := by decide +kernel
theorem dX8_rounds_15 : decode cX8_rounds 15 = .ok (.getfield 42, 3) := by decide +kernel
theorem dX8_rounds_18 : decode cX8_rounds 18 = .ok (.invokevirtual 228, 3) := by decide +kernel
theorem dX8_rounds_21 : decode cX8_rounds 21 = .ok (.ireturn, 1) := by decide +kernel
theorem dX8_ends_0 : decode cX8_ends 0 = .ok (.aload_n 0, 1) := by decide +kernel
theorem dX8_ends_1 : decode cX8_ends 1 = .ok (.getfield 56, 3) := by decide +kernel
theorem dX8_ends_4 : decode cX8_ends 4 = .ok (.aload_n 0, 1) := by decide +kernel
theorem dX8_ends_5 : decode cX8_ends 5 = .ok (.getfield 14, 3) := by decide +kernel
theorem dX8_ends_8 : decode cX8_ends 8 = .ok (.getfield 67, 3) := by decide +kernel
theorem dX8_ends_11 : decode cX8_ends 11 = .ok (.invokevirtual 229, 3) := by decide +kernel
theorem dX8_ends_14 : decode cX8_ends 14 = .ok (.iconst 0, 1) := by decide +kernel
theorem dX8_ends_15 : decode cX8_ends 15 = .ok (.istore_n 1, 1) := by decide +kernel
theorem dX8_ends_16 : decode cX8_ends 16 = .ok (.iload_n 1, 1) := by decide +kernel
theorem dX8_ends_17 : decode cX8_ends 17 = .ok (.sipush 9999, 3) := by decide +kernel
theorem dX8_ends_20 : decode cX8_ends 20 = .ok (.if_icmp .ge 32, 3) := by decide +kernel
theorem dX8_ends_23 : decode cX8_ends 23 = .ok (.aload_n 0, 1) := by decide +kernel
theorem dX8_ends_24 : decode cX8_ends 24 = .ok (.getfield 56, 3) := by decide +kernel
theorem dX8_ends_27 : decode cX8_ends 27 = .ok (.invokevirtual 107, 3) := by decide +kernel
theorem dX8_ends_30 : decode cX8_ends 30 = .ok (.istore_n 2, 1) := by decide +kernel
theorem dX8_ends_31 : decode cX8_ends 31 = .ok (.iload_n 2, 1) := by decide +kernel
theorem dX8_ends_32 : decode cX8_ends 32 = .ok (.iconst (-1), 1) := by decide +kernel
theorem dX8_ends_33 : decode cX8_ends 33 = .ok (.if_icmp .ne 5, 3) := by decide +kernel
theorem dX8_ends_36 : decode cX8_ends 36 = .ok (.iload_n 1, 1) := by decide +kernel
theorem dX8_ends_37 : decode cX8_ends 37 = .ok (.ireturn, 1) := by decide +kernel
theorem dX8_ends_38 : decode cX8_ends 38 = .ok (.aload_n 0, 1) := by decide +kernel
theorem dX8_ends_39 : decode cX8_ends 39 = .ok (.getfield 56, 3) := by decide +kernel
theorem dX8_ends_42 : decode cX8_ends 42 = .ok (.iload_n 2, 1) := by decide +kernel
theorem dX8_ends_43 : decode cX8_ends 43 = .ok (.invokevirtual 111, 3) := by decide +kernel
theorem dX8_ends_46 : decode cX8_ends 46 = .ok (.iinc 1 1, 3) := by decide +kernel
theorem dX8_ends_49 : decode cX8_ends 49 = .ok (.goto (-33), 3) := by decide +kernel
theorem dX8_ends_52 : decode cX8_ends 52 = .ok (.sipush 9999, 3) := by decide +kernel
theorem dX8_ends_55 : decode cX8_ends 55 = .ok (.ireturn, 1) := by decide +kernel
theorem dX8_point_0 : decode cX8_point 0 = .ok (.aload_n 0, 1) := by decide +kernel
theorem dX8_point_1 : decode cX8_point 1 = .ok (.getfield 14, 3) := by decide +kernel
theorem dX8_point_4 : decode cX8_point 4 = .ok (.getfield 67, 3) := by decide +kernel
theorem dX8_point_7 : decode cX8_point 7 = .ok (.iload_n 1, 1) := by decide +kernel
theorem dX8_point_8 : decode cX8_point 8 = .ok (.invokevirtual 232, 3) := by decide +kernel
theorem dX8_point_11 : decode cX8_point 11 = .ok (.ifCond .ne 5, 3) := by decide +kernel
theorem dX8_point_14 : decode cX8_point 14 = .ok (.iconst (-1), 1) := by decide +kernel
theorem dX8_point_15 : decode cX8_point 15 = .ok (.ireturn, 1) := by decide +kernel
theorem dX8_point_16 : decode cX8_point 16 = .ok (.iload_n 2, 1) := by decide +kernel
theorem dX8_point_17 : decode cX8_point 17 = .ok (.tableswitch 57 0 2 #[27, 39, 51], 27) := by decide +kernel
theorem dX8_point_44 : decode cX8_point 44 = .ok (.aload_n 0, 1) := by decide +kernel
theorem dX8_point_45 : decode cX8_point 45 = .ok (.getfield 14, 3) := by decide +kernel
theorem dX8_point_48 : decode cX8_point 48 = .ok (.getfield 67, 3) := by decide +kernel
theorem dX8_point_51 : decode cX8_point 51 = .ok (.iload_n 1, 1) := by decide +kernel
theorem dX8_point_52 : decode cX8_point 52 = .ok (.invokevirtual 235, 3) := by decide +kernel
theorem dX8_point_55 : decode cX8_point 55 = .ok (.ireturn, 1) := by decide +kernel
theorem dX8_point_56 : decode cX8_point 56 = .ok (.aload_n 0, 1) := by decide +kernel
theorem dX8_point_57 : decode cX8_point 57 = .ok (.getfield 14, 3) := by decide +kernel
theorem dX8_point_60 : decode cX8_point 60 = .ok (.getfield 67, 3) := by decide +kernel
theorem dX8_point_63 : decode cX8_point 63 = .ok (.iload_n 1, 1) := by decide +kernel
theorem dX8_point_64 : decode cX8_point 64 = .ok (.invokevirtual 238, 3) := by decide +kernel
theorem dX8_point_67 : decode cX8_point 67 = .ok (.ireturn, 1) := by decide +kernel
theorem dX8_point_68 : decode cX8_point 68 = .ok (.aload_n 0, 1) := by decide +kernel
theorem dX8_point_69 : decode cX8_point 69 = .ok (.iload_n 1, 1) := by decide +kernel
theorem dX8_point_70 : decode cX8_point 70 = .ok (.invokevirtual 241, 3) := by decide +kernel
theorem dX8_point_73 : decode cX8_point 73 = .ok (.ireturn, 1) := by decide +kernel
theorem dX8_point_74 : decode cX8_point 74 = .ok (.iconst (-1), 1) := by decide +kernel
theorem dX8_point_75 : decode cX8_point 75 = .ok (.ireturn, 1) := by decide +kernel
theorem dX8_period_0 : decode cX8_period 0 = .ok (.aload_n 0, 1) := by decide +kernel
theorem dX8_period_1 : decode cX8_period 1 = .ok (.getfield 42, 3) := by decide +kernel
theorem dX8_period_4 : decode cX8_period 4 = .ok (.aload_n 0, 1) := by decide +kernel
theorem dX8_period_5 : decode cX8_period 5 = .ok (.getfield 14, 3) := by decide +kernel
theorem dX8_period_8 : decode cX8_period 8 = .ok (.getfield 67, 3) := by decide +kernel
theorem dX8_period_11 : decode cX8_period 11 = .ok (.invokevirtual 225, 3) := by decide +kernel
theorem dX8_period_14 : decode cX8_period 14 = .ok (.aload_n 0, 1) := by decide +kernel
theorem dX8_period_15 : decode cX8_period 15 = .ok (.getfield 42, 3) := by decide +kernel
theorem dX8_period_18 : decode cX8_period 18 = .ok (.iload_n 1, 1) := by decide +kernel
theorem dX8_period_19 : decode cX8_period 19 = .ok (.invokevirtual 244, 3) := by decide +kernel
theorem dX8_period_22 : decode cX8_period 22 = .ok (.ireturn, 1) := by decide +kernel
theorem dX8_gone_0 : decode cX8_gone 0 = .ok (.aload_n 0, 1) := by decide +kernel
theorem dX8_gone_1 : decode cX8_gone 1 = .ok (.getfield 14, 3) := by decide +kernel
theorem dX8_gone_4 : decode cX8_gone 4 = .ok (.getfield 67, 3) := by decide +kernel
theorem dX8_gone_7 : decode cX8_gone 7 = .ok (.iload_n 1, 1) := by decide +kernel
theorem dX8_gone_8 : decode cX8_gone 8 = .ok (.invokevirtual 232, 3) := by decide +kernel
theorem dX8_gone_11 : decode cX8_gone 11 = .ok (.ifCond .ne 5, 3) := by decide +kernel
theorem dX8_gone_14 : decode cX8_gone 14 = .ok (.iconst (-1), 1) := by decide +kernel
theorem dX8_gone_15 : decode cX8_gone 15 = .ok (.ireturn, 1) := by decide +kernel
theorem dX8_gone_16 : decode cX8_gone 16 = .ok (.iload_n 2, 1) := by decide +kernel
theorem dX8_gone_17 : decode cX8_gone 17 = .ok (.ifCond .lt 10, 3) := by decide +kernel
theorem dX8_gone_20 : decode cX8_gone 20 = .ok (.iload_n 2, 1) := by decide +kernel
theorem dX8_gone_21 : decode cX8_gone 21 = .ok (.sipush 9999, 3) := by decide +kernel
theorem dX8_gone_24 : decode cX8_gone 24 = .ok (.if_icmp .le 6, 3) := by decide +kernel
theorem dX8_gone_27 : decode cX8_gone 27 = .ok (.bipush (-2), 2) := by decide +kernel
theorem dX8_gone_29 : decode cX8_gone 29 = .ok (.ireturn, 1) := by decide +kernel
theorem dX8_gone_30 : decode cX8_gone 30 = .ok (.aload_n 0, 1) := by decide +kernel
theorem dX8_gone_31 : decode cX8_gone 31 = .ok (.getfield 42, 3) := by decide +kernel
theorem dX8_gone_34 : decode cX8_gone 34 = .ok (.aload_n 0, 1) := by decide +kernel
theorem dX8_gone_35 : decode cX8_gone 35 = .ok (.getfield 14, 3) := by decide +kernel
theorem dX8_gone_38 : decode cX8_gone 38 = .ok (.getfield 67, 3) := by decide +kernel
theorem dX8_gone_41 : decode cX8_gone 41 = .ok (.invokevirtual 225, 3) := by decide +kernel
theorem dX8_gone_44 : decode cX8_gone 44 = .ok (.aload_n 0, 1) := by decide +kernel
theorem dX8_gone_45 : decode cX8_gone 45 = .ok (.getfield 42, 3) := by decide +kernel
theorem dX8_gone_48 : decode cX8_gone 48 = .ok (.iload_n 1, 1) := by decide +kernel
theorem dX8_gone_49 : decode cX8_gone 49 = .ok (.iload_n 2, 1) := by decide +kernel
theorem dX8_gone_50 : decode cX8_gone 50 = .ok (.invokevirtual 247, 3) := by decide +kernel
theorem dX8_gone_53 : decode cX8_gone 53 = .ok (.ireturn, 1) := by decide +kernel
theorem dX8_code_0 : decode cX8_code 0 = .ok (.iload_n 1, 1) := by decide +kernel
theorem dX8_code_1 : decode cX8_code 1 = .ok (.ifCond .ge 5, 3) := by decide +kernel
theorem dX8_code_4 : decode cX8_code 4 = .ok (.iconst (-1), 1) := by decide +kernel
theorem dX8_code_5 : decode cX8_code 5 = .ok (.ireturn, 1) := by decide +kernel
theorem dX8_code_6 : decode cX8_code 6 = .ok (.aload_n 0, 1) := by decide +kernel
theorem dX8_code_7 : decode cX8_code 7 = .ok (.invokevirtual 198, 3) := by decide +kernel
theorem dX8_code_10 : decode cX8_code 10 = .ok (.pop, 1) := by decide +kernel
theorem dX8_code_11 : decode cX8_code 11 = .ok (.aload_n 0, 1) := by decide +kernel
theorem dX8_code_12 : decode cX8_code 12 = .ok (.getfield 49, 3) := by decide +kernel
theorem dX8_code_15 : decode cX8_code 15 = .ok (.iload_n 1, 1) := by decide +kernel
theorem dX8_code_16 : decode cX8_code 16 = .ok (.invokevirtual 250, 3) := by decide +kernel
theorem dX8_code_19 : decode cX8_code 19 = .ok (.ireturn, 1) := by decide +kernel
theorem dX8_next_0 : decode cX8_next 0 = .ok (.iload_n 2, 1) := by decide +kernel
theorem dX8_next_1 : decode cX8_next 1 = .ok (.invokestatic 114, 3) := by decide +kernel
theorem dX8_next_4 : decode cX8_next 4 = .ok (.ifCond .ne 5, 3) := by decide +kernel
theorem dX8_next_7 : decode cX8_next 7 = .ok (.iconst (-1), 1) := by decide +kernel
theorem dX8_next_8 : decode cX8_next 8 = .ok (.ireturn, 1) := by decide +kernel
theorem dX8_next_9 : decode cX8_next 9 = .ok (.iload_n 1, 1) := by decide +kernel
theorem dX8_next_10 : decode cX8_next 10 = .ok (.aload_n 0, 1) := by decide +kernel
theorem dX8_next_11 : decode cX8_next 11 = .ok (.getfield 14, 3) := by decide +kernel
theorem dX8_next_14 : decode cX8_next 14 = .ok (.getfield 67, 3) := by decide +kernel
theorem dX8_next_17 : decode cX8_next 17 = .ok (.getfield 70, 3) := by decide +kernel
theorem dX8_next_20 : decode cX8_next 20 = .ok (.invokestatic 81, 3) := by decide +kernel
theorem dX8_next_23 : decode cX8_next 23 = .ok (.ifCond .ne 6, 3) := by decide +kernel
theorem dX8_next_26 : decode cX8_next 26 = .ok (.bipush (-2), 2) := by decide +kernel
theorem dX8_next_28 : decode cX8_next 28 = .ok (.ireturn, 1) := by decide +kernel
theorem dX8_next_29 : decode cX8_next 29 = .ok (.aload_n 0, 1) := by decide +kernel
theorem dX8_next_30 : decode cX8_next 30 = .ok (.getfield 49, 3) := by decide +kernel
theorem dX8_next_33 : decode cX8_next 33 = .ok (.iload_n 1, 1) := by decide +kernel
theorem dX8_next_34 : decode cX8_next 34 = .ok (.aload_n 0, 1) := by decide +kernel
theorem dX8_next_35 : decode cX8_next 35 = .ok (.getfield 14, 3) := by decide +kernel
theorem dX8_next_38 : decode cX8_next 38 = .ok (.getfield 67, 3) := by decide +kernel
theorem dX8_next_41 : decode cX8_next 41 = .ok (.getfield 70, 3) := by decide +kernel
theorem dX8_next_44 : decode cX8_next 44 = .ok (.iload_n 2, 1) := by decide +kernel
theorem dX8_next_45 : decode cX8_next 45 = .ok (.invokevirtual 253, 3) := by decide +kernel
theorem dX8_next_48 : decode cX8_next 48 = .ok (.ireturn, 1) := by decide +kernel
theorem dX8_meeting_0 : decode cX8_meeting 0 = .ok (.iload_n 1, 1) := by decide +kernel
theorem dX8_meeting_1 : decode cX8_meeting 1 = .ok (.ifCond .lt 17, 3) := by decide +kernel
theorem dX8_meeting_4 : decode cX8_meeting 4 = .ok (.iload_n 1, 1) := by decide +kernel
theorem dX8_meeting_5 : decode cX8_meeting 5 = .ok (.aload_n 0, 1) := by decide +kernel
theorem dX8_meeting_6 : decode cX8_meeting 6 = .ok (.getfield 14, 3) := by decide +kernel
theorem dX8_meeting_9 : decode cX8_meeting 9 = .ok (.getfield 67, 3) := by decide +kernel
theorem dX8_meeting_12 : decode cX8_meeting 12 = .ok (.getfield 70, 3) := by decide +kernel
theorem dX8_meeting_15 : decode cX8_meeting 15 = .ok (.if_icmp .le 5, 3) := by decide +kernel
theorem dX8_meeting_18 : decode cX8_meeting 18 = .ok (.iconst (-1), 1) := by decide +kernel
theorem dX8_meeting_19 : decode cX8_meeting 19 = .ok (.ireturn, 1) := by decide +kernel
theorem dX8_meeting_20 : decode cX8_meeting 20 = .ok (.aload_n 0, 1) := by decide +kernel
theorem dX8_meeting_21 : decode cX8_meeting 21 = .ok (.getfield 14, 3) := by decide +kernel
theorem dX8_meeting_24 : decode cX8_meeting 24 = .ok (.getfield 67, 3) := by decide +kernel
theorem dX8_meeting_27 : decode cX8_meeting 27 = .ok (.iload_n 1, 1) := by decide +kernel
theorem dX8_meeting_28 : decode cX8_meeting 28 = .ok (.invokevirtual 256, 3) := by decide +kernel
theorem dX8_meeting_31 : decode cX8_meeting 31 = .ok (.ireturn, 1) := by decide +kernel
theorem dX8_see_0 : decode cX8_see 0 = .ok (.iload_n 1, 1) := by decide +kernel
theorem dX8_see_1 : decode cX8_see 1 = .ok (.iconst (-1), 1) := by decide +kernel
theorem dX8_see_2 : decode cX8_see 2 = .ok (.if_icmp .ne 14, 3) := by decide +kernel
theorem dX8_see_5 : decode cX8_see 5 = .ok (.aload_n 0, 1) := by decide +kernel
theorem dX8_see_6 : decode cX8_see 6 = .ok (.getfield 14, 3) := by decide +kernel
theorem dX8_see_9 : decode cX8_see 9 = .ok (.getfield 259, 3) := by decide +kernel
theorem dX8_see_12 : decode cX8_see 12 = .ok (.invokevirtual 263, 3) := by decide +kernel
theorem dX8_see_15 : decode cX8_see 15 = .ok (.ireturn, 1) := by decide +kernel
theorem dX8_see_16 : decode cX8_see 16 = .ok (.iload_n 1, 1) := by decide +kernel
theorem dX8_see_17 : decode cX8_see 17 = .ok (.invokestatic 267, 3) := by decide +kernel
theorem dX8_see_20 : decode cX8_see 20 = .ok (.ifCond .eq 10, 3) := by decide +kernel
theorem dX8_see_23 : decode cX8_see 23 = .ok (.iload_n 2, 1) := by decide +kernel
theorem dX8_see_24 : decode cX8_see 24 = .ok (.invokestatic 267, 3) := by decide +kernel
theorem dX8_see_27 : decode cX8_see 27 = .ok (.ifCond .ne 6, 3) := by decide +kernel
theorem dX8_see_30 : decode cX8_see 30 = .ok (.bipush (-2), 2) := by decide +kernel
theorem dX8_see_32 : decode cX8_see 32 = .ok (.ireturn, 1) := by decide +kernel
theorem dX8_see_33 : decode cX8_see 33 = .ok (.aload_n 0, 1) := by decide +kernel
theorem dX8_see_34 : decode cX8_see 34 = .ok (.getfield 14, 3) := by decide +kernel
theorem dX8_see_37 : decode cX8_see 37 = .ok (.getfield 259, 3) := by decide +kernel
theorem dX8_see_40 : decode cX8_see 40 = .ok (.iload_n 1, 1) := by decide +kernel
theorem dX8_see_41 : decode cX8_see 41 = .ok (.iload_n 2, 1) := by decide +kernel
theorem dX8_see_42 : decode cX8_see 42 = .ok (.invokevirtual 270, 3) := by decide +kernel
theorem dX8_see_45 : decode cX8_see 45 = .ok (.ireturn, 1) := by decide +kernel
theorem dX8_canBeSeen_0 : decode cX8_canBeSeen 0 = .ok (.iload_n 0, 1) := by decide +kernel
theorem dX8_canBeSeen_1 : decode cX8_canBeSeen 1 = .ok (.ifCond .lt 14, 3) := by decide +kernel
theorem dX8_canBeSeen_4 : decode cX8_canBeSeen 4 = .ok (.iload_n 0, 1) := by decide +kernel
theorem dX8_canBeSeen_5 : decode cX8_canBeSeen 5 = .ok (.sipush 499, 3) := by decide +kernel
theorem dX8_canBeSeen_8 : decode cX8_canBeSeen 8 = .ok (.if_icmp .gt 7, 3) := by decide +kernel
theorem dX8_canBeSeen_11 : decode cX8_canBeSeen 11 = .ok (.iconst 1, 1) := by decide +kernel
theorem dX8_canBeSeen_12 : decode cX8_canBeSeen 12 = .ok (.goto 4, 3) := by decide +kernel
theorem dX8_canBeSeen_15 : decode cX8_canBeSeen 15 = .ok (.iconst 0, 1) := by decide +kernel
theorem dX8_canBeSeen_16 : decode cX8_canBeSeen 16 = .ok (.ireturn, 1) := by decide +kernel
theorem dX8_fits_0 : decode cX8_fits 0 = .ok (.aload_n 0, 1) := by decide +kernel
theorem dX8_fits_1 : decode cX8_fits 1 = .ok (.getfield 14, 3) := by decide +kernel
theorem dX8_fits_4 : decode cX8_fits 4 = .ok (.getfield 67, 3) := by decide +kernel
theorem dX8_fits_7 : decode cX8_fits 7 = .ok (.iload_n 1, 1) := by decide +kernel
theorem dX8_fits_8 : decode cX8_fits 8 = .ok (.invokevirtual 88, 3) := by decide +kernel
theorem dX8_fits_11 : decode cX8_fits 11 = .ok (.ifCond .eq 12, 3) := by decide +kernel
theorem dX8_fits_14 : decode cX8_fits 14 = .ok (.iload_n 2, 1) := by decide +kernel
theorem dX8_fits_15 : decode cX8_fits 15 = .ok (.ifCond .lt 8, 3) := by decide +kernel
theorem dX8_fits_18 : decode cX8_fits 18 = .ok (.iload_n 2, 1) := by decide +kernel
theorem dX8_fits_19 : decode cX8_fits 19 = .ok (.iconst 1, 1) := by decide +kernel
theorem dX8_fits_20 : decode cX8_fits 20 = .ok (.if_icmp .le 5, 3) := by decide +kernel
theorem dX8_fits_23 : decode cX8_fits 23 = .ok (.iconst (-1), 1) := by decide +kernel
theorem dX8_fits_24 : decode cX8_fits 24 = .ok (.ireturn, 1) := by decide +kernel
theorem dX8_fits_25 : decode cX8_fits 25 = .ok (.aload_n 0, 1) := by decide +kernel
theorem dX8_fits_26 : decode cX8_fits 26 = .ok (.getfield 56, 3) := by decide +kernel
theorem dX8_fits_29 : decode cX8_fits 29 = .ok (.aload_n 0, 1) := by decide +kernel
theorem dX8_fits_30 : decode cX8_fits 30 = .ok (.getfield 14, 3) := by decide +kernel
theorem dX8_fits_33 : decode cX8_fits 33 = .ok (.getfield 67, 3) := by decide +kernel
theorem dX8_fits_36 : decode cX8_fits 36 = .ok (.invokevirtual 229, 3) := by decide +kernel
theorem dX8_fits_39 : decode cX8_fits 39 = .ok (.iconst 0, 1) := by decide +kernel
theorem dX8_fits_40 : decode cX8_fits 40 = .ok (.istore_n 3, 1) := by decide +kernel
theorem dX8_fits_41 : decode cX8_fits 41 = .ok (.bipush (-5), 2) := by decide +kernel
theorem dX8_fits_43 : decode cX8_fits 43 = .ok (.istore 4, 2) := by decide +kernel
theorem dX8_fits_45 : decode cX8_fits 45 = .ok (.iconst 1, 1) := by decide +kernel
theorem dX8_fits_46 : decode cX8_fits 46 = .ok (.istore 5, 2) := by decide +kernel
theorem dX8_fits_48 : decode cX8_fits 48 = .ok (.iload 5, 2) := by decide +kernel
theorem dX8_fits_50 : decode cX8_fits 50 = .ok (.bipush 40, 2) := by decide +kernel
theorem dX8_fits_52 : decode cX8_fits 52 = .ok (.if_icmp .gt 45, 3) := by decide +kernel
theorem dX8_fits_55 : decode cX8_fits 55 = .ok (.aload_n 0, 1) := by decide +kernel
theorem dX8_fits_56 : decode cX8_fits 56 = .ok (.getfield 56, 3) := by decide +kernel
theorem dX8_fits_59 : decode cX8_fits 59 = .ok (.getfield 99, 3) := by decide +kernel
theorem dX8_fits_62 : decode cX8_fits 62 = .ok (.iload_n 1, 1) := by decide +kernel
theorem dX8_fits_63 : decode cX8_fits 63 = .ok (.iload 5, 2) := by decide +kernel
theorem dX8_fits_65 : decode cX8_fits 65 = .ok (.iastore, 1) := by decide +kernel
theorem dX8_fits_66 : decode cX8_fits 66 = .ok (.aload_n 0, 1) := by decide +kernel
theorem dX8_fits_67 : decode cX8_fits 67 = .ok (.aload_n 0, 1) := by decide +kernel
theorem dX8_fits_68 : decode cX8_fits 68 = .ok (.getfield 56, 3) := by decide +kernel
theorem dX8_fits_71 : decode cX8_fits 71 = .ok (.invokevirtual 272, 3) := by decide +kernel
theorem dX8_fits_74 : decode cX8_fits 74 = .ok (.ifCond .eq 17, 3) := by decide +kernel
theorem dX8_fits_77 : decode cX8_fits 77 = .ok (.iinc 3 1, 3) := by decide +kernel
theorem dX8_fits_80 : decode cX8_fits 80 = .ok (.iload 4, 2) := by decide +kernel
theorem dX8_fits_82 : decode cX8_fits 82 = .ok (.bipush (-5), 2) := by decide +kernel
theorem dX8_fits_84 : decode cX8_fits 84 = .ok (.if_icmp .ne 7, 3) := by decide +kernel
theorem dX8_fits_87 : decode cX8_fits 87 = .ok (.iload 5, 2) := by decide +kernel
theorem dX8_fits_89 : decode cX8_fits 89 = .ok (.istore 4, 2) := by decide +kernel
theorem dX8_fits_91 : decode cX8_fits 91 = .ok (.iinc 5 1, 3) := by decide +kernel
theorem dX8_fits_94 : decode cX8_fits 94 = .ok (.goto (-46), 3) := by decide +kernel
theorem dX8_fits_97 : decode cX8_fits 97 = .ok (.iload_n 2, 1) := by decide +kernel
theorem dX8_fits_98 : decode cX8_fits 98 = .ok (.ifCond .ne 7, 3) := by decide +kernel
theorem dX8_fits_101 : decode cX8_fits 101 = .ok (.iload_n 3, 1) := by decide +kernel
theorem dX8_fits_102 : decode cX8_fits 102 = .ok (.goto 5, 3) := by decide +kernel
theorem dX8_fits_105 : decode cX8_fits 105 = .ok (.iload 4, 2) := by decide +kernel
theorem dX8_fits_107 : decode cX8_fits 107 = .ok (.ireturn, 1) := by decide +kernel
theorem dX8_isAllSeen_0 : decode cX8_isAllSeen 0 = .ok (.iconst 0, 1) := by decide +kernel
theorem dX8_isAllSeen_1 : decode cX8_isAllSeen 1 = .ok (.istore_n 2, 1) := by decide +kernel
theorem dX8_isAllSeen_2 : decode cX8_isAllSeen 2 = .ok (.iload_n 2, 1) := by decide +kernel
theorem dX8_isAllSeen_3 : decode cX8_isAllSeen 3 = .ok (.aload_n 0, 1) := by decide +kernel
theorem dX8_isAllSeen_4 : decode cX8_isAllSeen 4 = .ok (.getfield 14, 3) := by decide +kernel
theorem dX8_isAllSeen_7 : decode cX8_isAllSeen 7 = .ok (.getfield 259, 3) := by decide +kernel
theorem dX8_isAllSeen_10 : decode cX8_isAllSeen 10 = .ok (.getfield 276, 3) := by decide +kernel
theorem dX8_isAllSeen_13 : decode cX8_isAllSeen 13 = .ok (.if_icmp .ge 52, 3) := by decide +kernel
theorem dX8_isAllSeen_16 : decode cX8_isAllSeen 16 = .ok (.aload_n 0, 1) := by decide +kernel
theorem dX8_isAllSeen_17 : decode cX8_isAllSeen 17 = .ok (.getfield 14, 3) := by decide +kernel
theorem dX8_isAllSeen_20 : decode cX8_isAllSeen 20 = .ok (.getfield 259, 3) := by decide +kernel
theorem dX8_isAllSeen_23 : decode cX8_isAllSeen 23 = .ok (.getfield 277, 3) := by decide +kernel
theorem dX8_isAllSeen_26 : decode cX8_isAllSeen 26 = .ok (.iload_n 2, 1) := by decide +kernel
theorem dX8_isAllSeen_27 : decode cX8_isAllSeen 27 = .ok (.iaload, 1) := by decide +kernel
theorem dX8_isAllSeen_28 : decode cX8_isAllSeen 28 = .ok (.istore_n 3, 1) := by decide +kernel
theorem dX8_isAllSeen_29 : decode cX8_isAllSeen 29 = .ok (.aload_n 1, 1) := by decide +kernel
theorem dX8_isAllSeen_30 : decode cX8_isAllSeen 30 = .ok (.iload_n 3, 1) := by decide +kernel
theorem dX8_isAllSeen_31 : decode cX8_isAllSeen 31 = .ok (.invokevirtual 232, 3) := by decide +kernel
theorem dX8_isAllSeen_34 : decode cX8_isAllSeen 34 = .ok (.ifCond .eq 23, 3) := by decide +kernel
theorem dX8_isAllSeen_37 : decode cX8_isAllSeen 37 = .ok (.aload_n 1, 1) := by decide +kernel
theorem dX8_isAllSeen_38 : decode cX8_isAllSeen 38 = .ok (.iload_n 3, 1) := by decide +kernel
theorem dX8_isAllSeen_39 : decode cX8_isAllSeen 39 = .ok (.invokevirtual 235, 3) := by decide +kernel
theorem dX8_isAllSeen_42 : decode cX8_isAllSeen 42 = .ok (.aload_n 0, 1) := by decide +kernel
theorem dX8_isAllSeen_43 : decode cX8_isAllSeen 43 = .ok (.getfield 14, 3) := by decide +kernel
theorem dX8_isAllSeen_46 : decode cX8_isAllSeen 46 = .ok (.getfield 259, 3) := by decide +kernel
theorem dX8_isAllSeen_49 : decode cX8_isAllSeen 49 = .ok (.getfield 278, 3) := by decide +kernel
theorem dX8_isAllSeen_52 : decode cX8_isAllSeen 52 = .ok (.iload_n 2, 1) := by decide +kernel
theorem dX8_isAllSeen_53 : decode cX8_isAllSeen 53 = .ok (.iaload, 1) := by decide +kernel
theorem dX8_isAllSeen_54 : decode cX8_isAllSeen 54 = .ok (.if_icmp .eq 5, 3) := by decide +kernel
theorem dX8_isAllSeen_57 : decode cX8_isAllSeen 57 = .ok (.iconst 0, 1) := by decide +kernel
theorem dX8_isAllSeen_58 : decode cX8_isAllSeen 58 = .ok (.ireturn, 1) := by decide +kernel
theorem dX8_isAllSeen_59 : decode cX8_isAllSeen 59 = .ok (.iinc 2 1, 3) := by decide +kernel
theorem dX8_isAllSeen_62 : decode cX8_isAllSeen 62 = .ok (.goto (-60), 3) := by decide +kernel
theorem dX8_isAllSeen_65 : decode cX8_isAllSeen 65 = .ok (.iconst 1, 1) := by decide +kernel
theorem dX8_isAllSeen_66 : decode cX8_isAllSeen 66 = .ok (.ireturn, 1) := by decide +kernel
theorem dX8_odds_0 : decode cX8_odds 0 = .ok (.aload_n 0, 1) := by decide +kernel
theorem dX8_odds_1 : decode cX8_odds 1 = .ok (.getfield 42, 3) := by decide +kernel
theorem dX8_odds_4 : decode cX8_odds 4 = .ok (.aload_n 0, 1) := by decide +kernel
theorem dX8_odds_5 : decode cX8_odds 5 = .ok (.getfield 14, 3) := by decide +kernel
theorem dX8_odds_8 : decode cX8_odds 8 = .ok (.getfield 67, 3) := by decide +kernel
theorem dX8_odds_11 : decode cX8_odds 11 = .ok (.invokevirtual 225, 3) := by decide +kernel
theorem dX8_odds_14 : decode cX8_odds 14 = .ok (.aload_n 0, 1) := by decide +kernel
theorem dX8_odds_15 : decode cX8_odds 15 = .ok (.getfield 42, 3) := by decide +kernel
theorem dX8_odds_18 : decode cX8_odds 18 = .ok (.invokevirtual 279, 3) := by decide +kernel
theorem dX8_odds_21 : decode cX8_odds 21 = .ok (.aload_n 0, 1) := by decide +kernel
theorem dX8_odds_22 : decode cX8_odds 22 = .ok (.getfield 42, 3) := by decide +kernel
theorem dX8_odds_25 : decode cX8_odds 25 = .ok (.getfield 282, 3) := by decide +kernel
theorem dX8_odds_28 : decode cX8_odds 28 = .ok (.iload_n 1, 1) := by decide +kernel
theorem dX8_odds_29 : decode cX8_odds 29 = .ok (.invokestatic 284, 3) := by decide +kernel
theorem dX8_odds_32 : decode cX8_odds 32 = .ok (.lreturn, 1) := by decide +kernel
theorem dX8_mean_0 : decode cX8_mean 0 = .ok (.aload_n 0, 1) := by decide +kernel
theorem dX8_mean_1 : decode cX8_mean 1 = .ok (.getfield 42, 3) := by decide +kernel
theorem dX8_mean_4 : decode cX8_mean 4 = .ok (.aload_n 0, 1) := by decide +kernel
theorem dX8_mean_5 : decode cX8_mean 5 = .ok (.getfield 14, 3) := by decide +kernel
theorem dX8_mean_8 : decode cX8_mean 8 = .ok (.getfield 67, 3) := by decide +kernel
theorem dX8_mean_11 : decode cX8_mean 11 = .ok (.invokevirtual 225, 3) := by decide +kernel
theorem dX8_mean_14 : decode cX8_mean 14 = .ok (.aload_n 0, 1) := by decide +kernel
theorem dX8_mean_15 : decode cX8_mean 15 = .ok (.getfield 42, 3) := by decide +kernel
theorem dX8_mean_18 : decode cX8_mean 18 = .ok (.invokevirtual 288, 3) := by decide +kernel
theorem dX8_mean_21 : decode cX8_mean 21 = .ok (.aload_n 0, 1) := by decide +kernel
theorem dX8_mean_22 : decode cX8_mean 22 = .ok (.getfield 42, 3) := by decide +kernel
theorem dX8_mean_25 : decode cX8_mean 25 = .ok (.getfield 282, 3) := by decide +kernel
theorem dX8_mean_28 : decode cX8_mean 28 = .ok (.iload_n 1, 1) := by decide +kernel
theorem dX8_mean_29 : decode cX8_mean 29 = .ok (.invokestatic 284, 3) := by decide +kernel
theorem dX8_mean_32 : decode cX8_mean 32 = .ok (.lreturn, 1) := by decide +kernel
theorem dX8_partInLowestTerms_0 : decode cX8_partInLowestTerms 0 = .ok (.iload_n 2, 1) := by decide +kernel
theorem dX8_partInLowestTerms_1 : decode cX8_partInLowestTerms 1 = .ok (.ifCond .eq 12, 3) := by decide +kernel
theorem dX8_partInLowestTerms_4 : decode cX8_partInLowestTerms 4 = .ok (.iload_n 2, 1) := by decide +kernel
theorem dX8_partInLowestTerms_5 : decode cX8_partInLowestTerms 5 = .ok (.iconst 1, 1) := by decide +kernel
theorem dX8_partInLowestTerms_6 : decode cX8_partInLowestTerms 6 = .ok (.if_icmp .eq 7, 3) := by decide +kernel
theorem dX8_partInLowestTerms_9 : decode cX8_partInLowestTerms 9 = .ok (.ldc2_w 291, 3) := by decide +kernel
theorem dX8_partInLowestTerms_12 : decode cX8_partInLowestTerms 12 = .ok (.lreturn, 1) := by decide +kernel
theorem dX8_partInLowestTerms_13 : decode cX8_partInLowestTerms 13 = .ok (.iload_n 0, 1) := by decide +kernel
theorem dX8_partInLowestTerms_14 : decode cX8_partInLowestTerms 14 = .ok (.iload_n 1, 1) := by decide +kernel
theorem dX8_partInLowestTerms_15 : decode cX8_partInLowestTerms 15 = .ok (.invokestatic 293, 3) := by decide +kernel
theorem dX8_partInLowestTerms_18 : decode cX8_partInLowestTerms 18 = .ok (.istore_n 3, 1) := by decide +kernel
theorem dX8_partInLowestTerms_19 : decode cX8_partInLowestTerms 19 = .ok (.iload_n 3, 1) := by decide +kernel
theorem dX8_partInLowestTerms_20 : decode cX8_partInLowestTerms 20 = .ok (.iconst 1, 1) := by decide +kernel
theorem dX8_partInLowestTerms_21 : decode cX8_partInLowestTerms 21 = .ok (.if_icmp .ge 7, 3) := by decide +kernel
theorem dX8_partInLowestTerms_24 : decode cX8_partInLowestTerms 24 = .ok (.ldc2_w 291, 3) := by decide +kernel
theorem dX8_partInLowestTerms_27 : decode cX8_partInLowestTerms 27 = .ok (.lreturn, 1) := by decide +kernel
theorem dX8_partInLowestTerms_28 : decode cX8_partInLowestTerms 28 = .ok (.iload_n 2, 1) := by decide +kernel
theorem dX8_partInLowestTerms_29 : decode cX8_partInLowestTerms 29 = .ok (.ifCond .ne 10, 3) := by decide +kernel
theorem dX8_partInLowestTerms_32 : decode cX8_partInLowestTerms 32 = .ok (.iload_n 0, 1) := by decide +kernel
theorem dX8_partInLowestTerms_33 : decode cX8_partInLowestTerms 33 = .ok (.iload_n 3, 1) := by decide +kernel
theorem dX8_partInLowestTerms_34 : decode cX8_partInLowestTerms 34 = .ok (.idiv, 1) := by decide +kernel
theorem dX8_partInLowestTerms_35 : decode cX8_partInLowestTerms 35 = .ok (.i2l, 1) := by decide +kernel
theorem dX8_partInLowestTerms_36 : decode cX8_partInLowestTerms 36 = .ok (.goto 7, 3) := by decide +kernel
theorem dX8_partInLowestTerms_39 : decode cX8_partInLowestTerms 39 = .ok (.iload_n 1, 1) := by decide +kernel
theorem dX8_partInLowestTerms_40 : decode cX8_partInLowestTerms 40 = .ok (.iload_n 3, 1) := by decide +kernel
theorem dX8_partInLowestTerms_41 : decode cX8_partInLowestTerms 41 = .ok (.idiv, 1) := by decide +kernel
theorem dX8_partInLowestTerms_42 : decode cX8_partInLowestTerms 42 = .ok (.i2l, 1) := by decide +kernel
theorem dX8_partInLowestTerms_43 : decode cX8_partInLowestTerms 43 = .ok (.lreturn, 1) := by decide +kernel
theorem dX8_greatestDivisor_0 : decode cX8_greatestDivisor 0 = .ok (.iload_n 0, 1) := by decide +kernel
theorem dX8_greatestDivisor_1 : decode cX8_greatestDivisor 1 = .ok (.istore_n 2, 1) := by decide +kernel
theorem dX8_greatestDivisor_2 : decode cX8_greatestDivisor 2 = .ok (.iload_n 1, 1) := by decide +kernel
theorem dX8_greatestDivisor_3 : decode cX8_greatestDivisor 3 = .ok (.istore_n 3, 1) := by decide +kernel
theorem dX8_greatestDivisor_4 : decode cX8_greatestDivisor 4 = .ok (.iconst 0, 1) := by decide +kernel
theorem dX8_greatestDivisor_5 : decode cX8_greatestDivisor 5 = .ok (.istore 4, 2) := by decide +kernel
theorem dX8_greatestDivisor_7 : decode cX8_greatestDivisor 7 = .ok (.iload 4, 2) := by decide +kernel
theorem dX8_greatestDivisor_9 : decode cX8_greatestDivisor 9 = .ok (.bipush 64, 2) := by decide +kernel
theorem dX8_greatestDivisor_11 : decode cX8_greatestDivisor 11 = .ok (.if_icmp .ge 23, 3) := by decide +kernel
theorem dX8_greatestDivisor_14 : decode cX8_greatestDivisor 14 = .ok (.iload_n 3, 1) := by decide +kernel
theorem dX8_greatestDivisor_15 : decode cX8_greatestDivisor 15 = .ok (.ifCond .eq 19, 3) := by decide +kernel
theorem dX8_greatestDivisor_18 : decode cX8_greatestDivisor 18 = .ok (.iload_n 2, 1) := by decide +kernel
theorem dX8_greatestDivisor_19 : decode cX8_greatestDivisor 19 = .ok (.iload_n 3, 1) := by decide +kernel
theorem dX8_greatestDivisor_20 : decode cX8_greatestDivisor 20 = .ok (.irem, 1) := by decide +kernel
theorem dX8_greatestDivisor_21 : decode cX8_greatestDivisor 21 = .ok (.istore 5, 2) := by decide +kernel
theorem dX8_greatestDivisor_23 : decode cX8_greatestDivisor 23 = .ok (.iload_n 3, 1) := by decide +kernel
theorem dX8_greatestDivisor_24 : decode cX8_greatestDivisor 24 = .ok (.istore_n 2, 1) := by decide +kernel
theorem dX8_greatestDivisor_25 : decode cX8_greatestDivisor 25 = .ok (.iload 5, 2) := by decide +kernel
theorem dX8_greatestDivisor_27 : decode cX8_greatestDivisor 27 = .ok (.istore_n 3, 1) := by decide +kernel
theorem dX8_greatestDivisor_28 : decode cX8_greatestDivisor 28 = .ok (.iinc 4 1, 3) := by decide +kernel
theorem dX8_greatestDivisor_31 : decode cX8_greatestDivisor 31 = .ok (.goto (-24), 3) := by decide +kernel
theorem dX8_greatestDivisor_34 : decode cX8_greatestDivisor 34 = .ok (.iload_n 2, 1) := by decide +kernel
theorem dX8_greatestDivisor_35 : decode cX8_greatestDivisor 35 = .ok (.ireturn, 1) := by decide +kernel
theorem dX8_event_0 : decode cX8_event 0 = .ok (.iload_n 1, 1) := by decide +kernel
theorem dX8_event_1 : decode cX8_event 1 = .ok (.iconst (-1), 1) := by decide +kernel
theorem dX8_event_2 : decode cX8_event 2 = .ok (.if_icmp .ne 14, 3) := by decide +kernel
theorem dX8_event_5 : decode cX8_event 5 = .ok (.aload_n 0, 1) := by decide +kernel
theorem dX8_event_6 : decode cX8_event 6 = .ok (.getfield 14, 3) := by decide +kernel
theorem dX8_event_9 : decode cX8_event 9 = .ok (.getfield 296, 3) := by decide +kernel
theorem dX8_event_12 : decode cX8_event 12 = .ok (.invokevirtual 263, 3) := by decide +kernel
theorem dX8_event_15 : decode cX8_event 15 = .ok (.ireturn, 1) := by decide +kernel
theorem dX8_event_16 : decode cX8_event 16 = .ok (.iload_n 1, 1) := by decide +kernel
theorem dX8_event_17 : decode cX8_event 17 = .ok (.ifCond .lt 8, 3) := by decide +kernel
theorem dX8_event_20 : decode cX8_event 20 = .ok (.iload_n 1, 1) := by decide +kernel
theorem dX8_event_21 : decode cX8_event 21 = .ok (.iconst 2, 1) := by decide +kernel
theorem dX8_event_22 : decode cX8_event 22 = .ok (.if_icmp .le 5, 3) := by decide +kernel
theorem dX8_event_25 : decode cX8_event 25 = .ok (.iconst (-1), 1) := by decide +kernel
theorem dX8_event_26 : decode cX8_event 26 = .ok (.ireturn, 1) := by decide +kernel
theorem dX8_event_27 : decode cX8_event 27 = .ok (.iload_n 1, 1) := by decide +kernel
theorem dX8_event_28 : decode cX8_event 28 = .ok (.iconst 1, 1) := by decide +kernel
theorem dX8_event_29 : decode cX8_event 29 = .ok (.if_icmp .ne 19, 3) := by decide +kernel
theorem dX8_event_32 : decode cX8_event 32 = .ok (.aload_n 0, 1) := by decide +kernel
theorem dX8_event_33 : decode cX8_event 33 = .ok (.getfield 14, 3) := by decide +kernel
theorem dX8_event_36 : decode cX8_event 36 = .ok (.getfield 67, 3) := by decide +kernel
theorem dX8_event_39 : decode cX8_event 39 = .ok (.iload_n 2, 1) := by decide +kernel
theorem dX8_event_40 : decode cX8_event 40 = .ok (.invokevirtual 88, 3) := by decide +kernel
theorem dX8_event_43 : decode cX8_event 43 = .ok (.ifCond .ne 5, 3) := by decide +kernel
theorem dX8_event_46 : decode cX8_event 46 = .ok (.iconst (-1), 1) := by decide +kernel
theorem dX8_event_47 : decode cX8_event 47 = .ok (.ireturn, 1) := by decide +kernel
theorem dX8_event_48 : decode cX8_event 48 = .ok (.iload_n 1, 1) := by decide +kernel
theorem dX8_event_49 : decode cX8_event 49 = .ok (.iconst 2, 1) := by decide +kernel
theorem dX8_event_50 : decode cX8_event 50 = .ok (.if_icmp .ne 12, 3) := by decide +kernel
theorem dX8_event_53 : decode cX8_event 53 = .ok (.iload_n 2, 1) := by decide +kernel
theorem dX8_event_54 : decode cX8_event 54 = .ok (.invokestatic 114, 3) := by decide +kernel
theorem dX8_event_57 : decode cX8_event 57 = .ok (.ifCond .ne 5, 3) := by decide +kernel
theorem dX8_event_60 : decode cX8_event 60 = .ok (.iconst (-1), 1) := by decide +kernel
theorem dX8_event_61 : decode cX8_event 61 = .ok (.ireturn, 1) := by decide +kernel
theorem dX8_event_62 : decode cX8_event 62 = .ok (.iload_n 1, 1) := by decide +kernel
theorem dX8_event_63 : decode cX8_event 63 = .ok (.ifCond .ne 10, 3) := by decide +kernel
theorem dX8_event_66 : decode cX8_event 66 = .ok (.iload_n 2, 1) := by decide +kernel
theorem dX8_event_67 : decode cX8_event 67 = .ok (.ifCond .eq 6, 3) := by decide +kernel
theorem dX8_event_70 : decode cX8_event 70 = .ok (.bipush (-2), 2) := by decide +kernel
theorem dX8_event_72 : decode cX8_event 72 = .ok (.ireturn, 1) := by decide +kernel
theorem dX8_event_73 : decode cX8_event 73 = .ok (.aload_n 0, 1) := by decide +kernel
theorem dX8_event_74 : decode cX8_event 74 = .ok (.getfield 14, 3) := by decide +kernel
theorem dX8_event_77 : decode cX8_event 77 = .ok (.getfield 296, 3) := by decide +kernel
theorem dX8_event_80 : decode cX8_event 80 = .ok (.iload_n 1, 1) := by decide +kernel
theorem dX8_event_81 : decode cX8_event 81 = .ok (.iload_n 2, 1) := by decide +kernel
theorem dX8_event_82 : decode cX8_event 82 = .ok (.invokevirtual 270, 3) := by decide +kernel
theorem dX8_event_85 : decode cX8_event 85 = .ok (.ireturn, 1) := by decide +kernel
theorem dX8_after_0 : decode cX8_after 0 = .ok (.iload_n 1, 1) := by decide +kernel
theorem dX8_after_1 : decode cX8_after 1 = .ok (.ifCond .lt 8, 3) := by decide +kernel
theorem dX8_after_4 : decode cX8_after 4 = .ok (.iload_n 1, 1) := by decide +kernel
theorem dX8_after_5 : decode cX8_after 5 = .ok (.iconst 2, 1) := by decide +kernel
theorem dX8_after_6 : decode cX8_after 6 = .ok (.if_icmp .le 5, 3) := by decide +kernel
theorem dX8_after_9 : decode cX8_after 9 = .ok (.iconst (-1), 1) := by decide +kernel
theorem dX8_after_10 : decode cX8_after 10 = .ok (.ireturn, 1) := by decide +kernel
theorem dX8_after_11 : decode cX8_after 11 = .ok (.aload_n 0, 1) := by decide +kernel
theorem dX8_after_12 : decode cX8_after 12 = .ok (.getfield 56, 3) := by decide +kernel
theorem dX8_after_15 : decode cX8_after 15 = .ok (.aload_n 0, 1) := by decide +kernel
theorem dX8_after_16 : decode cX8_after 16 = .ok (.getfield 14, 3) := by decide +kernel
theorem dX8_after_19 : decode cX8_after 19 = .ok (.getfield 67, 3) := by decide +kernel
theorem dX8_after_22 : decode cX8_after 22 = .ok (.invokevirtual 229, 3) := by decide +kernel
theorem dX8_after_25 : decode cX8_after 25 = .ok (.iconst 0, 1) := by decide +kernel
theorem dX8_after_26 : decode cX8_after 26 = .ok (.istore_n 2, 1) := by decide +kernel
theorem dX8_after_27 : decode cX8_after 27 = .ok (.iload_n 2, 1) := by decide +kernel
theorem dX8_after_28 : decode cX8_after 28 = .ok (.aload_n 0, 1) := by decide +kernel
theorem dX8_after_29 : decode cX8_after 29 = .ok (.getfield 14, 3) := by decide +kernel
theorem dX8_after_32 : decode cX8_after 32 = .ok (.getfield 296, 3) := by decide +kernel
theorem dX8_after_35 : decode cX8_after 35 = .ok (.getfield 276, 3) := by decide +kernel
theorem dX8_after_38 : decode cX8_after 38 = .ok (.if_icmp .ge 40, 3) := by decide +kernel
theorem dX8_after_41 : decode cX8_after 41 = .ok (.aload_n 0, 1) := by decide +kernel
theorem dX8_after_42 : decode cX8_after 42 = .ok (.getfield 56, 3) := by decide +kernel
theorem dX8_after_45 : decode cX8_after 45 = .ok (.aload_n 0, 1) := by decide +kernel
theorem dX8_after_46 : decode cX8_after 46 = .ok (.getfield 14, 3) := by decide +kernel
theorem dX8_after_49 : decode cX8_after 49 = .ok (.getfield 296, 3) := by decide +kernel
theorem dX8_after_52 : decode cX8_after 52 = .ok (.getfield 277, 3) := by decide +kernel
theorem dX8_after_55 : decode cX8_after 55 = .ok (.iload_n 2, 1) := by decide +kernel
theorem dX8_after_56 : decode cX8_after 56 = .ok (.iaload, 1) := by decide +kernel
theorem dX8_after_57 : decode cX8_after 57 = .ok (.aload_n 0, 1) := by decide +kernel
theorem dX8_after_58 : decode cX8_after 58 = .ok (.getfield 14, 3) := by decide +kernel
theorem dX8_after_61 : decode cX8_after 61 = .ok (.getfield 296, 3) := by decide +kernel
theorem dX8_after_64 : decode cX8_after 64 = .ok (.getfield 278, 3) := by decide +kernel
theorem dX8_after_67 : decode cX8_after 67 = .ok (.iload_n 2, 1) := by decide +kernel
theorem dX8_after_68 : decode cX8_after 68 = .ok (.iaload, 1) := by decide +kernel
theorem dX8_after_69 : decode cX8_after 69 = .ok (.invokevirtual 299, 3) := by decide +kernel
theorem dX8_after_72 : decode cX8_after 72 = .ok (.iinc 2 1, 3) := by decide +kernel
theorem dX8_after_75 : decode cX8_after 75 = .ok (.goto (-48), 3) := by decide +kernel
theorem dX8_after_78 : decode cX8_after 78 = .ok (.iload_n 1, 1) := by decide +kernel
theorem dX8_after_79 : decode cX8_after 79 = .ok (.lookupswitch 41 #[(0, 25), (1, 33)], 25) := by decide +kernel
theorem dX8_after_104 : decode cX8_after 104 = .ok (.aload_n 0, 1) := by decide +kernel
theorem dX8_after_105 : decode cX8_after 105 = .ok (.getfield 56, 3) := by decide +kernel
theorem dX8_after_108 : decode cX8_after 108 = .ok (.invokevirtual 124, 3) := by decide +kernel
theorem dX8_after_111 : decode cX8_after 111 = .ok (.ireturn, 1) := by decide +kernel
theorem dX8_after_112 : decode cX8_after 112 = .ok (.aload_n 0, 1) := by decide +kernel
theorem dX8_after_113 : decode cX8_after 113 = .ok (.getfield 56, 3) := by decide +kernel
theorem dX8_after_116 : decode cX8_after 116 = .ok (.invokevirtual 133, 3) := by decide +kernel
theorem dX8_after_119 : decode cX8_after 119 = .ok (.ireturn, 1) := by decide +kernel
theorem dX8_after_120 : decode cX8_after 120 = .ok (.aload_n 0, 1) := by decide +kernel
theorem dX8_after_121 : decode cX8_after 121 = .ok (.getfield 56, 3) := by decide +kernel
theorem dX8_after_124 : decode cX8_after 124 = .ok (.invokevirtual 194, 3) := by decide +kernel
theorem dX8_after_127 : decode cX8_after 127 = .ok (.ifCond .eq 7, 3) := by decide +kernel
theorem dX8_after_130 : decode cX8_after 130 = .ok (.iconst 1, 1) := by decide +kernel
theorem dX8_after_131 : decode cX8_after 131 = .ok (.goto 4, 3) := by decide +kernel
theorem dX8_after_134 : decode cX8_after 134 = .ok (.iconst 0, 1) := by decide +kernel
theorem dX8_after_135 : decode cX8_after 135 = .ok (.ireturn, 1) := by decide +kernel
theorem dX8_book_0 : decode cX8_book 0 = .ok (.iload_n 1, 1) := by decide +kernel
theorem dX8_book_1 : decode cX8_book 1 = .ok (.iconst (-1), 1) := by decide +kernel
theorem dX8_book_2 : decode cX8_book 2 = .ok (.if_icmp .ne 14, 3) := by decide +kernel
theorem dX8_book_5 : decode cX8_book 5 = .ok (.aload_n 0, 1) := by decide +kernel
theorem dX8_book_6 : decode cX8_book 6 = .ok (.getfield 14, 3) := by decide +kernel
theorem dX8_book_9 : decode cX8_book 9 = .ok (.getfield 302, 3) := by decide +kernel
theorem dX8_book_12 : decode cX8_book 12 = .ok (.invokevirtual 263, 3) := by decide +kernel
theorem dX8_book_15 : decode cX8_book 15 = .ok (.ireturn, 1) := by decide +kernel
theorem dX8_book_16 : decode cX8_book 16 = .ok (.aload_n 0, 1) := by decide +kernel
theorem dX8_book_17 : decode cX8_book 17 = .ok (.getfield 14, 3) := by decide +kernel
theorem dX8_book_20 : decode cX8_book 20 = .ok (.getfield 67, 3) := by decide +kernel
theorem dX8_book_23 : decode cX8_book 23 = .ok (.iload_n 1, 1) := by decide +kernel
theorem dX8_book_24 : decode cX8_book 24 = .ok (.invokevirtual 88, 3) := by decide +kernel
theorem dX8_book_27 : decode cX8_book 27 = .ok (.ifCond .ne 5, 3) := by decide +kernel
theorem dX8_book_30 : decode cX8_book 30 = .ok (.iconst (-1), 1) := by decide +kernel
theorem dX8_book_31 : decode cX8_book 31 = .ok (.ireturn, 1) := by decide +kernel
theorem dX8_book_32 : decode cX8_book 32 = .ok (.iload_n 2, 1) := by decide +kernel
theorem dX8_book_33 : decode cX8_book 33 = .ok (.invokestatic 92, 3) := by decide +kernel
theorem dX8_book_36 : decode cX8_book 36 = .ok (.ifCond .ne 6, 3) := by decide +kernel
theorem dX8_book_39 : decode cX8_book 39 = .ok (.bipush (-2), 2) := by decide +kernel
theorem dX8_book_41 : decode cX8_book 41 = .ok (.ireturn, 1) := by decide +kernel
theorem dX8_book_42 : decode cX8_book 42 = .ok (.aload_n 0, 1) := by decide +kernel
theorem dX8_book_43 : decode cX8_book 43 = .ok (.getfield 14, 3) := by decide +kernel
theorem dX8_book_46 : decode cX8_book 46 = .ok (.getfield 302, 3) := by decide +kernel
theorem dX8_book_49 : decode cX8_book 49 = .ok (.iload_n 1, 1) := by decide +kernel
theorem dX8_book_50 : decode cX8_book 50 = .ok (.iload_n 2, 1) := by decide +kernel
theorem dX8_book_51 : decode cX8_book 51 = .ok (.invokevirtual 270, 3) := by decide +kernel
theorem dX8_book_54 : decode cX8_book 54 = .ok (.ireturn, 1) := by decide +kernel
theorem dX8_looked_0 : decode cX8_looked 0 = .ok (.iconst 0, 1) := by decide +kernel
theorem dX8_looked_1 : decode cX8_looked 1 = .ok (.istore_n 1, 1) := by decide +kernel
theorem dX8_looked_2 : decode cX8_looked 2 = .ok (.iload_n 1, 1) := by decide +kernel
theorem dX8_looked_3 : decode cX8_looked 3 = .ok (.aload_n 0, 1) := by decide +kernel
theorem dX8_looked_4 : decode cX8_looked 4 = .ok (.getfield 14, 3) := by decide +kernel
theorem dX8_looked_7 : decode cX8_looked 7 = .ok (.getfield 302, 3) := by decide +kernel
theorem dX8_looked_10 : decode cX8_looked 10 = .ok (.getfield 276, 3) := by decide +kernel
theorem dX8_looked_13 : decode cX8_looked 13 = .ok (.if_icmp .ge 65, 3) := by decide +kernel
theorem dX8_looked_16 : decode cX8_looked 16 = .ok (.aload_n 0, 1) := by decide +kernel
theorem dX8_looked_17 : decode cX8_looked 17 = .ok (.getfield 14, 3) := by decide +kernel
theorem dX8_looked_20 : decode cX8_looked 20 = .ok (.getfield 302, 3) := by decide +kernel
theorem dX8_looked_23 : decode cX8_looked 23 = .ok (.getfield 277, 3) := by decide +kernel
theorem dX8_looked_26 : decode cX8_looked 26 = .ok (.iload_n 1, 1) := by decide +kernel
theorem dX8_looked_27 : decode cX8_looked 27 = .ok (.iaload, 1) := by decide +kernel
theorem dX8_looked_28 : decode cX8_looked 28 = .ok (.istore_n 2, 1) := by decide +kernel
theorem dX8_looked_29 : decode cX8_looked 29 = .ok (.aload_n 0, 1) := by decide +kernel
theorem dX8_looked_30 : decode cX8_looked 30 = .ok (.getfield 14, 3) := by decide +kernel
theorem dX8_looked_33 : decode cX8_looked 33 = .ok (.getfield 67, 3) := by decide +kernel
theorem dX8_looked_36 : decode cX8_looked 36 = .ok (.iload_n 2, 1) := by decide +kernel
theorem dX8_looked_37 : decode cX8_looked 37 = .ok (.invokevirtual 88, 3) := by decide +kernel
theorem dX8_looked_40 : decode cX8_looked 40 = .ok (.ifCond .eq 30, 3) := by decide +kernel
theorem dX8_looked_43 : decode cX8_looked 43 = .ok (.aload_n 0, 1) := by decide +kernel
theorem dX8_looked_44 : decode cX8_looked 44 = .ok (.getfield 14, 3) := by decide +kernel
theorem dX8_looked_47 : decode cX8_looked 47 = .ok (.getfield 67, 3) := by decide +kernel
theorem dX8_looked_50 : decode cX8_looked 50 = .ok (.getfield 99, 3) := by decide +kernel
theorem dX8_looked_53 : decode cX8_looked 53 = .ok (.iload_n 2, 1) := by decide +kernel
theorem dX8_looked_54 : decode cX8_looked 54 = .ok (.iaload, 1) := by decide +kernel
theorem dX8_looked_55 : decode cX8_looked 55 = .ok (.aload_n 0, 1) := by decide +kernel
theorem dX8_looked_56 : decode cX8_looked 56 = .ok (.getfield 14, 3) := by decide +kernel
theorem dX8_looked_59 : decode cX8_looked 59 = .ok (.getfield 302, 3) := by decide +kernel
theorem dX8_looked_62 : decode cX8_looked 62 = .ok (.getfield 278, 3) := by decide +kernel
theorem dX8_looked_65 : decode cX8_looked 65 = .ok (.iload_n 1, 1) := by decide +kernel
theorem dX8_looked_66 : decode cX8_looked 66 = .ok (.iaload, 1) := by decide +kernel
theorem dX8_looked_67 : decode cX8_looked 67 = .ok (.if_icmp .eq 5, 3) := by decide +kernel
theorem dX8_looked_70 : decode cX8_looked 70 = .ok (.iload_n 1, 1) := by decide +kernel
theorem dX8_looked_71 : decode cX8_looked 71 = .ok (.ireturn, 1) := by decide +kernel
theorem dX8_looked_72 : decode cX8_looked 72 = .ok (.iinc 1 1, 3) := by decide +kernel
theorem dX8_looked_75 : decode cX8_looked 75 = .ok (.goto (-73), 3) := by decide +kernel
theorem dX8_looked_78 : decode cX8_looked 78 = .ok (.bipush (-5), 2) := by decide +kernel
theorem dX8_looked_80 : decode cX8_looked 80 = .ok (.ireturn, 1) := by decide +kernel
theorem dX8_judge_0 : decode cX8_judge 0 = .ok (.iload_n 1, 1) := by decide +kernel
theorem dX8_judge_1 : decode cX8_judge 1 = .ok (.invokestatic 305, 3) := by decide +kernel
theorem dX8_judge_4 : decode cX8_judge 4 = .ok (.ifCond .ne 5, 3) := by decide +kernel
theorem dX8_judge_7 : decode cX8_judge 7 = .ok (.iconst (-1), 1) := by decide +kernel
theorem dX8_judge_8 : decode cX8_judge 8 = .ok (.ireturn, 1) := by decide +kernel
theorem dX8_judge_9 : decode cX8_judge 9 = .ok (.aload_n 0, 1) := by decide +kernel
theorem dX8_judge_10 : decode cX8_judge 10 = .ok (.getfield 62, 3) := by decide +kernel
theorem dX8_judge_13 : decode cX8_judge 13 = .ok (.iload_n 1, 1) := by decide +kernel
theorem dX8_judge_14 : decode cX8_judge 14 = .ok (.aaload, 1) := by decide +kernel
theorem dX8_judge_15 : decode cX8_judge 15 = .ok (.astore_n 3, 1) := by decide +kernel
theorem dX8_judge_16 : decode cX8_judge 16 = .ok (.aload_n 3, 1) := by decide +kernel
theorem dX8_judge_17 : decode cX8_judge 17 = .ok (.getfield 308, 3) := by decide +kernel
theorem dX8_judge_20 : decode cX8_judge 20 = .ok (.iconst (-1), 1) := by decide +kernel
theorem dX8_judge_21 : decode cX8_judge 21 = .ok (.if_icmp .ne 6, 3) := by decide +kernel
theorem dX8_judge_24 : decode cX8_judge 24 = .ok (.bipush 100, 2) := by decide +kernel
theorem dX8_judge_26 : decode cX8_judge 26 = .ok (.ireturn, 1) := by decide +kernel
theorem dX8_judge_27 : decode cX8_judge 27 = .ok (.aload_n 3, 1) := by decide +kernel
