theorem dX8_judge_28 : decode cX8_judge 28 = .ok (.getfield 308, 3) := by decide +kernel
theorem dX8_judge_31 : decode cX8_judge 31 = .ok (.iconst 1, 1) := by decide +kernel
theorem dX8_judge_32 : decode cX8_judge 32 = .ok (.if_icmp .eq 6, 3) := by decide +kernel
theorem dX8_judge_35 : decode cX8_judge 35 = .ok (.bipush (-12), 2) := by decide +kernel
theorem dX8_judge_37 : decode cX8_judge 37 = .ok (.ireturn, 1) := by decide +kernel
theorem dX8_judge_38 : decode cX8_judge 38 = .ok (.iload_n 2, 1) := by decide +kernel
theorem dX8_judge_39 : decode cX8_judge 39 = .ok (.ifCond .ge 6, 3) := by decide +kernel
theorem dX8_judge_42 : decode cX8_judge 42 = .ok (.bipush 100, 2) := by decide +kernel
theorem dX8_judge_44 : decode cX8_judge 44 = .ok (.ireturn, 1) := by decide +kernel
theorem dX8_judge_45 : decode cX8_judge 45 = .ok (.iconst 0, 1) := by decide +kernel
theorem dX8_judge_46 : decode cX8_judge 46 = .ok (.istore 4, 2) := by decide +kernel
theorem dX8_judge_48 : decode cX8_judge 48 = .ok (.iload 4, 2) := by decide +kernel
theorem dX8_judge_50 : decode cX8_judge 50 = .ok (.aload_n 0, 1) := by decide +kernel
theorem dX8_judge_51 : decode cX8_judge 51 = .ok (.getfield 14, 3) := by decide +kernel
theorem dX8_judge_54 : decode cX8_judge 54 = .ok (.getfield 67, 3) := by decide +kernel
theorem dX8_judge_57 : decode cX8_judge 57 = .ok (.getfield 70, 3) := by decide +kernel
theorem dX8_judge_60 : decode cX8_judge 60 = .ok (.if_icmp .ge 56, 3) := by decide +kernel
theorem dX8_judge_63 : decode cX8_judge 63 = .ok (.iload_n 2, 1) := by decide +kernel
theorem dX8_judge_64 : decode cX8_judge 64 = .ok (.aload_n 3, 1) := by decide +kernel
theorem dX8_judge_65 : decode cX8_judge 65 = .ok (.getfield 311, 3) := by decide +kernel
theorem dX8_judge_68 : decode cX8_judge 68 = .ok (.iload 4, 2) := by decide +kernel
theorem dX8_judge_70 : decode cX8_judge 70 = .ok (.isub, 1) := by decide +kernel
theorem dX8_judge_71 : decode cX8_judge 71 = .ok (.if_icmp .lt 9, 3) := by decide +kernel
theorem dX8_judge_74 : decode cX8_judge 74 = .ok (.bipush 100, 2) := by decide +kernel
theorem dX8_judge_76 : decode cX8_judge 76 = .ok (.iload 4, 2) := by decide +kernel
theorem dX8_judge_78 : decode cX8_judge 78 = .ok (.iadd, 1) := by decide +kernel
theorem dX8_judge_79 : decode cX8_judge 79 = .ok (.ireturn, 1) := by decide +kernel
theorem dX8_judge_80 : decode cX8_judge 80 = .ok (.aload_n 3, 1) := by decide +kernel
theorem dX8_judge_81 : decode cX8_judge 81 = .ok (.getfield 312, 3) := by decide +kernel
theorem dX8_judge_84 : decode cX8_judge 84 = .ok (.iload_n 2, 1) := by decide +kernel
theorem dX8_judge_85 : decode cX8_judge 85 = .ok (.iload 4, 2) := by decide +kernel
theorem dX8_judge_87 : decode cX8_judge 87 = .ok (.iadd, 1) := by decide +kernel
theorem dX8_judge_88 : decode cX8_judge 88 = .ok (.laload, 1) := by decide +kernel
theorem dX8_judge_89 : decode cX8_judge 89 = .ok (.aload_n 0, 1) := by decide +kernel
theorem dX8_judge_90 : decode cX8_judge 90 = .ok (.getfield 14, 3) := by decide +kernel
theorem dX8_judge_93 : decode cX8_judge 93 = .ok (.getfield 67, 3) := by decide +kernel
theorem dX8_judge_96 : decode cX8_judge 96 = .ok (.getfield 99, 3) := by decide +kernel
theorem dX8_judge_99 : decode cX8_judge 99 = .ok (.iload 4, 2) := by decide +kernel
theorem dX8_judge_101 : decode cX8_judge 101 = .ok (.iaload, 1) := by decide +kernel
theorem dX8_judge_102 : decode cX8_judge 102 = .ok (.i2l, 1) := by decide +kernel
theorem dX8_judge_103 : decode cX8_judge 103 = .ok (.lcmp, 1) := by decide +kernel
theorem dX8_judge_104 : decode cX8_judge 104 = .ok (.ifCond .eq 6, 3) := by decide +kernel
theorem dX8_judge_107 : decode cX8_judge 107 = .ok (.iload 4, 2) := by decide +kernel
theorem dX8_judge_109 : decode cX8_judge 109 = .ok (.ireturn, 1) := by decide +kernel
theorem dX8_judge_110 : decode cX8_judge 110 = .ok (.iinc 4 1, 3) := by decide +kernel
theorem dX8_judge_113 : decode cX8_judge 113 = .ok (.goto (-65), 3) := by decide +kernel
theorem dX8_judge_116 : decode cX8_judge 116 = .ok (.bipush (-5), 2) := by decide +kernel
theorem dX8_judge_118 : decode cX8_judge 118 = .ok (.ireturn, 1) := by decide +kernel
theorem dX8_image_0 : decode cX8_image 0 = .ok (.aload_n 0, 1) := by decide +kernel
theorem dX8_image_1 : decode cX8_image 1 = .ok (.getfield 18, 3) := by decide +kernel
theorem dX8_image_4 : decode cX8_image 4 = .ok (.aload_n 0, 1) := by decide +kernel
theorem dX8_image_5 : decode cX8_image 5 = .ok (.getfield 14, 3) := by decide +kernel
theorem dX8_image_8 : decode cX8_image 8 = .ok (.invokevirtual 316, 3) := by decide +kernel
theorem dX8_image_11 : decode cX8_image 11 = .ok (.aload_n 0, 1) := by decide +kernel
theorem dX8_image_12 : decode cX8_image 12 = .ok (.iconst 1, 1) := by decide +kernel
theorem dX8_image_13 : decode cX8_image 13 = .ok (.putfield 21, 3) := by decide +kernel
theorem dX8_image_16 : decode cX8_image 16 = .ok (.aload_n 0, 1) := by decide +kernel
theorem dX8_image_17 : decode cX8_image 17 = .ok (.getfield 14, 3) := by decide +kernel
theorem dX8_image_20 : decode cX8_image 20 = .ok (.getfield 67, 3) := by decide +kernel
theorem dX8_image_23 : decode cX8_image 23 = .ok (.invokevirtual 124, 3) := by decide +kernel
theorem dX8_image_26 : decode cX8_image 26 = .ok (.ireturn, 1) := by decide +kernel
theorem dX8_undo_0 : decode cX8_undo 0 = .ok (.aload_n 0, 1) := by decide +kernel
theorem dX8_undo_1 : decode cX8_undo 1 = .ok (.getfield 21, 3) := by decide +kernel
theorem dX8_undo_4 : decode cX8_undo 4 = .ok (.ifCond .ne 6, 3) := by decide +kernel
theorem dX8_undo_7 : decode cX8_undo 7 = .ok (.bipush (-3), 2) := by decide +kernel
theorem dX8_undo_9 : decode cX8_undo 9 = .ok (.ireturn, 1) := by decide +kernel
theorem dX8_undo_10 : decode cX8_undo 10 = .ok (.aload_n 0, 1) := by decide +kernel
theorem dX8_undo_11 : decode cX8_undo 11 = .ok (.getfield 14, 3) := by decide +kernel
theorem dX8_undo_14 : decode cX8_undo 14 = .ok (.aload_n 0, 1) := by decide +kernel
theorem dX8_undo_15 : decode cX8_undo 15 = .ok (.getfield 18, 3) := by decide +kernel
theorem dX8_undo_18 : decode cX8_undo 18 = .ok (.invokevirtual 316, 3) := by decide +kernel
theorem dX8_undo_21 : decode cX8_undo 21 = .ok (.aload_n 0, 1) := by decide +kernel
theorem dX8_undo_22 : decode cX8_undo 22 = .ok (.getfield 28, 3) := by decide +kernel
theorem dX8_undo_25 : decode cX8_undo 25 = .ok (.invokevirtual 78, 3) := by decide +kernel
theorem dX8_undo_28 : decode cX8_undo 28 = .ok (.aload_n 0, 1) := by decide +kernel
theorem dX8_undo_29 : decode cX8_undo 29 = .ok (.getfield 14, 3) := by decide +kernel
theorem dX8_undo_32 : decode cX8_undo 32 = .ok (.getfield 67, 3) := by decide +kernel
theorem dX8_undo_35 : decode cX8_undo 35 = .ok (.invokevirtual 124, 3) := by decide +kernel
theorem dX8_undo_38 : decode cX8_undo 38 = .ok (.ireturn, 1) := by decide +kernel
theorem dX8_count_0 : decode cX8_count 0 = .ok (.iload_n 1, 1) := by decide +kernel
theorem dX8_count_1 : decode cX8_count 1 = .ok (.tableswitch 84 0 4 #[35, 46, 57, 68, 76], 35) := by decide +kernel
theorem dX8_count_36 : decode cX8_count 36 = .ok (.aload_n 0, 1) := by decide +kernel
theorem dX8_count_37 : decode cX8_count 37 = .ok (.getfield 14, 3) := by decide +kernel
theorem dX8_count_40 : decode cX8_count 40 = .ok (.getfield 259, 3) := by decide +kernel
theorem dX8_count_43 : decode cX8_count 43 = .ok (.getfield 276, 3) := by decide +kernel
theorem dX8_count_46 : decode cX8_count 46 = .ok (.ireturn, 1) := by decide +kernel
theorem dX8_count_47 : decode cX8_count 47 = .ok (.aload_n 0, 1) := by decide +kernel
theorem dX8_count_48 : decode cX8_count 48 = .ok (.getfield 14, 3) := by decide +kernel
theorem dX8_count_51 : decode cX8_count 51 = .ok (.getfield 296, 3) := by decide +kernel
theorem dX8_count_54 : decode cX8_count 54 = .ok (.getfield 276, 3) := by decide +kernel
theorem dX8_count_57 : decode cX8_count 57 = .ok (.ireturn, 1) := by decide +kernel
theorem dX8_count_58 : decode cX8_count 58 = .ok (.aload_n 0, 1) := by decide +kernel
theorem dX8_count_59 : decode cX8_count 59 = .ok (.getfield 14, 3) := by decide +kernel
theorem dX8_count_62 : decode cX8_count 62 = .ok (.getfield 302, 3) := by decide +kernel
theorem dX8_count_65 : decode cX8_count 65 = .ok (.getfield 276, 3) := by decide +kernel
theorem dX8_count_68 : decode cX8_count 68 = .ok (.ireturn, 1) := by decide +kernel
theorem dX8_count_69 : decode cX8_count 69 = .ok (.aload_n 0, 1) := by decide +kernel
theorem dX8_count_70 : decode cX8_count 70 = .ok (.getfield 35, 3) := by decide +kernel
theorem dX8_count_73 : decode cX8_count 73 = .ok (.getfield 319, 3) := by decide +kernel
theorem dX8_count_76 : decode cX8_count 76 = .ok (.ireturn, 1) := by decide +kernel
theorem dX8_count_77 : decode cX8_count 77 = .ok (.aload_n 0, 1) := by decide +kernel
theorem dX8_count_78 : decode cX8_count 78 = .ok (.getfield 28, 3) := by decide +kernel
theorem dX8_count_81 : decode cX8_count 81 = .ok (.getfield 127, 3) := by decide +kernel
theorem dX8_count_84 : decode cX8_count 84 = .ok (.ireturn, 1) := by decide +kernel
theorem dX8_count_85 : decode cX8_count 85 = .ok (.bipush (-2), 2) := by decide +kernel
theorem dX8_count_87 : decode cX8_count 87 = .ok (.ireturn, 1) := by decide +kernel
theorem dX8_tape_0 : decode cX8_tape 0 = .ok (.iload_n 1, 1) := by decide +kernel
theorem dX8_tape_1 : decode cX8_tape 1 = .ok (.invokestatic 305, 3) := by decide +kernel
theorem dX8_tape_4 : decode cX8_tape 4 = .ok (.ifCond .ne 5, 3) := by decide +kernel
theorem dX8_tape_7 : decode cX8_tape 7 = .ok (.iconst (-1), 1) := by decide +kernel
theorem dX8_tape_8 : decode cX8_tape 8 = .ok (.ireturn, 1) := by decide +kernel
theorem dX8_tape_9 : decode cX8_tape 9 = .ok (.iload_n 2, 1) := by decide +kernel
theorem dX8_tape_10 : decode cX8_tape 10 = .ok (.iconst (-1), 1) := by decide +kernel
theorem dX8_tape_11 : decode cX8_tape 11 = .ok (.if_icmp .ne 16, 3) := by decide +kernel
theorem dX8_tape_14 : decode cX8_tape 14 = .ok (.aload_n 0, 1) := by decide +kernel
theorem dX8_tape_15 : decode cX8_tape 15 = .ok (.getfield 62, 3) := by decide +kernel
theorem dX8_tape_18 : decode cX8_tape 18 = .ok (.iload_n 1, 1) := by decide +kernel
theorem dX8_tape_19 : decode cX8_tape 19 = .ok (.aaload, 1) := by decide +kernel
theorem dX8_tape_20 : decode cX8_tape 20 = .ok (.iconst (-1), 1) := by decide +kernel
theorem dX8_tape_21 : decode cX8_tape 21 = .ok (.iconst 0, 1) := by decide +kernel
theorem dX8_tape_22 : decode cX8_tape 22 = .ok (.invokevirtual 320, 3) := by decide +kernel
theorem dX8_tape_25 : decode cX8_tape 25 = .ok (.iconst 1, 1) := by decide +kernel
theorem dX8_tape_26 : decode cX8_tape 26 = .ok (.ireturn, 1) := by decide +kernel
theorem dX8_tape_27 : decode cX8_tape 27 = .ok (.iload_n 2, 1) := by decide +kernel
theorem dX8_tape_28 : decode cX8_tape 28 = .ok (.ifCond .lt 14, 3) := by decide +kernel
theorem dX8_tape_31 : decode cX8_tape 31 = .ok (.iload_n 2, 1) := by decide +kernel
theorem dX8_tape_32 : decode cX8_tape 32 = .ok (.iconst 4, 1) := by decide +kernel
theorem dX8_tape_33 : decode cX8_tape 33 = .ok (.if_icmp .gt 9, 3) := by decide +kernel
theorem dX8_tape_36 : decode cX8_tape 36 = .ok (.iload_n 3, 1) := by decide +kernel
theorem dX8_tape_37 : decode cX8_tape 37 = .ok (.bipush 60, 2) := by decide +kernel
theorem dX8_tape_39 : decode cX8_tape 39 = .ok (.if_icmp .le 6, 3) := by decide +kernel
theorem dX8_tape_42 : decode cX8_tape 42 = .ok (.bipush (-2), 2) := by decide +kernel
theorem dX8_tape_44 : decode cX8_tape 44 = .ok (.ireturn, 1) := by decide +kernel
theorem dX8_tape_45 : decode cX8_tape 45 = .ok (.iload_n 3, 1) := by decide +kernel
theorem dX8_tape_46 : decode cX8_tape 46 = .ok (.ifCond .ge 6, 3) := by decide +kernel
theorem dX8_tape_49 : decode cX8_tape 49 = .ok (.bipush (-14), 2) := by decide +kernel
theorem dX8_tape_51 : decode cX8_tape 51 = .ok (.ireturn, 1) := by decide +kernel
theorem dX8_tape_52 : decode cX8_tape 52 = .ok (.aload_n 0, 1) := by decide +kernel
theorem dX8_tape_53 : decode cX8_tape 53 = .ok (.getfield 62, 3) := by decide +kernel
theorem dX8_tape_56 : decode cX8_tape 56 = .ok (.iload_n 1, 1) := by decide +kernel
theorem dX8_tape_57 : decode cX8_tape 57 = .ok (.aaload, 1) := by decide +kernel
theorem dX8_tape_58 : decode cX8_tape 58 = .ok (.iload_n 2, 1) := by decide +kernel
theorem dX8_tape_59 : decode cX8_tape 59 = .ok (.iload_n 3, 1) := by decide +kernel
theorem dX8_tape_60 : decode cX8_tape 60 = .ok (.invokevirtual 320, 3) := by decide +kernel
theorem dX8_tape_63 : decode cX8_tape 63 = .ok (.iconst 1, 1) := by decide +kernel
theorem dX8_tape_64 : decode cX8_tape 64 = .ok (.ireturn, 1) := by decide +kernel
theorem dX8_item_0 : decode cX8_item 0 = .ok (.iload_n 1, 1) := by decide +kernel
theorem dX8_item_1 : decode cX8_item 1 = .ok (.invokestatic 305, 3) := by decide +kernel
theorem dX8_item_4 : decode cX8_item 4 = .ok (.ifCond .ne 5, 3) := by decide +kernel
theorem dX8_item_7 : decode cX8_item 7 = .ok (.iconst (-1), 1) := by decide +kernel
theorem dX8_item_8 : decode cX8_item 8 = .ok (.ireturn, 1) := by decide +kernel
theorem dX8_item_9 : decode cX8_item 9 = .ok (.aload_n 0, 1) := by decide +kernel
theorem dX8_item_10 : decode cX8_item 10 = .ok (.getfield 62, 3) := by decide +kernel
theorem dX8_item_13 : decode cX8_item 13 = .ok (.iload_n 1, 1) := by decide +kernel
theorem dX8_item_14 : decode cX8_item 14 = .ok (.aaload, 1) := by decide +kernel
theorem dX8_item_15 : decode cX8_item 15 = .ok (.getfield 308, 3) := by decide +kernel
theorem dX8_item_18 : decode cX8_item 18 = .ok (.iconst (-1), 1) := by decide +kernel
theorem dX8_item_19 : decode cX8_item 19 = .ok (.if_icmp .ne 6, 3) := by decide +kernel
theorem dX8_item_22 : decode cX8_item 22 = .ok (.bipush (-11), 2) := by decide +kernel
theorem dX8_item_24 : decode cX8_item 24 = .ok (.ireturn, 1) := by decide +kernel
theorem dX8_item_25 : decode cX8_item 25 = .ok (.aload_n 0, 1) := by decide +kernel
theorem dX8_item_26 : decode cX8_item 26 = .ok (.getfield 62, 3) := by decide +kernel
theorem dX8_item_29 : decode cX8_item 29 = .ok (.iload_n 1, 1) := by decide +kernel
theorem dX8_item_30 : decode cX8_item 30 = .ok (.aaload, 1) := by decide +kernel
theorem dX8_item_31 : decode cX8_item 31 = .ok (.iload_n 2, 1) := by decide +kernel
theorem dX8_item_32 : decode cX8_item 32 = .ok (.invokevirtual 323, 3) := by decide +kernel
theorem dX8_item_35 : decode cX8_item 35 = .ok (.ifCond .ne 6, 3) := by decide +kernel
theorem dX8_item_38 : decode cX8_item 38 = .ok (.bipush (-13), 2) := by decide +kernel
theorem dX8_item_40 : decode cX8_item 40 = .ok (.ireturn, 1) := by decide +kernel
theorem dX8_item_41 : decode cX8_item 41 = .ok (.aload_n 0, 1) := by decide +kernel
theorem dX8_item_42 : decode cX8_item 42 = .ok (.getfield 62, 3) := by decide +kernel
theorem dX8_item_45 : decode cX8_item 45 = .ok (.iload_n 1, 1) := by decide +kernel
theorem dX8_item_46 : decode cX8_item 46 = .ok (.aaload, 1) := by decide +kernel
theorem dX8_item_47 : decode cX8_item 47 = .ok (.iload_n 2, 1) := by decide +kernel
theorem dX8_item_48 : decode cX8_item 48 = .ok (.lload_n 3, 1) := by decide +kernel
theorem dX8_item_49 : decode cX8_item 49 = .ok (.invokevirtual 326, 3) := by decide +kernel
theorem dX8_item_52 : decode cX8_item 52 = .ok (.iconst 1, 1) := by decide +kernel
theorem dX8_item_53 : decode cX8_item 53 = .ok (.ireturn, 1) := by decide +kernel
theorem dX8_peek_0 : decode cX8_peek 0 = .ok (.iload_n 1, 1) := by decide +kernel
theorem dX8_peek_1 : decode cX8_peek 1 = .ok (.invokestatic 305, 3) := by decide +kernel
theorem dX8_peek_4 : decode cX8_peek 4 = .ok (.ifCond .eq 16, 3) := by decide +kernel
theorem dX8_peek_7 : decode cX8_peek 7 = .ok (.aload_n 0, 1) := by decide +kernel
theorem dX8_peek_8 : decode cX8_peek 8 = .ok (.getfield 62, 3) := by decide +kernel
theorem dX8_peek_11 : decode cX8_peek 11 = .ok (.iload_n 1, 1) := by decide +kernel
theorem dX8_peek_12 : decode cX8_peek 12 = .ok (.aaload, 1) := by decide +kernel
theorem dX8_peek_13 : decode cX8_peek 13 = .ok (.iload_n 2, 1) := by decide +kernel
theorem dX8_peek_14 : decode cX8_peek 14 = .ok (.invokevirtual 323, 3) := by decide +kernel
theorem dX8_peek_17 : decode cX8_peek 17 = .ok (.ifCond .ne 7, 3) := by decide +kernel
theorem dX8_peek_20 : decode cX8_peek 20 = .ok (.ldc2_w 291, 3) := by decide +kernel
theorem dX8_peek_23 : decode cX8_peek 23 = .ok (.lreturn, 1) := by decide +kernel
theorem dX8_peek_24 : decode cX8_peek 24 = .ok (.aload_n 0, 1) := by decide +kernel
theorem dX8_peek_25 : decode cX8_peek 25 = .ok (.getfield 62, 3) := by decide +kernel
theorem dX8_peek_28 : decode cX8_peek 28 = .ok (.iload_n 1, 1) := by decide +kernel
theorem dX8_peek_29 : decode cX8_peek 29 = .ok (.aaload, 1) := by decide +kernel
theorem dX8_peek_30 : decode cX8_peek 30 = .ok (.getfield 312, 3) := by decide +kernel
theorem dX8_peek_33 : decode cX8_peek 33 = .ok (.iload_n 2, 1) := by decide +kernel
theorem dX8_peek_34 : decode cX8_peek 34 = .ok (.laload, 1) := by decide +kernel
theorem dX8_peek_35 : decode cX8_peek 35 = .ok (.lreturn, 1) := by decide +kernel
theorem dX8_shift_0 : decode cX8_shift 0 = .ok (.iload_n 1, 1) := by decide +kernel
theorem dX8_shift_1 : decode cX8_shift 1 = .ok (.invokestatic 305, 3) := by decide +kernel
theorem dX8_shift_4 : decode cX8_shift 4 = .ok (.ifCond .eq 10, 3) := by decide +kernel
theorem dX8_shift_7 : decode cX8_shift 7 = .ok (.iload_n 3, 1) := by decide +kernel
theorem dX8_shift_8 : decode cX8_shift 8 = .ok (.invokestatic 305, 3) := by decide +kernel
theorem dX8_shift_11 : decode cX8_shift 11 = .ok (.ifCond .ne 5, 3) := by decide +kernel
theorem dX8_shift_14 : decode cX8_shift 14 = .ok (.iconst (-1), 1) := by decide +kernel
theorem dX8_shift_15 : decode cX8_shift 15 = .ok (.ireturn, 1) := by decide +kernel
theorem dX8_shift_16 : decode cX8_shift 16 = .ok (.aload_n 0, 1) := by decide +kernel
theorem dX8_shift_17 : decode cX8_shift 17 = .ok (.getfield 62, 3) := by decide +kernel
theorem dX8_shift_20 : decode cX8_shift 20 = .ok (.iload_n 1, 1) := by decide +kernel
theorem dX8_shift_21 : decode cX8_shift 21 = .ok (.aaload, 1) := by decide +kernel
theorem dX8_shift_22 : decode cX8_shift 22 = .ok (.astore 6, 2) := by decide +kernel
theorem dX8_shift_24 : decode cX8_shift 24 = .ok (.aload_n 0, 1) := by decide +kernel
theorem dX8_shift_25 : decode cX8_shift 25 = .ok (.getfield 62, 3) := by decide +kernel
theorem dX8_shift_28 : decode cX8_shift 28 = .ok (.iload_n 3, 1) := by decide +kernel
theorem dX8_shift_29 : decode cX8_shift 29 = .ok (.aaload, 1) := by decide +kernel
theorem dX8_shift_30 : decode cX8_shift 30 = .ok (.astore 7, 2) := by decide +kernel
theorem dX8_shift_32 : decode cX8_shift 32 = .ok (.aload 6, 2) := by decide +kernel
theorem dX8_shift_34 : decode cX8_shift 34 = .ok (.getfield 308, 3) := by decide +kernel
theorem dX8_shift_37 : decode cX8_shift 37 = .ok (.iconst (-1), 1) := by decide +kernel
theorem dX8_shift_38 : decode cX8_shift 38 = .ok (.if_icmp .eq 12, 3) := by decide +kernel
theorem dX8_shift_41 : decode cX8_shift 41 = .ok (.aload 7, 2) := by decide +kernel
theorem dX8_shift_43 : decode cX8_shift 43 = .ok (.getfield 308, 3) := by decide +kernel
theorem dX8_shift_46 : decode cX8_shift 46 = .ok (.iconst (-1), 1) := by decide +kernel
theorem dX8_shift_47 : decode cX8_shift 47 = .ok (.if_icmp .ne 6, 3) := by decide +kernel
theorem dX8_shift_50 : decode cX8_shift 50 = .ok (.bipush (-11), 2) := by decide +kernel
theorem dX8_shift_52 : decode cX8_shift 52 = .ok (.ireturn, 1) := by decide +kernel
theorem dX8_shift_53 : decode cX8_shift 53 = .ok (.aload 6, 2) := by decide +kernel
theorem dX8_shift_55 : decode cX8_shift 55 = .ok (.getfield 308, 3) := by decide +kernel
theorem dX8_shift_58 : decode cX8_shift 58 = .ok (.aload 7, 2) := by decide +kernel
theorem dX8_shift_60 : decode cX8_shift 60 = .ok (.getfield 308, 3) := by decide +kernel
theorem dX8_shift_63 : decode cX8_shift 63 = .ok (.if_icmp .eq 6, 3) := by decide +kernel
theorem dX8_shift_66 : decode cX8_shift 66 = .ok (.bipush (-12), 2) := by decide +kernel
theorem dX8_shift_68 : decode cX8_shift 68 = .ok (.ireturn, 1) := by decide +kernel
theorem dX8_shift_69 : decode cX8_shift 69 = .ok (.aload 6, 2) := by decide +kernel
theorem dX8_shift_71 : decode cX8_shift 71 = .ok (.iload_n 2, 1) := by decide +kernel
theorem dX8_shift_72 : decode cX8_shift 72 = .ok (.iload 5, 2) := by decide +kernel
theorem dX8_shift_74 : decode cX8_shift 74 = .ok (.invokevirtual 330, 3) := by decide +kernel
theorem dX8_shift_77 : decode cX8_shift 77 = .ok (.ifCond .eq 15, 3) := by decide +kernel
theorem dX8_shift_80 : decode cX8_shift 80 = .ok (.aload 7, 2) := by decide +kernel
theorem dX8_shift_82 : decode cX8_shift 82 = .ok (.iload 4, 2) := by decide +kernel
theorem dX8_shift_84 : decode cX8_shift 84 = .ok (.iload 5, 2) := by decide +kernel
theorem dX8_shift_86 : decode cX8_shift 86 = .ok (.invokevirtual 330, 3) := by decide +kernel
theorem dX8_shift_89 : decode cX8_shift 89 = .ok (.ifCond .ne 6, 3) := by decide +kernel
theorem dX8_shift_92 : decode cX8_shift 92 = .ok (.bipush (-13), 2) := by decide +kernel
theorem dX8_shift_94 : decode cX8_shift 94 = .ok (.ireturn, 1) := by decide +kernel
theorem dX8_shift_95 : decode cX8_shift 95 = .ok (.aload 6, 2) := by decide +kernel
theorem dX8_shift_97 : decode cX8_shift 97 = .ok (.getfield 312, 3) := by decide +kernel
theorem dX8_shift_100 : decode cX8_shift 100 = .ok (.iload_n 2, 1) := by decide +kernel
theorem dX8_shift_101 : decode cX8_shift 101 = .ok (.aload 7, 2) := by decide +kernel
theorem dX8_shift_103 : decode cX8_shift 103 = .ok (.getfield 312, 3) := by decide +kernel
theorem dX8_shift_106 : decode cX8_shift 106 = .ok (.iload 4, 2) := by decide +kernel
theorem dX8_shift_108 : decode cX8_shift 108 = .ok (.iload 5, 2) := by decide +kernel
theorem dX8_shift_110 : decode cX8_shift 110 = .ok (.invokestatic 333, 3) := by decide +kernel
theorem dX8_shift_113 : decode cX8_shift 113 = .ok (.iload 5, 2) := by decide +kernel
theorem dX8_shift_115 : decode cX8_shift 115 = .ok (.ireturn, 1) := by decide +kernel
theorem dX8_isTape_0 : decode cX8_isTape 0 = .ok (.iload_n 0, 1) := by decide +kernel
theorem dX8_isTape_1 : decode cX8_isTape 1 = .ok (.ifCond .lt 13, 3) := by decide +kernel
theorem dX8_isTape_4 : decode cX8_isTape 4 = .ok (.iload_n 0, 1) := by decide +kernel
theorem dX8_isTape_5 : decode cX8_isTape 5 = .ok (.bipush 6, 2) := by decide +kernel
theorem dX8_isTape_7 : decode cX8_isTape 7 = .ok (.if_icmp .ge 7, 3) := by decide +kernel
theorem dX8_isTape_10 : decode cX8_isTape 10 = .ok (.iconst 1, 1) := by decide +kernel
theorem dX8_isTape_11 : decode cX8_isTape 11 = .ok (.goto 4, 3) := by decide +kernel
theorem dX8_isTape_14 : decode cX8_isTape 14 = .ok (.iconst 0, 1) := by decide +kernel
theorem dX8_isTape_15 : decode cX8_isTape 15 = .ok (.ireturn, 1) := by decide +kernel
theorem dX8_isKind_0 : decode cX8_isKind 0 = .ok (.iload_n 0, 1) := by decide +kernel
theorem dX8_isKind_1 : decode cX8_isKind 1 = .ok (.ifCond .eq 8, 3) := by decide +kernel
theorem dX8_isKind_4 : decode cX8_isKind 4 = .ok (.iload_n 0, 1) := by decide +kernel
theorem dX8_isKind_5 : decode cX8_isKind 5 = .ok (.iconst 1, 1) := by decide +kernel
theorem dX8_isKind_6 : decode cX8_isKind 6 = .ok (.if_icmp .ne 7, 3) := by decide +kernel
theorem dX8_isKind_9 : decode cX8_isKind 9 = .ok (.iconst 1, 1) := by decide +kernel
theorem dX8_isKind_10 : decode cX8_isKind 10 = .ok (.goto 4, 3) := by decide +kernel
theorem dX8_isKind_13 : decode cX8_isKind 13 = .ok (.iconst 0, 1) := by decide +kernel
theorem dX8_isKind_14 : decode cX8_isKind 14 = .ok (.ireturn, 1) := by decide +kernel
theorem dX8_isLength_0 : decode cX8_isLength 0 = .ok (.iload_n 0, 1) := by decide +kernel
theorem dX8_isLength_1 : decode cX8_isLength 1 = .ok (.iconst 1, 1) := by decide +kernel
theorem dX8_isLength_2 : decode cX8_isLength 2 = .ok (.if_icmp .lt 13, 3) := by decide +kernel
theorem dX8_isLength_5 : decode cX8_isLength 5 = .ok (.iload_n 0, 1) := by decide +kernel
theorem dX8_isLength_6 : decode cX8_isLength 6 = .ok (.bipush 99, 2) := by decide +kernel
theorem dX8_isLength_8 : decode cX8_isLength 8 = .ok (.if_icmp .gt 7, 3) := by decide +kernel
theorem dX8_isLength_11 : decode cX8_isLength 11 = .ok (.iconst 1, 1) := by decide +kernel
theorem dX8_isLength_12 : decode cX8_isLength 12 = .ok (.goto 4, 3) := by decide +kernel
theorem dX8_isLength_15 : decode cX8_isLength 15 = .ok (.iconst 0, 1) := by decide +kernel
theorem dX8_isLength_16 : decode cX8_isLength 16 = .ok (.ireturn, 1) := by decide +kernel
theorem dX9_init_0 : decode cX9_init 0 = .ok (.aload_n 0, 1) := by decide +kernel
theorem dX9_init_1 : decode cX9_init 1 = .ok (.invokespecial 5, 3) := by decide +kernel
theorem dX9_init_4 : decode cX9_init 4 = .ok (.aload_n 0, 1) := by decide +kernel
theorem dX9_init_5 : decode cX9_init 5 = .ok (.bipush 60, 2) := by decide +kernel
theorem dX9_init_7 : decode cX9_init 7 = .ok (.newarray .int, 2) := by decide +kernel
theorem dX9_init_9 : decode cX9_init 9 = .ok (.putfield 11, 3) := by decide +kernel
theorem dX9_init_12 : decode cX9_init 12 = .ok (.aload_n 0, 1) := by decide +kernel
theorem dX9_init_13 : decode cX9_init 13 = .ok (.bipush 60, 2) := by decide +kernel
theorem dX9_init_15 : decode cX9_init 15 = .ok (.newarray .int, 2) := by decide +kernel
theorem dX9_init_17 : decode cX9_init 17 = .ok (.putfield 15, 3) := by decide +kernel
theorem dX9_init_20 : decode cX9_init 20 = .ok (.aload_n 0, 1) := by decide +kernel
theorem dX9_init_21 : decode cX9_init 21 = .ok (.sipush 180, 3) := by decide +kernel
theorem dX9_init_24 : decode cX9_init 24 = .ok (.newarray .int, 2) := by decide +kernel
theorem dX9_init_26 : decode cX9_init 26 = .ok (.putfield 18, 3) := by decide +kernel
theorem dX9_init_29 : decode cX9_init 29 = .ok (.aload_n 0, 1) := by decide +kernel
theorem dX9_init_30 : decode cX9_init 30 = .ok (.iconst 5, 1) := by decide +kernel
theorem dX9_init_31 : decode cX9_init 31 = .ok (.newarray .int, 2) := by decide +kernel
theorem dX9_init_33 : decode cX9_init 33 = .ok (.putfield 21, 3) := by decide +kernel
theorem dX9_init_36 : decode cX9_init 36 = .ok (.aload_n 0, 1) := by decide +kernel
theorem dX9_init_37 : decode cX9_init 37 = .ok (.bipush 100, 2) := by decide +kernel
theorem dX9_init_39 : decode cX9_init 39 = .ok (.newarray .int, 2) := by decide +kernel
theorem dX9_init_41 : decode cX9_init 41 = .ok (.putfield 24, 3) := by decide +kernel
theorem dX9_init_44 : decode cX9_init 44 = .ok (.aload_n 0, 1) := by decide +kernel
theorem dX9_init_45 : decode cX9_init 45 = .ok (.iconst 2, 1) := by decide +kernel
theorem dX9_init_46 : decode cX9_init 46 = .ok (.newarray .int, 2) := by decide +kernel
theorem dX9_init_48 : decode cX9_init 48 = .ok (.putfield 27, 3) := by decide +kernel
theorem dX9_init_51 : decode cX9_init 51 = .ok (.aload_n 0, 1) := by decide +kernel
theorem dX9_init_52 : decode cX9_init 52 = .ok (.sipush 500, 3) := by decide +kernel
theorem dX9_init_55 : decode cX9_init 55 = .ok (.newarray .int, 2) := by decide +kernel
theorem dX9_init_57 : decode cX9_init 57 = .ok (.putfield 30, 3) := by decide +kernel
theorem dX9_init_60 : decode cX9_init 60 = .ok (.aload_n 0, 1) := by decide +kernel
theorem dX9_init_61 : decode cX9_init 61 = .ok (.sipush 500, 3) := by decide +kernel
theorem dX9_init_64 : decode cX9_init 64 = .ok (.newarray .int, 2) := by decide +kernel
theorem dX9_init_66 : decode cX9_init 66 = .ok (.putfield 33, 3) := by decide +kernel
theorem dX9_init_69 : decode cX9_init 69 = .ok (.aload_n 0, 1) := by decide +kernel
theorem dX9_init_70 : decode cX9_init 70 = .ok (.iconst 5, 1) := by decide +kernel
theorem dX9_init_71 : decode cX9_init 71 = .ok (.newarray .int, 2) := by decide +kernel
theorem dX9_init_73 : decode cX9_init 73 = .ok (.putfield 36, 3) := by decide +kernel
theorem dX9_init_76 : decode cX9_init 76 = .ok (.aload_n 0, 1) := by decide +kernel
theorem dX9_init_77 : decode cX9_init 77 = .ok (.sipush 500, 3) := by decide +kernel
theorem dX9_init_80 : decode cX9_init 80 = .ok (.newarray .boolean, 2) := by decide +kernel
theorem dX9_init_82 : decode cX9_init 82 = .ok (.putfield 39, 3) := by decide +kernel
theorem dX9_init_85 : decode cX9_init 85 = .ok (.aload_n 0, 1) := by decide +kernel
theorem dX9_init_86 : decode cX9_init 86 = .ok (.bipush 60, 2) := by decide +kernel
theorem dX9_init_88 : decode cX9_init 88 = .ok (.newarray .int, 2) := by decide +kernel
theorem dX9_init_90 : decode cX9_init 90 = .ok (.putfield 43, 3) := by decide +kernel
theorem dX9_init_93 : decode cX9_init 93 = .ok (.aload_n 0, 1) := by decide +kernel
theorem dX9_init_94 : decode cX9_init 94 = .ok (.bipush 120, 2) := by decide +kernel
theorem dX9_init_96 : decode cX9_init 96 = .ok (.newarray .int, 2) := by decide +kernel
theorem dX9_init_98 : decode cX9_init 98 = .ok (.putfield 46, 3) := by decide +kernel
theorem dX9_init_101 : decode cX9_init 101 = .ok (.aload_n 0, 1) := by decide +kernel
theorem dX9_init_102 : decode cX9_init 102 = .ok (.bipush 120, 2) := by decide +kernel
theorem dX9_init_104 : decode cX9_init 104 = .ok (.newarray .int, 2) := by decide +kernel
theorem dX9_init_106 : decode cX9_init 106 = .ok (.putfield 49, 3) := by decide +kernel
theorem dX9_init_109 : decode cX9_init 109 = .ok (.aload_n 0, 1) := by decide +kernel
theorem dX9_init_110 : decode cX9_init 110 = .ok (.bipush 6, 2) := by decide +kernel
theorem dX9_init_112 : decode cX9_init 112 = .ok (.newarray .int, 2) := by decide +kernel
theorem dX9_init_114 : decode cX9_init 114 = .ok (.putfield 52, 3) := by decide +kernel
theorem dX9_init_117 : decode cX9_init 117 = .ok (.aload_n 0, 1) := by decide +kernel
theorem dX9_init_118 : decode cX9_init 118 = .ok (.bipush 6, 2) := by decide +kernel
theorem dX9_init_120 : decode cX9_init 120 = .ok (.newarray .int, 2) := by decide +kernel
theorem dX9_init_122 : decode cX9_init 122 = .ok (.putfield 55, 3) := by decide +kernel
theorem dX9_init_125 : decode cX9_init 125 = .ok (.aload_n 0, 1) := by decide +kernel
theorem dX9_init_126 : decode cX9_init 126 = .ok (.sipush 360, 3) := by decide +kernel
theorem dX9_init_129 : decode cX9_init 129 = .ok (.newarray .long, 2) := by decide +kernel
theorem dX9_init_131 : decode cX9_init 131 = .ok (.putfield 58, 3) := by decide +kernel
theorem dX9_init_134 : decode cX9_init 134 = .ok (.aload_n 0, 1) := by decide +kernel
theorem dX9_init_135 : decode cX9_init 135 = .ok (.iconst 3, 1) := by decide +kernel
theorem dX9_init_136 : decode cX9_init 136 = .ok (.invokevirtual 62, 3) := by decide +kernel
theorem dX9_init_139 : decode cX9_init 139 = .ok (.iconst 0, 1) := by decide +kernel
theorem dX9_init_140 : decode cX9_init 140 = .ok (.istore_n 1, 1) := by decide +kernel
theorem dX9_init_141 : decode cX9_init 141 = .ok (.iload_n 1, 1) := by decide +kernel
theorem dX9_init_142 : decode cX9_init 142 = .ok (.bipush 6, 2) := by decide +kernel
theorem dX9_init_144 : decode cX9_init 144 = .ok (.if_icmp .ge 16, 3) := by decide +kernel
theorem dX9_init_147 : decode cX9_init 147 = .ok (.aload_n 0, 1) := by decide +kernel
theorem dX9_init_148 : decode cX9_init 148 = .ok (.getfield 52, 3) := by decide +kernel
theorem dX9_init_151 : decode cX9_init 151 = .ok (.iload_n 1, 1) := by decide +kernel
theorem dX9_init_152 : decode cX9_init 152 = .ok (.iconst (-1), 1) := by decide +kernel
theorem dX9_init_153 : decode cX9_init 153 = .ok (.iastore, 1) := by decide +kernel
theorem dX9_init_154 : decode cX9_init 154 = .ok (.iinc 1 1, 3) := by decide +kernel
theorem dX9_init_157 : decode cX9_init 157 = .ok (.goto (-16), 3) := by decide +kernel
theorem dX9_init_160 : decode cX9_init 160 = .ok (.return_, 1) := by decide +kernel
theorem dX9_in_0 : decode cX9_in 0 = .ok (.lload_n 0, 1) := by decide +kernel
theorem dX9_in_1 : decode cX9_in 1 = .ok (.lload_n 2, 1) := by decide +kernel
theorem dX9_in_2 : decode cX9_in 2 = .ok (.lcmp, 1) := by decide +kernel
theorem dX9_in_3 : decode cX9_in 3 = .ok (.ifCond .lt 14, 3) := by decide +kernel
theorem dX9_in_6 : decode cX9_in 6 = .ok (.lload_n 0, 1) := by decide +kernel
theorem dX9_in_7 : decode cX9_in 7 = .ok (.lload 4, 2) := by decide +kernel
theorem dX9_in_9 : decode cX9_in 9 = .ok (.lcmp, 1) := by decide +kernel
theorem dX9_in_10 : decode cX9_in 10 = .ok (.ifCond .gt 7, 3) := by decide +kernel
theorem dX9_in_13 : decode cX9_in 13 = .ok (.iconst 1, 1) := by decide +kernel
theorem dX9_in_14 : decode cX9_in 14 = .ok (.goto 4, 3) := by decide +kernel
theorem dX9_in_17 : decode cX9_in 17 = .ok (.iconst 0, 1) := by decide +kernel
theorem dX9_in_18 : decode cX9_in 18 = .ok (.ireturn, 1) := by decide +kernel
theorem dX9_bit_0 : decode cX9_bit 0 = .ok (.iload_n 0, 1) := by decide +kernel
theorem dX9_bit_1 : decode cX9_bit 1 = .ok (.ifCond .eq 7, 3) := by decide +kernel
theorem dX9_bit_4 : decode cX9_bit 4 = .ok (.iconst 1, 1) := by decide +kernel
theorem dX9_bit_5 : decode cX9_bit 5 = .ok (.goto 4, 3) := by decide +kernel
theorem dX9_bit_8 : decode cX9_bit 8 = .ok (.iconst 0, 1) := by decide +kernel
theorem dX9_bit_9 : decode cX9_bit 9 = .ok (.ireturn, 1) := by decide +kernel
theorem dX9_isLetter_0 : decode cX9_isLetter 0 = .ok (.iload_n 1, 1) := by decide +kernel
theorem dX9_isLetter_1 : decode cX9_isLetter 1 = .ok (.i2l, 1) := by decide +kernel
theorem dX9_isLetter_2 : decode cX9_isLetter 2 = .ok (.lconst 0, 1) := by decide +kernel
theorem dX9_isLetter_3 : decode cX9_isLetter 3 = .ok (.aload_n 0, 1) := by decide +kernel
theorem dX9_isLetter_4 : decode cX9_isLetter 4 = .ok (.getfield 11, 3) := by decide +kernel
theorem dX9_isLetter_7 : decode cX9_isLetter 7 = .ok (.iconst 0, 1) := by decide +kernel
theorem dX9_isLetter_8 : decode cX9_isLetter 8 = .ok (.iaload, 1) := by decide +kernel
theorem dX9_isLetter_9 : decode cX9_isLetter 9 = .ok (.iconst 1, 1) := by decide +kernel
theorem dX9_isLetter_10 : decode cX9_isLetter 10 = .ok (.isub, 1) := by decide +kernel
theorem dX9_isLetter_11 : decode cX9_isLetter 11 = .ok (.i2l, 1) := by decide +kernel
theorem dX9_isLetter_12 : decode cX9_isLetter 12 = .ok (.invokestatic 66, 3) := by decide +kernel
theorem dX9_isLetter_15 : decode cX9_isLetter 15 = .ok (.ireturn, 1) := by decide +kernel
theorem dX9_begins_0 : decode cX9_begins 0 = .ok (.aload_n 0, 1) := by decide +kernel
theorem dX9_begins_1 : decode cX9_begins 1 = .ok (.getfield 11, 3) := by decide +kernel
theorem dX9_begins_4 : decode cX9_begins 4 = .ok (.iconst 0, 1) := by decide +kernel
theorem dX9_begins_5 : decode cX9_begins 5 = .ok (.iload_n 1, 1) := by decide +kernel
theorem dX9_begins_6 : decode cX9_begins 6 = .ok (.iastore, 1) := by decide +kernel
theorem dX9_begins_7 : decode cX9_begins 7 = .ok (.aload_n 0, 1) := by decide +kernel
theorem dX9_begins_8 : decode cX9_begins 8 = .ok (.getfield 11, 3) := by decide +kernel
theorem dX9_begins_11 : decode cX9_begins 11 = .ok (.iconst 1, 1) := by decide +kernel
theorem dX9_begins_12 : decode cX9_begins 12 = .ok (.iconst 0, 1) := by decide +kernel
theorem dX9_begins_13 : decode cX9_begins 13 = .ok (.iastore, 1) := by decide +kernel
theorem dX9_begins_14 : decode cX9_begins 14 = .ok (.iconst 0, 1) := by decide +kernel
theorem dX9_begins_15 : decode cX9_begins 15 = .ok (.istore_n 2, 1) := by decide +kernel
theorem dX9_begins_16 : decode cX9_begins 16 = .ok (.iload_n 2, 1) := by decide +kernel
theorem dX9_begins_17 : decode cX9_begins 17 = .ok (.iload_n 1, 1) := by decide +kernel
theorem dX9_begins_18 : decode cX9_begins 18 = .ok (.if_icmp .ge 61, 3) := by decide +kernel
theorem dX9_begins_21 : decode cX9_begins 21 = .ok (.aload_n 0, 1) := by decide +kernel
theorem dX9_begins_22 : decode cX9_begins 22 = .ok (.getfield 11, 3) := by decide +kernel
theorem dX9_begins_25 : decode cX9_begins 25 = .ok (.iconst 2, 1) := by decide +kernel
theorem dX9_begins_26 : decode cX9_begins 26 = .ok (.iload_n 2, 1) := by decide +kernel
theorem dX9_begins_27 : decode cX9_begins 27 = .ok (.iadd, 1) := by decide +kernel
theorem dX9_begins_28 : decode cX9_begins 28 = .ok (.iload_n 2, 1) := by decide +kernel
theorem dX9_begins_29 : decode cX9_begins 29 = .ok (.iastore, 1) := by decide +kernel
theorem dX9_begins_30 : decode cX9_begins 30 = .ok (.aload_n 0, 1) := by decide +kernel
theorem dX9_begins_31 : decode cX9_begins 31 = .ok (.getfield 11, 3) := by decide +kernel
theorem dX9_begins_34 : decode cX9_begins 34 = .ok (.bipush 7, 2) := by decide +kernel
theorem dX9_begins_36 : decode cX9_begins 36 = .ok (.iload_n 2, 1) := by decide +kernel
theorem dX9_begins_37 : decode cX9_begins 37 = .ok (.iadd, 1) := by decide +kernel
theorem dX9_begins_38 : decode cX9_begins 38 = .ok (.iload_n 1, 1) := by decide +kernel
theorem dX9_begins_39 : decode cX9_begins 39 = .ok (.iconst 1, 1) := by decide +kernel
theorem dX9_begins_40 : decode cX9_begins 40 = .ok (.isub, 1) := by decide +kernel
theorem dX9_begins_41 : decode cX9_begins 41 = .ok (.iload_n 2, 1) := by decide +kernel
theorem dX9_begins_42 : decode cX9_begins 42 = .ok (.isub, 1) := by decide +kernel
theorem dX9_begins_43 : decode cX9_begins 43 = .ok (.iastore, 1) := by decide +kernel
theorem dX9_begins_44 : decode cX9_begins 44 = .ok (.aload_n 0, 1) := by decide +kernel
theorem dX9_begins_45 : decode cX9_begins 45 = .ok (.getfield 11, 3) := by decide +kernel
theorem dX9_begins_48 : decode cX9_begins 48 = .ok (.bipush 12, 2) := by decide +kernel
theorem dX9_begins_50 : decode cX9_begins 50 = .ok (.iload_n 2, 1) := by decide +kernel
theorem dX9_begins_51 : decode cX9_begins 51 = .ok (.iadd, 1) := by decide +kernel
theorem dX9_begins_52 : decode cX9_begins 52 = .ok (.iconst 1, 1) := by decide +kernel
theorem dX9_begins_53 : decode cX9_begins 53 = .ok (.iastore, 1) := by decide +kernel
theorem dX9_begins_54 : decode cX9_begins 54 = .ok (.aload_n 0, 1) := by decide +kernel
theorem dX9_begins_55 : decode cX9_begins 55 = .ok (.getfield 11, 3) := by decide +kernel
theorem dX9_begins_58 : decode cX9_begins 58 = .ok (.iconst 1, 1) := by decide +kernel
theorem dX9_begins_59 : decode cX9_begins 59 = .ok (.bipush 10, 2) := by decide +kernel
theorem dX9_begins_61 : decode cX9_begins 61 = .ok (.aload_n 0, 1) := by decide +kernel
theorem dX9_begins_62 : decode cX9_begins 62 = .ok (.getfield 11, 3) := by decide +kernel
theorem dX9_begins_65 : decode cX9_begins 65 = .ok (.iconst 1, 1) := by decide +kernel
theorem dX9_begins_66 : decode cX9_begins 66 = .ok (.iaload, 1) := by decide +kernel
theorem dX9_begins_67 : decode cX9_begins 67 = .ok (.imul, 1) := by decide +kernel
theorem dX9_begins_68 : decode cX9_begins 68 = .ok (.iload_n 1, 1) := by decide +kernel
theorem dX9_begins_69 : decode cX9_begins 69 = .ok (.iadd, 1) := by decide +kernel
theorem dX9_begins_70 : decode cX9_begins 70 = .ok (.iload_n 2, 1) := by decide +kernel
theorem dX9_begins_71 : decode cX9_begins 71 = .ok (.isub, 1) := by decide +kernel
theorem dX9_begins_72 : decode cX9_begins 72 = .ok (.iastore, 1) := by decide +kernel
theorem dX9_begins_73 : decode cX9_begins 73 = .ok (.iinc 2 1, 3) := by decide +kernel
theorem dX9_begins_76 : decode cX9_begins 76 = .ok (.goto (-60), 3) := by decide +kernel
theorem dX9_begins_79 : decode cX9_begins 79 = .ok (.aload_n 0, 1) := by decide +kernel
theorem dX9_begins_80 : decode cX9_begins 80 = .ok (.iconst 0, 1) := by decide +kernel
theorem dX9_begins_81 : decode cX9_begins 81 = .ok (.putfield 70, 3) := by decide +kernel
theorem dX9_begins_84 : decode cX9_begins 84 = .ok (.return_, 1) := by decide +kernel
theorem dX9_placeIn_0 : decode cX9_placeIn 0 = .ok (.iconst 0, 1) := by decide +kernel
theorem dX9_placeIn_1 : decode cX9_placeIn 1 = .ok (.istore_n 3, 1) := by decide +kernel
theorem dX9_placeIn_2 : decode cX9_placeIn 2 = .ok (.aload_n 0, 1) := by decide +kernel
theorem dX9_placeIn_3 : decode cX9_placeIn 3 = .ok (.getfield 11, 3) := by decide +kernel
theorem dX9_placeIn_6 : decode cX9_placeIn 6 = .ok (.iload_n 1, 1) := by decide +kernel
theorem dX9_placeIn_7 : decode cX9_placeIn 7 = .ok (.iload_n 3, 1) := by decide +kernel
theorem dX9_placeIn_8 : decode cX9_placeIn 8 = .ok (.iadd, 1) := by decide +kernel
theorem dX9_placeIn_9 : decode cX9_placeIn 9 = .ok (.iaload, 1) := by decide +kernel
theorem dX9_placeIn_10 : decode cX9_placeIn 10 = .ok (.iload_n 2, 1) := by decide +kernel
theorem dX9_placeIn_11 : decode cX9_placeIn 11 = .ok (.if_icmp .eq 9, 3) := by decide +kernel
theorem dX9_placeIn_14 : decode cX9_placeIn 14 = .ok (.iinc 3 1, 3) := by decide +kernel
theorem dX9_placeIn_17 : decode cX9_placeIn 17 = .ok (.goto (-15), 3) := by decide +kernel
theorem dX9_placeIn_20 : decode cX9_placeIn 20 = .ok (.iload_n 3, 1) := by decide +kernel
theorem dX9_placeIn_21 : decode cX9_placeIn 21 = .ok (.ireturn, 1) := by decide +kernel
theorem dX9_lastIn_0 : decode cX9_lastIn 0 = .ok (.aload_n 0, 1) := by decide +kernel
theorem dX9_lastIn_1 : decode cX9_lastIn 1 = .ok (.getfield 11, 3) := by decide +kernel
theorem dX9_lastIn_4 : decode cX9_lastIn 4 = .ok (.iload_n 1, 1) := by decide +kernel
theorem dX9_lastIn_5 : decode cX9_lastIn 5 = .ok (.aload_n 0, 1) := by decide +kernel
theorem dX9_lastIn_6 : decode cX9_lastIn 6 = .ok (.getfield 11, 3) := by decide +kernel
theorem dX9_lastIn_9 : decode cX9_lastIn 9 = .ok (.iconst 0, 1) := by decide +kernel
theorem dX9_lastIn_10 : decode cX9_lastIn 10 = .ok (.iaload, 1) := by decide +kernel
theorem dX9_lastIn_11 : decode cX9_lastIn 11 = .ok (.iadd, 1) := by decide +kernel
theorem dX9_lastIn_12 : decode cX9_lastIn 12 = .ok (.iconst 1, 1) := by decide +kernel
theorem dX9_lastIn_13 : decode cX9_lastIn 13 = .ok (.isub, 1) := by decide +kernel
theorem dX9_lastIn_14 : decode cX9_lastIn 14 = .ok (.iaload, 1) := by decide +kernel
theorem dX9_lastIn_15 : decode cX9_lastIn 15 = .ok (.ireturn, 1) := by decide +kernel
theorem dX9_movesBehind_0 : decode cX9_movesBehind 0 = .ok (.aload_n 0, 1) := by decide +kernel
theorem dX9_movesBehind_1 : decode cX9_movesBehind 1 = .ok (.iload_n 1, 1) := by decide +kernel
theorem dX9_movesBehind_2 : decode cX9_movesBehind 2 = .ok (.invokevirtual 74, 3) := by decide +kernel
theorem dX9_movesBehind_5 : decode cX9_movesBehind 5 = .ok (.istore_n 3, 1) := by decide +kernel
theorem dX9_movesBehind_6 : decode cX9_movesBehind 6 = .ok (.aload_n 0, 1) := by decide +kernel
theorem dX9_movesBehind_7 : decode cX9_movesBehind 7 = .ok (.iload_n 1, 1) := by decide +kernel
theorem dX9_movesBehind_8 : decode cX9_movesBehind 8 = .ok (.iload_n 2, 1) := by decide +kernel
theorem dX9_movesBehind_9 : decode cX9_movesBehind 9 = .ok (.invokevirtual 78, 3) := by decide +kernel
theorem dX9_movesBehind_12 : decode cX9_movesBehind 12 = .ok (.iconst 1, 1) := by decide +kernel
theorem dX9_movesBehind_13 : decode cX9_movesBehind 13 = .ok (.iadd, 1) := by decide +kernel
theorem dX9_movesBehind_14 : decode cX9_movesBehind 14 = .ok (.istore 4, 2) := by decide +kernel
theorem dX9_movesBehind_16 : decode cX9_movesBehind 16 = .ok (.aload_n 0, 1) := by decide +kernel
theorem dX9_movesBehind_17 : decode cX9_movesBehind 17 = .ok (.getfield 11, 3) := by decide +kernel
theorem dX9_movesBehind_20 : decode cX9_movesBehind 20 = .ok (.iconst 0, 1) := by decide +kernel
theorem dX9_movesBehind_21 : decode cX9_movesBehind 21 = .ok (.iaload, 1) := by decide +kernel
theorem dX9_movesBehind_22 : decode cX9_movesBehind 22 = .ok (.iconst 1, 1) := by decide +kernel
theorem dX9_movesBehind_23 : decode cX9_movesBehind 23 = .ok (.isub, 1) := by decide +kernel
theorem dX9_movesBehind_24 : decode cX9_movesBehind 24 = .ok (.istore 5, 2) := by decide +kernel
theorem dX9_movesBehind_26 : decode cX9_movesBehind 26 = .ok (.iload 5, 2) := by decide +kernel
theorem dX9_movesBehind_28 : decode cX9_movesBehind 28 = .ok (.iload 4, 2) := by decide +kernel
theorem dX9_movesBehind_30 : decode cX9_movesBehind 30 = .ok (.if_icmp .le 29, 3) := by decide +kernel
theorem dX9_movesBehind_33 : decode cX9_movesBehind 33 = .ok (.aload_n 0, 1) := by decide +kernel
theorem dX9_movesBehind_34 : decode cX9_movesBehind 34 = .ok (.getfield 11, 3) := by decide +kernel
theorem dX9_movesBehind_37 : decode cX9_movesBehind 37 = .ok (.iload_n 1, 1) := by decide +kernel
theorem dX9_movesBehind_38 : decode cX9_movesBehind 38 = .ok (.iload 5, 2) := by decide +kernel
theorem dX9_movesBehind_40 : decode cX9_movesBehind 40 = .ok (.iadd, 1) := by decide +kernel
theorem dX9_movesBehind_41 : decode cX9_movesBehind 41 = .ok (.aload_n 0, 1) := by decide +kernel
theorem dX9_movesBehind_42 : decode cX9_movesBehind 42 = .ok (.getfield 11, 3) := by decide +kernel
theorem dX9_movesBehind_45 : decode cX9_movesBehind 45 = .ok (.iload_n 1, 1) := by decide +kernel
theorem dX9_movesBehind_46 : decode cX9_movesBehind 46 = .ok (.iload 5, 2) := by decide +kernel
theorem dX9_movesBehind_48 : decode cX9_movesBehind 48 = .ok (.iadd, 1) := by decide +kernel
theorem dX9_movesBehind_49 : decode cX9_movesBehind 49 = .ok (.iconst 1, 1) := by decide +kernel
theorem dX9_movesBehind_50 : decode cX9_movesBehind 50 = .ok (.isub, 1) := by decide +kernel
theorem dX9_movesBehind_51 : decode cX9_movesBehind 51 = .ok (.iaload, 1) := by decide +kernel
theorem dX9_movesBehind_52 : decode cX9_movesBehind 52 = .ok (.iastore, 1) := by decide +kernel
theorem dX9_movesBehind_53 : decode cX9_movesBehind 53 = .ok (.iinc 5 (-1), 3) := by decide +kernel
theorem dX9_movesBehind_56 : decode cX9_movesBehind 56 = .ok (.goto (-30), 3) := by decide +kernel
theorem dX9_movesBehind_59 : decode cX9_movesBehind 59 = .ok (.aload_n 0, 1) := by decide +kernel
theorem dX9_movesBehind_60 : decode cX9_movesBehind 60 = .ok (.getfield 11, 3) := by decide +kernel
theorem dX9_movesBehind_63 : decode cX9_movesBehind 63 = .ok (.iload_n 1, 1) := by decide +kernel
theorem dX9_movesBehind_64 : decode cX9_movesBehind 64 = .ok (.iload 4, 2) := by decide +kernel
theorem dX9_movesBehind_66 : decode cX9_movesBehind 66 = .ok (.iadd, 1) := by decide +kernel
theorem dX9_movesBehind_67 : decode cX9_movesBehind 67 = .ok (.iload_n 3, 1) := by decide +kernel
theorem dX9_movesBehind_68 : decode cX9_movesBehind 68 = .ok (.iastore, 1) := by decide +kernel
theorem dX9_movesBehind_69 : decode cX9_movesBehind 69 = .ok (.return_, 1) := by decide +kernel
theorem dX9_movesToEnd_0 : decode cX9_movesToEnd 0 = .ok (.aload_n 0, 1) := by decide +kernel
theorem dX9_movesToEnd_1 : decode cX9_movesToEnd 1 = .ok (.iload_n 1, 1) := by decide +kernel
theorem dX9_movesToEnd_2 : decode cX9_movesToEnd 2 = .ok (.iload_n 2, 1) := by decide +kernel
theorem dX9_movesToEnd_3 : decode cX9_movesToEnd 3 = .ok (.invokevirtual 78, 3) := by decide +kernel
theorem dX9_movesToEnd_6 : decode cX9_movesToEnd 6 = .ok (.iconst 1, 1) := by decide +kernel
theorem dX9_movesToEnd_7 : decode cX9_movesToEnd 7 = .ok (.iadd, 1) := by decide +kernel
theorem dX9_movesToEnd_8 : decode cX9_movesToEnd 8 = .ok (.istore_n 3, 1) := by decide +kernel
theorem dX9_movesToEnd_9 : decode cX9_movesToEnd 9 = .ok (.iload_n 3, 1) := by decide +kernel
theorem dX9_movesToEnd_10 : decode cX9_movesToEnd 10 = .ok (.aload_n 0, 1) := by decide +kernel
theorem dX9_movesToEnd_11 : decode cX9_movesToEnd 11 = .ok (.getfield 11, 3) := by decide +kernel
theorem dX9_movesToEnd_14 : decode cX9_movesToEnd 14 = .ok (.iconst 0, 1) := by decide +kernel
theorem dX9_movesToEnd_15 : decode cX9_movesToEnd 15 = .ok (.iaload, 1) := by decide +kernel
theorem dX9_movesToEnd_16 : decode cX9_movesToEnd 16 = .ok (.if_icmp .ne 5, 3) := by decide +kernel
theorem dX9_movesToEnd_19 : decode cX9_movesToEnd 19 = .ok (.iconst (-1), 1) := by decide +kernel
theorem dX9_movesToEnd_20 : decode cX9_movesToEnd 20 = .ok (.ireturn, 1) := by decide +kernel
theorem dX9_movesToEnd_21 : decode cX9_movesToEnd 21 = .ok (.aload_n 0, 1) := by decide +kernel
theorem dX9_movesToEnd_22 : decode cX9_movesToEnd 22 = .ok (.getfield 11, 3) := by decide +kernel
theorem dX9_movesToEnd_25 : decode cX9_movesToEnd 25 = .ok (.iload_n 1, 1) := by decide +kernel
theorem dX9_movesToEnd_26 : decode cX9_movesToEnd 26 = .ok (.iload_n 3, 1) := by decide +kernel
theorem dX9_movesToEnd_27 : decode cX9_movesToEnd 27 = .ok (.iadd, 1) := by decide +kernel
theorem dX9_movesToEnd_28 : decode cX9_movesToEnd 28 = .ok (.iaload, 1) := by decide +kernel
theorem dX9_movesToEnd_29 : decode cX9_movesToEnd 29 = .ok (.istore 4, 2) := by decide +kernel
theorem dX9_movesToEnd_31 : decode cX9_movesToEnd 31 = .ok (.iload_n 3, 1) := by decide +kernel
theorem dX9_movesToEnd_32 : decode cX9_movesToEnd 32 = .ok (.istore 5, 2) := by decide +kernel
theorem dX9_movesToEnd_34 : decode cX9_movesToEnd 34 = .ok (.iload 5, 2) := by decide +kernel
theorem dX9_movesToEnd_36 : decode cX9_movesToEnd 36 = .ok (.iconst 1, 1) := by decide +kernel
theorem dX9_movesToEnd_37 : decode cX9_movesToEnd 37 = .ok (.iadd, 1) := by decide +kernel
theorem dX9_movesToEnd_38 : decode cX9_movesToEnd 38 = .ok (.aload_n 0, 1) := by decide +kernel
theorem dX9_movesToEnd_39 : decode cX9_movesToEnd 39 = .ok (.getfield 11, 3) := by decide +kernel
theorem dX9_movesToEnd_42 : decode cX9_movesToEnd 42 = .ok (.iconst 0, 1) := by decide +kernel
theorem dX9_movesToEnd_43 : decode cX9_movesToEnd 43 = .ok (.iaload, 1) := by decide +kernel
theorem dX9_movesToEnd_44 : decode cX9_movesToEnd 44 = .ok (.if_icmp .ge 29, 3) := by decide +kernel
theorem dX9_movesToEnd_47 : decode cX9_movesToEnd 47 = .ok (.aload_n 0, 1) := by decide +kernel
theorem dX9_movesToEnd_48 : decode cX9_movesToEnd 48 = .ok (.getfield 11, 3) := by decide +kernel
theorem dX9_movesToEnd_51 : decode cX9_movesToEnd 51 = .ok (.iload_n 1, 1) := by decide +kernel
theorem dX9_movesToEnd_52 : decode cX9_movesToEnd 52 = .ok (.iload 5, 2) := by decide +kernel
theorem dX9_movesToEnd_54 : decode cX9_movesToEnd 54 = .ok (.iadd, 1) := by decide +kernel
theorem dX9_movesToEnd_55 : decode cX9_movesToEnd 55 = .ok (.aload_n 0, 1) := by decide +kernel
theorem dX9_movesToEnd_56 : decode cX9_movesToEnd 56 = .ok (.getfield 11, 3) := by decide +kernel
theorem dX9_movesToEnd_59 : decode cX9_movesToEnd 59 = .ok (.iload_n 1, 1) := by decide +kernel
theorem dX9_movesToEnd_60 : decode cX9_movesToEnd 60 = .ok (.iload 5, 2) := by decide +kernel
theorem dX9_movesToEnd_62 : decode cX9_movesToEnd 62 = .ok (.iadd, 1) := by decide +kernel
theorem dX9_movesToEnd_63 : decode cX9_movesToEnd 63 = .ok (.iconst 1, 1) := by decide +kernel
theorem dX9_movesToEnd_64 : decode cX9_movesToEnd 64 = .ok (.iadd, 1) := by decide +kernel
theorem dX9_movesToEnd_65 : decode cX9_movesToEnd 65 = .ok (.iaload, 1) := by decide +kernel
theorem dX9_movesToEnd_66 : decode cX9_movesToEnd 66 = .ok (.iastore, 1) := by decide +kernel
theorem dX9_movesToEnd_67 : decode cX9_movesToEnd 67 = .ok (.iinc 5 1, 3) := by decide +kernel
theorem dX9_movesToEnd_70 : decode cX9_movesToEnd 70 = .ok (.goto (-36), 3) := by decide +kernel
theorem dX9_movesToEnd_73 : decode cX9_movesToEnd 73 = .ok (.aload_n 0, 1) := by decide +kernel
theorem dX9_movesToEnd_74 : decode cX9_movesToEnd 74 = .ok (.getfield 11, 3) := by decide +kernel
theorem dX9_movesToEnd_77 : decode cX9_movesToEnd 77 = .ok (.iload_n 1, 1) := by decide +kernel
theorem dX9_movesToEnd_78 : decode cX9_movesToEnd 78 = .ok (.aload_n 0, 1) := by decide +kernel
theorem dX9_movesToEnd_79 : decode cX9_movesToEnd 79 = .ok (.getfield 11, 3) := by decide +kernel
theorem dX9_movesToEnd_82 : decode cX9_movesToEnd 82 = .ok (.iconst 0, 1) := by decide +kernel
theorem dX9_movesToEnd_83 : decode cX9_movesToEnd 83 = .ok (.iaload, 1) := by decide +kernel
theorem dX9_movesToEnd_84 : decode cX9_movesToEnd 84 = .ok (.iadd, 1) := by decide +kernel
theorem dX9_movesToEnd_85 : decode cX9_movesToEnd 85 = .ok (.iconst 1, 1) := by decide +kernel
theorem dX9_movesToEnd_86 : decode cX9_movesToEnd 86 = .ok (.isub, 1) := by decide +kernel
theorem dX9_movesToEnd_87 : decode cX9_movesToEnd 87 = .ok (.iload 4, 2) := by decide +kernel
theorem dX9_movesToEnd_89 : decode cX9_movesToEnd 89 = .ok (.iastore, 1) := by decide +kernel
theorem dX9_movesToEnd_90 : decode cX9_movesToEnd 90 = .ok (.iload 4, 2) := by decide +kernel
theorem dX9_movesToEnd_92 : decode cX9_movesToEnd 92 = .ok (.ireturn, 1) := by decide +kernel
theorem dX9_points_0 : decode cX9_points 0 = .ok (.iconst 0, 1) := by decide +kernel
theorem dX9_points_1 : decode cX9_points 1 = .ok (.istore_n 1, 1) := by decide +kernel
theorem dX9_points_2 : decode cX9_points 2 = .ok (.iconst 0, 1) := by decide +kernel
theorem dX9_points_3 : decode cX9_points 3 = .ok (.istore_n 2, 1) := by decide +kernel
theorem dX9_points_4 : decode cX9_points 4 = .ok (.iload_n 2, 1) := by decide +kernel
theorem dX9_points_5 : decode cX9_points 5 = .ok (.aload_n 0, 1) := by decide +kernel
theorem dX9_points_6 : decode cX9_points 6 = .ok (.getfield 11, 3) := by decide +kernel
theorem dX9_points_9 : decode cX9_points 9 = .ok (.iconst 0, 1) := by decide +kernel
theorem dX9_points_10 : decode cX9_points 10 = .ok (.iaload, 1) := by decide +kernel
theorem dX9_points_11 : decode cX9_points 11 = .ok (.if_icmp .ge 21, 3) := by decide +kernel
theorem dX9_points_14 : decode cX9_points 14 = .ok (.iload_n 1, 1) := by decide +kernel
theorem dX9_points_15 : decode cX9_points 15 = .ok (.aload_n 0, 1) := by decide +kernel
theorem dX9_points_16 : decode cX9_points 16 = .ok (.getfield 11, 3) := by decide +kernel
theorem dX9_points_19 : decode cX9_points 19 = .ok (.bipush 12, 2) := by decide +kernel
theorem dX9_points_21 : decode cX9_points 21 = .ok (.iload_n 2, 1) := by decide +kernel
theorem dX9_points_22 : decode cX9_points 22 = .ok (.iadd, 1) := by decide +kernel
theorem dX9_points_23 : decode cX9_points 23 = .ok (.iaload, 1) := by decide +kernel
theorem dX9_points_24 : decode cX9_points 24 = .ok (.iadd, 1) := by decide +kernel
theorem dX9_points_25 : decode cX9_points 25 = .ok (.istore_n 1, 1) := by decide +kernel
theorem dX9_points_26 : decode cX9_points 26 = .ok (.iinc 2 1, 3) := by decide +kernel
theorem dX9_points_29 : decode cX9_points 29 = .ok (.goto (-25), 3) := by decide +kernel
theorem dX9_points_32 : decode cX9_points 32 = .ok (.iload_n 1, 1) := by decide +kernel
theorem dX9_points_33 : decode cX9_points 33 = .ok (.ireturn, 1) := by decide +kernel
theorem dX9_codeNow_0 : decode cX9_codeNow 0 = .ok (.iconst 0, 1) := by decide +kernel
theorem dX9_codeNow_1 : decode cX9_codeNow 1 = .ok (.istore_n 1, 1) := by decide +kernel
theorem dX9_codeNow_2 : decode cX9_codeNow 2 = .ok (.iconst 0, 1) := by decide +kernel
theorem dX9_codeNow_3 : decode cX9_codeNow 3 = .ok (.istore_n 2, 1) := by decide +kernel
theorem dX9_codeNow_4 : decode cX9_codeNow 4 = .ok (.iload_n 2, 1) := by decide +kernel
theorem dX9_codeNow_5 : decode cX9_codeNow 5 = .ok (.aload_n 0, 1) := by decide +kernel
theorem dX9_codeNow_6 : decode cX9_codeNow 6 = .ok (.getfield 11, 3) := by decide +kernel
theorem dX9_codeNow_9 : decode cX9_codeNow 9 = .ok (.iconst 0, 1) := by decide +kernel
theorem dX9_codeNow_10 : decode cX9_codeNow 10 = .ok (.iaload, 1) := by decide +kernel
theorem dX9_codeNow_11 : decode cX9_codeNow 11 = .ok (.if_icmp .ge 31, 3) := by decide +kernel
theorem dX9_codeNow_14 : decode cX9_codeNow 14 = .ok (.bipush 10, 2) := by decide +kernel
theorem dX9_codeNow_16 : decode cX9_codeNow 16 = .ok (.iload_n 1, 1) := by decide +kernel
theorem dX9_codeNow_17 : decode cX9_codeNow 17 = .ok (.imul, 1) := by decide +kernel
theorem dX9_codeNow_18 : decode cX9_codeNow 18 = .ok (.iconst 1, 1) := by decide +kernel
theorem dX9_codeNow_19 : decode cX9_codeNow 19 = .ok (.iadd, 1) := by decide +kernel
theorem dX9_codeNow_20 : decode cX9_codeNow 20 = .ok (.aload_n 0, 1) := by decide +kernel
theorem dX9_codeNow_21 : decode cX9_codeNow 21 = .ok (.iconst 2, 1) := by decide +kernel
theorem dX9_codeNow_22 : decode cX9_codeNow 22 = .ok (.aload_n 0, 1) := by decide +kernel
theorem dX9_codeNow_23 : decode cX9_codeNow 23 = .ok (.getfield 11, 3) := by decide +kernel
theorem dX9_codeNow_26 : decode cX9_codeNow 26 = .ok (.bipush 7, 2) := by decide +kernel
theorem dX9_codeNow_28 : decode cX9_codeNow 28 = .ok (.iload_n 2, 1) := by decide +kernel
theorem dX9_codeNow_29 : decode cX9_codeNow 29 = .ok (.iadd, 1) := by decide +kernel
theorem dX9_codeNow_30 : decode cX9_codeNow 30 = .ok (.iaload, 1) := by decide +kernel
theorem dX9_codeNow_31 : decode cX9_codeNow 31 = .ok (.invokevirtual 78, 3) := by decide +kernel
theorem dX9_codeNow_34 : decode cX9_codeNow 34 = .ok (.iadd, 1) := by decide +kernel
theorem dX9_codeNow_35 : decode cX9_codeNow 35 = .ok (.istore_n 1, 1) := by decide +kernel
theorem dX9_codeNow_36 : decode cX9_codeNow 36 = .ok (.iinc 2 1, 3) := by decide +kernel
theorem dX9_codeNow_39 : decode cX9_codeNow 39 = .ok (.goto (-35), 3) := by decide +kernel
theorem dX9_codeNow_42 : decode cX9_codeNow 42 = .ok (.iload_n 1, 1) := by decide +kernel
theorem dX9_codeNow_43 : decode cX9_codeNow 43 = .ok (.ireturn, 1) := by decide +kernel
theorem dX9_isWhole_0 : decode cX9_isWhole 0 = .ok (.iconst 0, 1) := by decide +kernel
theorem dX9_isWhole_1 : decode cX9_isWhole 1 = .ok (.istore_n 1, 1) := by decide +kernel
theorem dX9_isWhole_2 : decode cX9_isWhole 2 = .ok (.iconst 0, 1) := by decide +kernel
theorem dX9_isWhole_3 : decode cX9_isWhole 3 = .ok (.istore_n 2, 1) := by decide +kernel
theorem dX9_isWhole_4 : decode cX9_isWhole 4 = .ok (.iconst 0, 1) := by decide +kernel
theorem dX9_isWhole_5 : decode cX9_isWhole 5 = .ok (.istore_n 3, 1) := by decide +kernel
theorem dX9_isWhole_6 : decode cX9_isWhole 6 = .ok (.iload_n 3, 1) := by decide +kernel
theorem dX9_isWhole_7 : decode cX9_isWhole 7 = .ok (.iconst 1, 1) := by decide +kernel
theorem dX9_isWhole_8 : decode cX9_isWhole 8 = .ok (.iadd, 1) := by decide +kernel
theorem dX9_isWhole_9 : decode cX9_isWhole 9 = .ok (.aload_n 0, 1) := by decide +kernel
theorem dX9_isWhole_10 : decode cX9_isWhole 10 = .ok (.getfield 11, 3) := by decide +kernel
theorem dX9_isWhole_13 : decode cX9_isWhole 13 = .ok (.iconst 0, 1) := by decide +kernel
theorem dX9_isWhole_14 : decode cX9_isWhole 14 = .ok (.iaload, 1) := by decide +kernel
theorem dX9_isWhole_15 : decode cX9_isWhole 15 = .ok (.if_icmp .ge 43, 3) := by decide +kernel
theorem dX9_isWhole_18 : decode cX9_isWhole 18 = .ok (.iload_n 1, 1) := by decide +kernel
theorem dX9_isWhole_19 : decode cX9_isWhole 19 = .ok (.iconst 1, 1) := by decide +kernel
theorem dX9_isWhole_20 : decode cX9_isWhole 20 = .ok (.aload_n 0, 1) := by decide +kernel
theorem dX9_isWhole_21 : decode cX9_isWhole 21 = .ok (.getfield 11, 3) := by decide +kernel
theorem dX9_isWhole_24 : decode cX9_isWhole 24 = .ok (.iconst 2, 1) := by decide +kernel
theorem dX9_isWhole_25 : decode cX9_isWhole 25 = .ok (.iload_n 3, 1) := by decide +kernel
theorem dX9_isWhole_26 : decode cX9_isWhole 26 = .ok (.iadd, 1) := by decide +kernel
theorem dX9_isWhole_27 : decode cX9_isWhole 27 = .ok (.iaload, 1) := by decide +kernel
theorem dX9_isWhole_28 : decode cX9_isWhole 28 = .ok (.ishl, 1) := by decide +kernel
theorem dX9_isWhole_29 : decode cX9_isWhole 29 = .ok (.ior, 1) := by decide +kernel
theorem dX9_isWhole_30 : decode cX9_isWhole 30 = .ok (.istore_n 1, 1) := by decide +kernel
theorem dX9_isWhole_31 : decode cX9_isWhole 31 = .ok (.iload_n 2, 1) := by decide +kernel
theorem dX9_isWhole_32 : decode cX9_isWhole 32 = .ok (.iconst 1, 1) := by decide +kernel
theorem dX9_isWhole_33 : decode cX9_isWhole 33 = .ok (.aload_n 0, 1) := by decide +kernel
theorem dX9_isWhole_34 : decode cX9_isWhole 34 = .ok (.getfield 11, 3) := by decide +kernel
theorem dX9_isWhole_37 : decode cX9_isWhole 37 = .ok (.bipush 7, 2) := by decide +kernel
theorem dX9_isWhole_39 : decode cX9_isWhole 39 = .ok (.iload_n 3, 1) := by decide +kernel
theorem dX9_isWhole_40 : decode cX9_isWhole 40 = .ok (.iadd, 1) := by decide +kernel
theorem dX9_isWhole_41 : decode cX9_isWhole 41 = .ok (.iaload, 1) := by decide +kernel
theorem dX9_isWhole_42 : decode cX9_isWhole 42 = .ok (.ishl, 1) := by decide +kernel
theorem dX9_isWhole_43 : decode cX9_isWhole 43 = .ok (.ior, 1) := by decide +kernel
theorem dX9_isWhole_44 : decode cX9_isWhole 44 = .ok (.istore_n 2, 1) := by decide +kernel
theorem dX9_isWhole_45 : decode cX9_isWhole 45 = .ok (.iload_n 1, 1) := by decide +kernel
theorem dX9_isWhole_46 : decode cX9_isWhole 46 = .ok (.iload_n 2, 1) := by decide +kernel
theorem dX9_isWhole_47 : decode cX9_isWhole 47 = .ok (.if_icmp .ne 5, 3) := by decide +kernel
theorem dX9_isWhole_50 : decode cX9_isWhole 50 = .ok (.iconst 0, 1) := by decide +kernel
theorem dX9_isWhole_51 : decode cX9_isWhole 51 = .ok (.ireturn, 1) := by decide +kernel
theorem dX9_isWhole_52 : decode cX9_isWhole 52 = .ok (.iinc 3 1, 3) := by decide +kernel
theorem dX9_isWhole_55 : decode cX9_isWhole 55 = .ok (.goto (-49), 3) := by decide +kernel
theorem dX9_isWhole_58 : decode cX9_isWhole 58 = .ok (.iconst 1, 1) := by decide +kernel
theorem dX9_isWhole_59 : decode cX9_isWhole 59 = .ok (.ireturn, 1) := by decide +kernel
theorem dX9_kindNow_0 : decode cX9_kindNow 0 = .ok (.aload_n 0, 1) := by decide +kernel
theorem dX9_kindNow_1 : decode cX9_kindNow 1 = .ok (.iconst 2, 1) := by decide +kernel
theorem dX9_kindNow_2 : decode cX9_kindNow 2 = .ok (.invokevirtual 74, 3) := by decide +kernel
theorem dX9_kindNow_5 : decode cX9_kindNow 5 = .ok (.istore_n 1, 1) := by decide +kernel
theorem dX9_kindNow_6 : decode cX9_kindNow 6 = .ok (.aload_n 0, 1) := by decide +kernel
theorem dX9_kindNow_7 : decode cX9_kindNow 7 = .ok (.bipush 7, 2) := by decide +kernel
theorem dX9_kindNow_9 : decode cX9_kindNow 9 = .ok (.invokevirtual 74, 3) := by decide +kernel
theorem dX9_kindNow_12 : decode cX9_kindNow 12 = .ok (.istore_n 2, 1) := by decide +kernel
theorem dX9_kindNow_13 : decode cX9_kindNow 13 = .ok (.aload_n 0, 1) := by decide +kernel
theorem dX9_kindNow_14 : decode cX9_kindNow 14 = .ok (.getfield 11, 3) := by decide +kernel
theorem dX9_kindNow_17 : decode cX9_kindNow 17 = .ok (.bipush 12, 2) := by decide +kernel
theorem dX9_kindNow_19 : decode cX9_kindNow 19 = .ok (.iload_n 1, 1) := by decide +kernel
theorem dX9_kindNow_20 : decode cX9_kindNow 20 = .ok (.iadd, 1) := by decide +kernel
theorem dX9_kindNow_21 : decode cX9_kindNow 21 = .ok (.iaload, 1) := by decide +kernel
theorem dX9_kindNow_22 : decode cX9_kindNow 22 = .ok (.aload_n 0, 1) := by decide +kernel
theorem dX9_kindNow_23 : decode cX9_kindNow 23 = .ok (.getfield 11, 3) := by decide +kernel
theorem dX9_kindNow_26 : decode cX9_kindNow 26 = .ok (.bipush 12, 2) := by decide +kernel
theorem dX9_kindNow_28 : decode cX9_kindNow 28 = .ok (.iload_n 2, 1) := by decide +kernel
theorem dX9_kindNow_29 : decode cX9_kindNow 29 = .ok (.iadd, 1) := by decide +kernel
theorem dX9_kindNow_30 : decode cX9_kindNow 30 = .ok (.iaload, 1) := by decide +kernel
theorem dX9_kindNow_31 : decode cX9_kindNow 31 = .ok (.isub, 1) := by decide +kernel
theorem dX9_kindNow_32 : decode cX9_kindNow 32 = .ok (.istore_n 3, 1) := by decide +kernel
theorem dX9_kindNow_33 : decode cX9_kindNow 33 = .ok (.iload_n 3, 1) := by decide +kernel
theorem dX9_kindNow_34 : decode cX9_kindNow 34 = .ok (.ifCond .ne 7, 3) := by decide +kernel
theorem dX9_kindNow_37 : decode cX9_kindNow 37 = .ok (.iconst (-1), 1) := by decide +kernel
theorem dX9_kindNow_38 : decode cX9_kindNow 38 = .ok (.goto 12, 3) := by decide +kernel
theorem dX9_kindNow_41 : decode cX9_kindNow 41 = .ok (.iload_n 3, 1) := by decide +kernel
theorem dX9_kindNow_42 : decode cX9_kindNow 42 = .ok (.ifCond .le 7, 3) := by decide +kernel
theorem dX9_kindNow_45 : decode cX9_kindNow 45 = .ok (.iconst 0, 1) := by decide +kernel
theorem dX9_kindNow_46 : decode cX9_kindNow 46 = .ok (.goto 4, 3) := by decide +kernel
theorem dX9_kindNow_49 : decode cX9_kindNow 49 = .ok (.iconst 1, 1) := by decide +kernel
theorem dX9_kindNow_50 : decode cX9_kindNow 50 = .ok (.ireturn, 1) := by decide +kernel
theorem dX9_steps_0 : decode cX9_steps 0 = .ok (.aload_n 0, 1) := by decide +kernel
theorem dX9_steps_1 : decode cX9_steps 1 = .ok (.iconst 2, 1) := by decide +kernel
theorem dX9_steps_2 : decode cX9_steps 2 = .ok (.invokevirtual 74, 3) := by decide +kernel
theorem dX9_steps_5 : decode cX9_steps 5 = .ok (.istore_n 2, 1) := by decide +kernel
theorem dX9_steps_6 : decode cX9_steps 6 = .ok (.aload_n 0, 1) := by decide +kernel
theorem dX9_steps_7 : decode cX9_steps 7 = .ok (.bipush 7, 2) := by decide +kernel
theorem dX9_steps_9 : decode cX9_steps 9 = .ok (.invokevirtual 74, 3) := by decide +kernel
theorem dX9_steps_12 : decode cX9_steps 12 = .ok (.istore_n 3, 1) := by decide +kernel
theorem dX9_steps_13 : decode cX9_steps 13 = .ok (.iload_n 1, 1) := by decide +kernel
theorem dX9_steps_14 : decode cX9_steps 14 = .ok (.ifCond .ne 34, 3) := by decide +kernel
theorem dX9_steps_17 : decode cX9_steps 17 = .ok (.aload_n 0, 1) := by decide +kernel
theorem dX9_steps_18 : decode cX9_steps 18 = .ok (.getfield 11, 3) := by decide +kernel
theorem dX9_steps_21 : decode cX9_steps 21 = .ok (.bipush 12, 2) := by decide +kernel
theorem dX9_steps_23 : decode cX9_steps 23 = .ok (.iload_n 2, 1) := by decide +kernel
theorem dX9_steps_24 : decode cX9_steps 24 = .ok (.iadd, 1) := by decide +kernel
theorem dX9_steps_25 : decode cX9_steps 25 = .ok (.dup2, 1) := by decide +kernel
theorem dX9_steps_26 : decode cX9_steps 26 = .ok (.iaload, 1) := by decide +kernel
theorem dX9_steps_27 : decode cX9_steps 27 = .ok (.aload_n 0, 1) := by decide +kernel
theorem dX9_steps_28 : decode cX9_steps 28 = .ok (.getfield 11, 3) := by decide +kernel
theorem dX9_steps_31 : decode cX9_steps 31 = .ok (.bipush 12, 2) := by decide +kernel
theorem dX9_steps_33 : decode cX9_steps 33 = .ok (.iload_n 3, 1) := by decide +kernel
theorem dX9_steps_34 : decode cX9_steps 34 = .ok (.iadd, 1) := by decide +kernel
theorem dX9_steps_35 : decode cX9_steps 35 = .ok (.iaload, 1) := by decide +kernel
theorem dX9_steps_36 : decode cX9_steps 36 = .ok (.isub, 1) := by decide +kernel
theorem dX9_steps_37 : decode cX9_steps 37 = .ok (.iastore, 1) := by decide +kernel
theorem dX9_steps_38 : decode cX9_steps 38 = .ok (.aload_n 0, 1) := by decide +kernel
theorem dX9_steps_39 : decode cX9_steps 39 = .ok (.bipush 7, 2) := by decide +kernel
theorem dX9_steps_41 : decode cX9_steps 41 = .ok (.iload_n 2, 1) := by decide +kernel
theorem dX9_steps_42 : decode cX9_steps 42 = .ok (.invokevirtual 82, 3) := by decide +kernel
theorem dX9_steps_45 : decode cX9_steps 45 = .ok (.goto 30, 3) := by decide +kernel
theorem dX9_steps_48 : decode cX9_steps 48 = .ok (.aload_n 0, 1) := by decide +kernel
theorem dX9_steps_49 : decode cX9_steps 49 = .ok (.getfield 11, 3) := by decide +kernel
theorem dX9_steps_52 : decode cX9_steps 52 = .ok (.bipush 12, 2) := by decide +kernel
theorem dX9_steps_54 : decode cX9_steps 54 = .ok (.iload_n 3, 1) := by decide +kernel
theorem dX9_steps_55 : decode cX9_steps 55 = .ok (.iadd, 1) := by decide +kernel
theorem dX9_steps_56 : decode cX9_steps 56 = .ok (.dup2, 1) := by decide +kernel
theorem dX9_steps_57 : decode cX9_steps 57 = .ok (.iaload, 1) := by decide +kernel
theorem dX9_steps_58 : decode cX9_steps 58 = .ok (.aload_n 0, 1) := by decide +kernel
theorem dX9_steps_59 : decode cX9_steps 59 = .ok (.getfield 11, 3) := by decide +kernel
theorem dX9_steps_62 : decode cX9_steps 62 = .ok (.bipush 12, 2) := by decide +kernel
theorem dX9_steps_64 : decode cX9_steps 64 = .ok (.iload_n 2, 1) := by decide +kernel
theorem dX9_steps_65 : decode cX9_steps 65 = .ok (.iadd, 1) := by decide +kernel
theorem dX9_steps_66 : decode cX9_steps 66 = .ok (.iaload, 1) := by decide +kernel
theorem dX9_steps_67 : decode cX9_steps 67 = .ok (.isub, 1) := by decide +kernel
theorem dX9_steps_68 : decode cX9_steps 68 = .ok (.iastore, 1) := by decide +kernel
theorem dX9_steps_69 : decode cX9_steps 69 = .ok (.aload_n 0, 1) := by decide +kernel
theorem dX9_steps_70 : decode cX9_steps 70 = .ok (.iconst 2, 1) := by decide +kernel
theorem dX9_steps_71 : decode cX9_steps 71 = .ok (.iload_n 3, 1) := by decide +kernel
theorem dX9_steps_72 : decode cX9_steps 72 = .ok (.invokevirtual 82, 3) := by decide +kernel
theorem dX9_steps_75 : decode cX9_steps 75 = .ok (.return_, 1) := by decide +kernel
theorem dX9_stepsBack_0 : decode cX9_stepsBack 0 = .ok (.aload_n 0, 1) := by decide +kernel
theorem dX9_stepsBack_1 : decode cX9_stepsBack 1 = .ok (.iload_n 1, 1) := by decide +kernel
theorem dX9_stepsBack_2 : decode cX9_stepsBack 2 = .ok (.ifCond .ne 7, 3) := by decide +kernel
theorem dX9_stepsBack_5 : decode cX9_stepsBack 5 = .ok (.iconst 2, 1) := by decide +kernel
theorem dX9_stepsBack_6 : decode cX9_stepsBack 6 = .ok (.goto 5, 3) := by decide +kernel
theorem dX9_stepsBack_9 : decode cX9_stepsBack 9 = .ok (.bipush 7, 2) := by decide +kernel
theorem dX9_stepsBack_11 : decode cX9_stepsBack 11 = .ok (.invokevirtual 74, 3) := by decide +kernel
theorem dX9_stepsBack_14 : decode cX9_stepsBack 14 = .ok (.istore_n 2, 1) := by decide +kernel
theorem dX9_stepsBack_15 : decode cX9_stepsBack 15 = .ok (.aload_n 0, 1) := by decide +kernel
theorem dX9_stepsBack_16 : decode cX9_stepsBack 16 = .ok (.iload_n 1, 1) := by decide +kernel
theorem dX9_stepsBack_17 : decode cX9_stepsBack 17 = .ok (.ifCond .ne 8, 3) := by decide +kernel
theorem dX9_stepsBack_20 : decode cX9_stepsBack 20 = .ok (.bipush 7, 2) := by decide +kernel
theorem dX9_stepsBack_22 : decode cX9_stepsBack 22 = .ok (.goto 4, 3) := by decide +kernel
theorem dX9_stepsBack_25 : decode cX9_stepsBack 25 = .ok (.iconst 2, 1) := by decide +kernel
theorem dX9_stepsBack_26 : decode cX9_stepsBack 26 = .ok (.iload_n 2, 1) := by decide +kernel
theorem dX9_stepsBack_27 : decode cX9_stepsBack 27 = .ok (.invokevirtual 86, 3) := by decide +kernel
theorem dX9_stepsBack_30 : decode cX9_stepsBack 30 = .ok (.istore_n 3, 1) := by decide +kernel
theorem dX9_stepsBack_31 : decode cX9_stepsBack 31 = .ok (.iload_n 3, 1) := by decide +kernel
theorem dX9_stepsBack_32 : decode cX9_stepsBack 32 = .ok (.iconst (-1), 1) := by decide +kernel
theorem dX9_stepsBack_33 : decode cX9_stepsBack 33 = .ok (.if_icmp .eq 24, 3) := by decide +kernel
theorem dX9_stepsBack_36 : decode cX9_stepsBack 36 = .ok (.aload_n 0, 1) := by decide +kernel
theorem dX9_stepsBack_37 : decode cX9_stepsBack 37 = .ok (.getfield 11, 3) := by decide +kernel
theorem dX9_stepsBack_40 : decode cX9_stepsBack 40 = .ok (.bipush 12, 2) := by decide +kernel
theorem dX9_stepsBack_42 : decode cX9_stepsBack 42 = .ok (.iload_n 2, 1) := by decide +kernel
theorem dX9_stepsBack_43 : decode cX9_stepsBack 43 = .ok (.iadd, 1) := by decide +kernel
theorem dX9_stepsBack_44 : decode cX9_stepsBack 44 = .ok (.dup2, 1) := by decide +kernel
theorem dX9_stepsBack_45 : decode cX9_stepsBack 45 = .ok (.iaload, 1) := by decide +kernel
theorem dX9_stepsBack_46 : decode cX9_stepsBack 46 = .ok (.aload_n 0, 1) := by decide +kernel
theorem dX9_stepsBack_47 : decode cX9_stepsBack 47 = .ok (.getfield 11, 3) := by decide +kernel
theorem dX9_stepsBack_50 : decode cX9_stepsBack 50 = .ok (.bipush 12, 2) := by decide +kernel
theorem dX9_stepsBack_52 : decode cX9_stepsBack 52 = .ok (.iload_n 3, 1) := by decide +kernel
theorem dX9_stepsBack_53 : decode cX9_stepsBack 53 = .ok (.iadd, 1) := by decide +kernel
theorem dX9_stepsBack_54 : decode cX9_stepsBack 54 = .ok (.iaload, 1) := by decide +kernel
theorem dX9_stepsBack_55 : decode cX9_stepsBack 55 = .ok (.iadd, 1) := by decide +kernel
theorem dX9_stepsBack_56 : decode cX9_stepsBack 56 = .ok (.iastore, 1) := by decide +kernel
theorem dX9_stepsBack_57 : decode cX9_stepsBack 57 = .ok (.iload_n 3, 1) := by decide +kernel
theorem dX9_stepsBack_58 : decode cX9_stepsBack 58 = .ok (.iconst (-1), 1) := by decide +kernel
theorem dX9_stepsBack_59 : decode cX9_stepsBack 59 = .ok (.if_icmp .ne 7, 3) := by decide +kernel
theorem dX9_stepsBack_62 : decode cX9_stepsBack 62 = .ok (.iconst (-1), 1) := by decide +kernel
theorem dX9_stepsBack_63 : decode cX9_stepsBack 63 = .ok (.goto 4, 3) := by decide +kernel
theorem dX9_stepsBack_66 : decode cX9_stepsBack 66 = .ok (.iload_n 2, 1) := by decide +kernel
theorem dX9_stepsBack_67 : decode cX9_stepsBack 67 = .ok (.ireturn, 1) := by decide +kernel
theorem dX9_keeps_0 : decode cX9_keeps 0 = .ok (.aload_n 0, 1) := by decide +kernel
theorem dX9_keeps_1 : decode cX9_keeps 1 = .ok (.getfield 70, 3) := by decide +kernel
theorem dX9_keeps_4 : decode cX9_keeps 4 = .ok (.bipush 12, 2) := by decide +kernel
theorem dX9_keeps_6 : decode cX9_keeps 6 = .ok (.if_icmp .ne 30, 3) := by decide +kernel
theorem dX9_keeps_9 : decode cX9_keeps 9 = .ok (.aload_n 0, 1) := by decide +kernel
theorem dX9_keeps_10 : decode cX9_keeps 10 = .ok (.getfield 18, 3) := by decide +kernel
theorem dX9_keeps_13 : decode cX9_keeps 13 = .ok (.bipush 15, 2) := by decide +kernel
theorem dX9_keeps_15 : decode cX9_keeps 15 = .ok (.aload_n 0, 1) := by decide +kernel
theorem dX9_keeps_16 : decode cX9_keeps 16 = .ok (.getfield 18, 3) := by decide +kernel
theorem dX9_keeps_19 : decode cX9_keeps 19 = .ok (.iconst 0, 1) := by decide +kernel
theorem dX9_keeps_20 : decode cX9_keeps 20 = .ok (.sipush 165, 3) := by decide +kernel
theorem dX9_keeps_23 : decode cX9_keeps 23 = .ok (.invokestatic 89, 3) := by decide +kernel
theorem dX9_keeps_26 : decode cX9_keeps 26 = .ok (.aload_n 0, 1) := by decide +kernel
theorem dX9_keeps_27 : decode cX9_keeps 27 = .ok (.dup, 1) := by decide +kernel
theorem dX9_keeps_28 : decode cX9_keeps 28 = .ok (.getfield 70, 3) := by decide +kernel
theorem dX9_keeps_31 : decode cX9_keeps 31 = .ok (.iconst 1, 1) := by decide +kernel
theorem dX9_keeps_32 : decode cX9_keeps 32 = .ok (.isub, 1) := by decide +kernel
theorem dX9_keeps_33 : decode cX9_keeps 33 = .ok (.putfield 70, 3) := by decide +kernel
theorem dX9_keeps_36 : decode cX9_keeps 36 = .ok (.aload_n 0, 1) := by decide +kernel
theorem dX9_keeps_37 : decode cX9_keeps 37 = .ok (.getfield 11, 3) := by decide +kernel
theorem dX9_keeps_40 : decode cX9_keeps 40 = .ok (.iconst 2, 1) := by decide +kernel
theorem dX9_keeps_41 : decode cX9_keeps 41 = .ok (.aload_n 0, 1) := by decide +kernel
theorem dX9_keeps_42 : decode cX9_keeps 42 = .ok (.getfield 18, 3) := by decide +kernel
theorem dX9_keeps_45 : decode cX9_keeps 45 = .ok (.bipush 15, 2) := by decide +kernel
theorem dX9_keeps_47 : decode cX9_keeps 47 = .ok (.aload_n 0, 1) := by decide +kernel
theorem dX9_keeps_48 : decode cX9_keeps 48 = .ok (.getfield 70, 3) := by decide +kernel
theorem dX9_keeps_51 : decode cX9_keeps 51 = .ok (.imul, 1) := by decide +kernel
theorem dX9_keeps_52 : decode cX9_keeps 52 = .ok (.bipush 15, 2) := by decide +kernel
theorem dX9_keeps_54 : decode cX9_keeps 54 = .ok (.invokestatic 89, 3) := by decide +kernel
theorem dX9_keeps_57 : decode cX9_keeps 57 = .ok (.aload_n 0, 1) := by decide +kernel
theorem dX9_keeps_58 : decode cX9_keeps 58 = .ok (.dup, 1) := by decide +kernel
theorem dX9_keeps_59 : decode cX9_keeps 59 = .ok (.getfield 70, 3) := by decide +kernel
theorem dX9_keeps_62 : decode cX9_keeps 62 = .ok (.iconst 1, 1) := by decide +kernel
theorem dX9_keeps_63 : decode cX9_keeps 63 = .ok (.iadd, 1) := by decide +kernel
theorem dX9_keeps_64 : decode cX9_keeps 64 = .ok (.putfield 70, 3) := by decide +kernel
theorem dX9_keeps_67 : decode cX9_keeps 67 = .ok (.return_, 1) := by decide +kernel
theorem dX9_undoes_0 : decode cX9_undoes 0 = .ok (.aload_n 0, 1) := by decide +kernel
theorem dX9_undoes_1 : decode cX9_undoes 1 = .ok (.dup, 1) := by decide +kernel
theorem dX9_undoes_2 : decode cX9_undoes 2 = .ok (.getfield 70, 3) := by decide +kernel
theorem dX9_undoes_5 : decode cX9_undoes 5 = .ok (.iconst 1, 1) := by decide +kernel
theorem dX9_undoes_6 : decode cX9_undoes 6 = .ok (.isub, 1) := by decide +kernel
theorem dX9_undoes_7 : decode cX9_undoes 7 = .ok (.putfield 70, 3) := by decide +kernel
theorem dX9_undoes_10 : decode cX9_undoes 10 = .ok (.aload_n 0, 1) := by decide +kernel
theorem dX9_undoes_11 : decode cX9_undoes 11 = .ok (.getfield 18, 3) := by decide +kernel
theorem dX9_undoes_14 : decode cX9_undoes 14 = .ok (.bipush 15, 2) := by decide +kernel
theorem dX9_undoes_16 : decode cX9_undoes 16 = .ok (.aload_n 0, 1) := by decide +kernel
theorem dX9_undoes_17 : decode cX9_undoes 17 = .ok (.getfield 70, 3) := by decide +kernel
theorem dX9_undoes_20 : decode cX9_undoes 20 = .ok (.imul, 1) := by decide +kernel
theorem dX9_undoes_21 : decode cX9_undoes 21 = .ok (.aload_n 0, 1) := by decide +kernel
theorem dX9_undoes_22 : decode cX9_undoes 22 = .ok (.getfield 11, 3) := by decide +kernel
theorem dX9_undoes_25 : decode cX9_undoes 25 = .ok (.iconst 2, 1) := by decide +kernel
theorem dX9_undoes_26 : decode cX9_undoes 26 = .ok (.bipush 15, 2) := by decide +kernel
theorem dX9_undoes_28 : decode cX9_undoes 28 = .ok (.invokestatic 89, 3) := by decide +kernel
theorem dX9_undoes_31 : decode cX9_undoes 31 = .ok (.return_, 1) := by decide +kernel
theorem dX9_letters_0 : decode cX9_letters 0 = .ok (.iload_n 1, 1) := by decide +kernel
theorem dX9_letters_1 : decode cX9_letters 1 = .ok (.i2l, 1) := by decide +kernel
theorem dX9_letters_2 : decode cX9_letters 2 = .ok (.ldc2_w 95, 3) := by decide +kernel
theorem dX9_letters_5 : decode cX9_letters 5 = .ok (.ldc2_w 97, 3) := by decide +kernel
theorem dX9_letters_8 : decode cX9_letters 8 = .ok (.invokestatic 66, 3) := by decide +kernel
theorem dX9_letters_11 : decode cX9_letters 11 = .ok (.ifCond .ne 6, 3) := by decide +kernel
theorem dX9_letters_14 : decode cX9_letters 14 = .ok (.bipush (-2), 2) := by decide +kernel
theorem dX9_letters_16 : decode cX9_letters 16 = .ok (.ireturn, 1) := by decide +kernel
theorem dX9_letters_17 : decode cX9_letters 17 = .ok (.aload_n 0, 1) := by decide +kernel
theorem dX9_letters_18 : decode cX9_letters 18 = .ok (.getfield 11, 3) := by decide +kernel
theorem dX9_letters_21 : decode cX9_letters 21 = .ok (.iconst 0, 1) := by decide +kernel
theorem dX9_letters_22 : decode cX9_letters 22 = .ok (.iaload, 1) := by decide +kernel
theorem dX9_letters_23 : decode cX9_letters 23 = .ok (.istore_n 2, 1) := by decide +kernel
theorem dX9_letters_24 : decode cX9_letters 24 = .ok (.aload_n 0, 1) := by decide +kernel
theorem dX9_letters_25 : decode cX9_letters 25 = .ok (.iload_n 1, 1) := by decide +kernel
theorem dX9_letters_26 : decode cX9_letters 26 = .ok (.invokevirtual 62, 3) := by decide +kernel
theorem dX9_letters_29 : decode cX9_letters 29 = .ok (.iload_n 2, 1) := by decide +kernel
theorem dX9_letters_30 : decode cX9_letters 30 = .ok (.ireturn, 1) := by decide +kernel
theorem dX9_isCode_0 : decode cX9_isCode 0 = .ok (.iload_n 1, 1) := by decide +kernel
theorem dX9_isCode_1 : decode cX9_isCode 1 = .ok (.istore_n 2, 1) := by decide +kernel
theorem dX9_isCode_2 : decode cX9_isCode 2 = .ok (.iconst 0, 1) := by decide +kernel
theorem dX9_isCode_3 : decode cX9_isCode 3 = .ok (.istore_n 3, 1) := by decide +kernel
theorem dX9_isCode_4 : decode cX9_isCode 4 = .ok (.aload_n 0, 1) := by decide +kernel
theorem dX9_isCode_5 : decode cX9_isCode 5 = .ok (.getfield 11, 3) := by decide +kernel
theorem dX9_isCode_8 : decode cX9_isCode 8 = .ok (.iconst 0, 1) := by decide +kernel
theorem dX9_isCode_9 : decode cX9_isCode 9 = .ok (.iaload, 1) := by decide +kernel
theorem dX9_isCode_10 : decode cX9_isCode 10 = .ok (.iconst 1, 1) := by decide +kernel
theorem dX9_isCode_11 : decode cX9_isCode 11 = .ok (.isub, 1) := by decide +kernel
theorem dX9_isCode_12 : decode cX9_isCode 12 = .ok (.istore 4, 2) := by decide +kernel
theorem dX9_isCode_14 : decode cX9_isCode 14 = .ok (.iload 4, 2) := by decide +kernel
theorem dX9_isCode_16 : decode cX9_isCode 16 = .ok (.ifCond .lt 55, 3) := by decide +kernel
theorem dX9_isCode_19 : decode cX9_isCode 19 = .ok (.aload_n 0, 1) := by decide +kernel
theorem dX9_isCode_20 : decode cX9_isCode 20 = .ok (.getfield 21, 3) := by decide +kernel
theorem dX9_isCode_23 : decode cX9_isCode 23 = .ok (.iload 4, 2) := by decide +kernel
theorem dX9_isCode_25 : decode cX9_isCode 25 = .ok (.iload_n 2, 1) := by decide +kernel
theorem dX9_isCode_26 : decode cX9_isCode 26 = .ok (.bipush 10, 2) := by decide +kernel
theorem dX9_isCode_28 : decode cX9_isCode 28 = .ok (.irem, 1) := by decide +kernel
theorem dX9_isCode_29 : decode cX9_isCode 29 = .ok (.iconst 1, 1) := by decide +kernel
theorem dX9_isCode_30 : decode cX9_isCode 30 = .ok (.isub, 1) := by decide +kernel
theorem dX9_isCode_31 : decode cX9_isCode 31 = .ok (.iastore, 1) := by decide +kernel
theorem dX9_isCode_32 : decode cX9_isCode 32 = .ok (.iload_n 2, 1) := by decide +kernel
theorem dX9_isCode_33 : decode cX9_isCode 33 = .ok (.bipush 10, 2) := by decide +kernel
theorem dX9_isCode_35 : decode cX9_isCode 35 = .ok (.idiv, 1) := by decide +kernel
theorem dX9_isCode_36 : decode cX9_isCode 36 = .ok (.istore_n 2, 1) := by decide +kernel
theorem dX9_isCode_37 : decode cX9_isCode 37 = .ok (.aload_n 0, 1) := by decide +kernel
theorem dX9_isCode_38 : decode cX9_isCode 38 = .ok (.aload_n 0, 1) := by decide +kernel
theorem dX9_isCode_39 : decode cX9_isCode 39 = .ok (.getfield 21, 3) := by decide +kernel
theorem dX9_isCode_42 : decode cX9_isCode 42 = .ok (.iload 4, 2) := by decide +kernel
theorem dX9_isCode_44 : decode cX9_isCode 44 = .ok (.iaload, 1) := by decide +kernel
theorem dX9_isCode_45 : decode cX9_isCode 45 = .ok (.invokevirtual 99, 3) := by decide +kernel
theorem dX9_isCode_48 : decode cX9_isCode 48 = .ok (.ifCond .ne 5, 3) := by decide +kernel
theorem dX9_isCode_51 : decode cX9_isCode 51 = .ok (.iconst 0, 1) := by decide +kernel
theorem dX9_isCode_52 : decode cX9_isCode 52 = .ok (.ireturn, 1) := by decide +kernel
theorem dX9_isCode_53 : decode cX9_isCode 53 = .ok (.iload_n 3, 1) := by decide +kernel
theorem dX9_isCode_54 : decode cX9_isCode 54 = .ok (.iconst 1, 1) := by decide +kernel
theorem dX9_isCode_55 : decode cX9_isCode 55 = .ok (.aload_n 0, 1) := by decide +kernel
theorem dX9_isCode_56 : decode cX9_isCode 56 = .ok (.getfield 21, 3) := by decide +kernel
theorem dX9_isCode_59 : decode cX9_isCode 59 = .ok (.iload 4, 2) := by decide +kernel
theorem dX9_isCode_61 : decode cX9_isCode 61 = .ok (.iaload, 1) := by decide +kernel
theorem dX9_isCode_62 : decode cX9_isCode 62 = .ok (.ishl, 1) := by decide +kernel
theorem dX9_isCode_63 : decode cX9_isCode 63 = .ok (.ior, 1) := by decide +kernel
theorem dX9_isCode_64 : decode cX9_isCode 64 = .ok (.istore_n 3, 1) := by decide +kernel
theorem dX9_isCode_65 : decode cX9_isCode 65 = .ok (.iinc 4 (-1), 3) := by decide +kernel
theorem dX9_isCode_68 : decode cX9_isCode 68 = .ok (.goto (-54), 3) := by decide +kernel
theorem dX9_isCode_71 : decode cX9_isCode 71 = .ok (.iload_n 2, 1) := by decide +kernel
theorem dX9_isCode_72 : decode cX9_isCode 72 = .ok (.ifCond .ne 25, 3) := by decide +kernel
theorem dX9_isCode_75 : decode cX9_isCode 75 = .ok (.iload_n 1, 1) := by decide +kernel
theorem dX9_isCode_76 : decode cX9_isCode 76 = .ok (.ifCond .le 21, 3) := by decide +kernel
theorem dX9_isCode_79 : decode cX9_isCode 79 = .ok (.iload_n 3, 1) := by decide +kernel
theorem dX9_isCode_80 : decode cX9_isCode 80 = .ok (.iconst 1, 1) := by decide +kernel
theorem dX9_isCode_81 : decode cX9_isCode 81 = .ok (.aload_n 0, 1) := by decide +kernel
theorem dX9_isCode_82 : decode cX9_isCode 82 = .ok (.getfield 11, 3) := by decide +kernel
theorem dX9_isCode_85 : decode cX9_isCode 85 = .ok (.iconst 0, 1) := by decide +kernel
theorem dX9_isCode_86 : decode cX9_isCode 86 = .ok (.iaload, 1) := by decide +kernel
theorem dX9_isCode_87 : decode cX9_isCode 87 = .ok (.ishl, 1) := by decide +kernel
theorem dX9_isCode_88 : decode cX9_isCode 88 = .ok (.iconst 1, 1) := by decide +kernel
theorem dX9_isCode_89 : decode cX9_isCode 89 = .ok (.isub, 1) := by decide +kernel
theorem dX9_isCode_90 : decode cX9_isCode 90 = .ok (.if_icmp .ne 7, 3) := by decide +kernel
theorem dX9_isCode_93 : decode cX9_isCode 93 = .ok (.iconst 1, 1) := by decide +kernel
theorem dX9_isCode_94 : decode cX9_isCode 94 = .ok (.goto 4, 3) := by decide +kernel
theorem dX9_isCode_97 : decode cX9_isCode 97 = .ok (.iconst 0, 1) := by decide +kernel
theorem dX9_isCode_98 : decode cX9_isCode 98 = .ok (.ireturn, 1) := by decide +kernel
theorem dX9_bottom_0 : decode cX9_bottom 0 = .ok (.aload_n 0, 1) := by decide +kernel
theorem dX9_bottom_1 : decode cX9_bottom 1 = .ok (.iload_n 1, 1) := by decide +kernel
theorem dX9_bottom_2 : decode cX9_bottom 2 = .ok (.invokevirtual 103, 3) := by decide +kernel
theorem dX9_bottom_5 : decode cX9_bottom 5 = .ok (.ifCond .ne 6, 3) := by decide +kernel
theorem dX9_bottom_8 : decode cX9_bottom 8 = .ok (.bipush (-2), 2) := by decide +kernel
theorem dX9_bottom_10 : decode cX9_bottom 10 = .ok (.ireturn, 1) := by decide +kernel
theorem dX9_bottom_11 : decode cX9_bottom 11 = .ok (.iconst 0, 1) := by decide +kernel
theorem dX9_bottom_12 : decode cX9_bottom 12 = .ok (.istore_n 2, 1) := by decide +kernel
theorem dX9_bottom_13 : decode cX9_bottom 13 = .ok (.iload_n 2, 1) := by decide +kernel
theorem dX9_bottom_14 : decode cX9_bottom 14 = .ok (.aload_n 0, 1) := by decide +kernel
theorem dX9_bottom_15 : decode cX9_bottom 15 = .ok (.getfield 11, 3) := by decide +kernel
theorem dX9_bottom_18 : decode cX9_bottom 18 = .ok (.iconst 0, 1) := by decide +kernel
theorem dX9_bottom_19 : decode cX9_bottom 19 = .ok (.iaload, 1) := by decide +kernel
theorem dX9_bottom_20 : decode cX9_bottom 20 = .ok (.if_icmp .ge 33, 3) := by decide +kernel
theorem dX9_bottom_23 : decode cX9_bottom 23 = .ok (.aload_n 0, 1) := by decide +kernel
theorem dX9_bottom_24 : decode cX9_bottom 24 = .ok (.getfield 11, 3) := by decide +kernel
theorem dX9_bottom_27 : decode cX9_bottom 27 = .ok (.iconst 2, 1) := by decide +kernel
theorem dX9_bottom_28 : decode cX9_bottom 28 = .ok (.iload_n 2, 1) := by decide +kernel
theorem dX9_bottom_29 : decode cX9_bottom 29 = .ok (.iadd, 1) := by decide +kernel
theorem dX9_bottom_30 : decode cX9_bottom 30 = .ok (.iload_n 2, 1) := by decide +kernel
theorem dX9_bottom_31 : decode cX9_bottom 31 = .ok (.iastore, 1) := by decide +kernel
theorem dX9_bottom_32 : decode cX9_bottom 32 = .ok (.aload_n 0, 1) := by decide +kernel
theorem dX9_bottom_33 : decode cX9_bottom 33 = .ok (.getfield 11, 3) := by decide +kernel
theorem dX9_bottom_36 : decode cX9_bottom 36 = .ok (.bipush 7, 2) := by decide +kernel
theorem dX9_bottom_38 : decode cX9_bottom 38 = .ok (.iload_n 2, 1) := by decide +kernel
theorem dX9_bottom_39 : decode cX9_bottom 39 = .ok (.iadd, 1) := by decide +kernel
theorem dX9_bottom_40 : decode cX9_bottom 40 = .ok (.aload_n 0, 1) := by decide +kernel
theorem dX9_bottom_41 : decode cX9_bottom 41 = .ok (.getfield 21, 3) := by decide +kernel
theorem dX9_bottom_44 : decode cX9_bottom 44 = .ok (.iload_n 2, 1) := by decide +kernel
theorem dX9_bottom_45 : decode cX9_bottom 45 = .ok (.iaload, 1) := by decide +kernel
theorem dX9_bottom_46 : decode cX9_bottom 46 = .ok (.iastore, 1) := by decide +kernel
theorem dX9_bottom_47 : decode cX9_bottom 47 = .ok (.iinc 2 1, 3) := by decide +kernel
theorem dX9_bottom_50 : decode cX9_bottom 50 = .ok (.goto (-37), 3) := by decide +kernel
theorem dX9_bottom_53 : decode cX9_bottom 53 = .ok (.aload_n 0, 1) := by decide +kernel
theorem dX9_bottom_54 : decode cX9_bottom 54 = .ok (.iconst 0, 1) := by decide +kernel
theorem dX9_bottom_55 : decode cX9_bottom 55 = .ok (.putfield 70, 3) := by decide +kernel
theorem dX9_bottom_58 : decode cX9_bottom 58 = .ok (.iconst 1, 1) := by decide +kernel
theorem dX9_bottom_59 : decode cX9_bottom 59 = .ok (.ireturn, 1) := by decide +kernel
theorem dX9_length_0 : decode cX9_length 0 = .ok (.aload_n 0, 1) := by decide +kernel
theorem dX9_length_1 : decode cX9_length 1 = .ok (.iload_n 1, 1) := by decide +kernel
theorem dX9_length_2 : decode cX9_length 2 = .ok (.invokevirtual 99, 3) := by decide +kernel
theorem dX9_length_5 : decode cX9_length 5 = .ok (.ifCond .ne 5, 3) := by decide +kernel
theorem dX9_length_8 : decode cX9_length 8 = .ok (.iconst (-1), 1) := by decide +kernel
theorem dX9_length_9 : decode cX9_length 9 = .ok (.ireturn, 1) := by decide +kernel
theorem dX9_length_10 : decode cX9_length 10 = .ok (.iload_n 2, 1) := by decide +kernel
theorem dX9_length_11 : decode cX9_length 11 = .ok (.i2l, 1) := by decide +kernel
theorem dX9_length_12 : decode cX9_length 12 = .ok (.lconst 1, 1) := by decide +kernel
theorem dX9_length_13 : decode cX9_length 13 = .ok (.ldc2_w 106, 3) := by decide +kernel
theorem dX9_length_16 : decode cX9_length 16 = .ok (.invokestatic 66, 3) := by decide +kernel
theorem dX9_length_19 : decode cX9_length 19 = .ok (.ifCond .ne 6, 3) := by decide +kernel
theorem dX9_length_22 : decode cX9_length 22 = .ok (.bipush (-2), 2) := by decide +kernel
theorem dX9_length_24 : decode cX9_length 24 = .ok (.ireturn, 1) := by decide +kernel
theorem dX9_length_25 : decode cX9_length 25 = .ok (.aload_n 0, 1) := by decide +kernel
theorem dX9_length_26 : decode cX9_length 26 = .ok (.invokevirtual 108, 3) := by decide +kernel
theorem dX9_length_29 : decode cX9_length 29 = .ok (.aload_n 0, 1) := by decide +kernel
theorem dX9_length_30 : decode cX9_length 30 = .ok (.getfield 11, 3) := by decide +kernel
theorem dX9_length_33 : decode cX9_length 33 = .ok (.bipush 12, 2) := by decide +kernel
theorem dX9_length_35 : decode cX9_length 35 = .ok (.iload_n 1, 1) := by decide +kernel
theorem dX9_length_36 : decode cX9_length 36 = .ok (.iadd, 1) := by decide +kernel
theorem dX9_length_37 : decode cX9_length 37 = .ok (.iaload, 1) := by decide +kernel
theorem dX9_length_38 : decode cX9_length 38 = .ok (.istore_n 3, 1) := by decide +kernel
theorem dX9_length_39 : decode cX9_length 39 = .ok (.aload_n 0, 1) := by decide +kernel
theorem dX9_length_40 : decode cX9_length 40 = .ok (.getfield 11, 3) := by decide +kernel
theorem dX9_length_43 : decode cX9_length 43 = .ok (.bipush 12, 2) := by decide +kernel
theorem dX9_length_45 : decode cX9_length 45 = .ok (.iload_n 1, 1) := by decide +kernel
theorem dX9_length_46 : decode cX9_length 46 = .ok (.iadd, 1) := by decide +kernel
theorem dX9_length_47 : decode cX9_length 47 = .ok (.iload_n 2, 1) := by decide +kernel
theorem dX9_length_48 : decode cX9_length 48 = .ok (.iastore, 1) := by decide +kernel
theorem dX9_length_49 : decode cX9_length 49 = .ok (.iload_n 3, 1) := by decide +kernel
theorem dX9_length_50 : decode cX9_length 50 = .ok (.ireturn, 1) := by decide +kernel
theorem dX9_swap_0 : decode cX9_swap 0 = .ok (.aload_n 0, 1) := by decide +kernel
theorem dX9_swap_1 : decode cX9_swap 1 = .ok (.iload_n 1, 1) := by decide +kernel
theorem dX9_swap_2 : decode cX9_swap 2 = .ok (.invokevirtual 99, 3) := by decide +kernel
theorem dX9_swap_5 : decode cX9_swap 5 = .ok (.ifCond .eq 16, 3) := by decide +kernel
theorem dX9_swap_8 : decode cX9_swap 8 = .ok (.aload_n 0, 1) := by decide +kernel
theorem dX9_swap_9 : decode cX9_swap 9 = .ok (.iload_n 2, 1) := by decide +kernel
theorem dX9_swap_10 : decode cX9_swap 10 = .ok (.invokevirtual 99, 3) := by decide +kernel
theorem dX9_swap_13 : decode cX9_swap 13 = .ok (.ifCond .eq 8, 3) := by decide +kernel
theorem dX9_swap_16 : decode cX9_swap 16 = .ok (.iload_n 1, 1) := by decide +kernel
theorem dX9_swap_17 : decode cX9_swap 17 = .ok (.iload_n 2, 1) := by decide +kernel
theorem dX9_swap_18 : decode cX9_swap 18 = .ok (.if_icmp .ne 5, 3) := by decide +kernel
theorem dX9_swap_21 : decode cX9_swap 21 = .ok (.iconst (-1), 1) := by decide +kernel
theorem dX9_swap_22 : decode cX9_swap 22 = .ok (.ireturn, 1) := by decide +kernel
theorem dX9_swap_23 : decode cX9_swap 23 = .ok (.aload_n 0, 1) := by decide +kernel
theorem dX9_swap_24 : decode cX9_swap 24 = .ok (.invokevirtual 108, 3) := by decide +kernel
theorem dX9_swap_27 : decode cX9_swap 27 = .ok (.aload_n 0, 1) := by decide +kernel
theorem dX9_swap_28 : decode cX9_swap 28 = .ok (.bipush 7, 2) := by decide +kernel
theorem dX9_swap_30 : decode cX9_swap 30 = .ok (.iload_n 1, 1) := by decide +kernel
theorem dX9_swap_31 : decode cX9_swap 31 = .ok (.invokevirtual 78, 3) := by decide +kernel
theorem dX9_swap_34 : decode cX9_swap 34 = .ok (.istore_n 3, 1) := by decide +kernel
theorem dX9_swap_35 : decode cX9_swap 35 = .ok (.aload_n 0, 1) := by decide +kernel
theorem dX9_swap_36 : decode cX9_swap 36 = .ok (.bipush 7, 2) := by decide +kernel
theorem dX9_swap_38 : decode cX9_swap 38 = .ok (.iload_n 2, 1) := by decide +kernel
theorem dX9_swap_39 : decode cX9_swap 39 = .ok (.invokevirtual 78, 3) := by decide +kernel
theorem dX9_swap_42 : decode cX9_swap 42 = .ok (.istore 4, 2) := by decide +kernel
theorem dX9_swap_44 : decode cX9_swap 44 = .ok (.aload_n 0, 1) := by decide +kernel
theorem dX9_swap_45 : decode cX9_swap 45 = .ok (.getfield 11, 3) := by decide +kernel
theorem dX9_swap_48 : decode cX9_swap 48 = .ok (.bipush 7, 2) := by decide +kernel
theorem dX9_swap_50 : decode cX9_swap 50 = .ok (.iload_n 3, 1) := by decide +kernel
theorem dX9_swap_51 : decode cX9_swap 51 = .ok (.iadd, 1) := by decide +kernel
theorem dX9_swap_52 : decode cX9_swap 52 = .ok (.iload_n 2, 1) := by decide +kernel
theorem dX9_swap_53 : decode cX9_swap 53 = .ok (.iastore, 1) := by decide +kernel
theorem dX9_swap_54 : decode cX9_swap 54 = .ok (.aload_n 0, 1) := by decide +kernel
theorem dX9_swap_55 : decode cX9_swap 55 = .ok (.getfield 11, 3) := by decide +kernel
theorem dX9_swap_58 : decode cX9_swap 58 = .ok (.bipush 7, 2) := by decide +kernel
theorem dX9_swap_60 : decode cX9_swap 60 = .ok (.iload 4, 2) := by decide +kernel
theorem dX9_swap_62 : decode cX9_swap 62 = .ok (.iadd, 1) := by decide +kernel
theorem dX9_swap_63 : decode cX9_swap 63 = .ok (.iload_n 1, 1) := by decide +kernel
theorem dX9_swap_64 : decode cX9_swap 64 = .ok (.iastore, 1) := by decide +kernel
theorem dX9_swap_65 : decode cX9_swap 65 = .ok (.iconst 1, 1) := by decide +kernel
theorem dX9_swap_66 : decode cX9_swap 66 = .ok (.ireturn, 1) := by decide +kernel
theorem dX9_step_0 : decode cX9_step 0 = .ok (.aload_n 0, 1) := by decide +kernel
theorem dX9_step_1 : decode cX9_step 1 = .ok (.invokevirtual 111, 3) := by decide +kernel
theorem dX9_step_4 : decode cX9_step 4 = .ok (.istore_n 1, 1) := by decide +kernel
theorem dX9_step_5 : decode cX9_step 5 = .ok (.iload_n 1, 1) := by decide +kernel
theorem dX9_step_6 : decode cX9_step 6 = .ok (.iconst (-1), 1) := by decide +kernel
theorem dX9_step_7 : decode cX9_step 7 = .ok (.if_icmp .ne 6, 3) := by decide +kernel
theorem dX9_step_10 : decode cX9_step 10 = .ok (.bipush (-3), 2) := by decide +kernel
theorem dX9_step_12 : decode cX9_step 12 = .ok (.ireturn, 1) := by decide +kernel
theorem dX9_step_13 : decode cX9_step 13 = .ok (.aload_n 0, 1) := by decide +kernel
theorem dX9_step_14 : decode cX9_step 14 = .ok (.invokevirtual 108, 3) := by decide +kernel
theorem dX9_step_17 : decode cX9_step 17 = .ok (.aload_n 0, 1) := by decide +kernel
theorem dX9_step_18 : decode cX9_step 18 = .ok (.iload_n 1, 1) := by decide +kernel
theorem dX9_step_19 : decode cX9_step 19 = .ok (.invokevirtual 115, 3) := by decide +kernel
theorem dX9_step_22 : decode cX9_step 22 = .ok (.iload_n 1, 1) := by decide +kernel
theorem dX9_step_23 : decode cX9_step 23 = .ok (.ireturn, 1) := by decide +kernel
theorem dX9_back_0 : decode cX9_back 0 = .ok (.iload_n 1, 1) := by decide +kernel
theorem dX9_back_1 : decode cX9_back 1 = .ok (.i2l, 1) := by decide +kernel
theorem dX9_back_2 : decode cX9_back 2 = .ok (.lconst 0, 1) := by decide +kernel
theorem dX9_back_3 : decode cX9_back 3 = .ok (.lconst 1, 1) := by decide +kernel
theorem dX9_back_4 : decode cX9_back 4 = .ok (.invokestatic 66, 3) := by decide +kernel
theorem dX9_back_7 : decode cX9_back 7 = .ok (.ifCond .ne 5, 3) := by decide +kernel
theorem dX9_back_10 : decode cX9_back 10 = .ok (.iconst (-1), 1) := by decide +kernel
theorem dX9_back_11 : decode cX9_back 11 = .ok (.ireturn, 1) := by decide +kernel
theorem dX9_back_12 : decode cX9_back 12 = .ok (.aload_n 0, 1) := by decide +kernel
theorem dX9_back_13 : decode cX9_back 13 = .ok (.iload_n 1, 1) := by decide +kernel
theorem dX9_back_14 : decode cX9_back 14 = .ok (.ifCond .ne 7, 3) := by decide +kernel
theorem dX9_back_17 : decode cX9_back 17 = .ok (.iconst 2, 1) := by decide +kernel
theorem dX9_back_18 : decode cX9_back 18 = .ok (.goto 5, 3) := by decide +kernel
theorem dX9_back_21 : decode cX9_back 21 = .ok (.bipush 7, 2) := by decide +kernel
theorem dX9_back_23 : decode cX9_back 23 = .ok (.invokevirtual 74, 3) := by decide +kernel
theorem dX9_back_26 : decode cX9_back 26 = .ok (.istore_n 2, 1) := by decide +kernel
theorem dX9_back_27 : decode cX9_back 27 = .ok (.iload_n 1, 1) := by decide +kernel
theorem dX9_back_28 : decode cX9_back 28 = .ok (.ifCond .ne 8, 3) := by decide +kernel
theorem dX9_back_31 : decode cX9_back 31 = .ok (.bipush 7, 2) := by decide +kernel
theorem dX9_back_33 : decode cX9_back 33 = .ok (.goto 4, 3) := by decide +kernel
theorem dX9_back_36 : decode cX9_back 36 = .ok (.iconst 2, 1) := by decide +kernel
theorem dX9_back_37 : decode cX9_back 37 = .ok (.istore_n 3, 1) := by decide +kernel
theorem dX9_back_38 : decode cX9_back 38 = .ok (.aload_n 0, 1) := by decide +kernel
theorem dX9_back_39 : decode cX9_back 39 = .ok (.iload_n 3, 1) := by decide +kernel
theorem dX9_back_40 : decode cX9_back 40 = .ok (.iload_n 2, 1) := by decide +kernel
theorem dX9_back_41 : decode cX9_back 41 = .ok (.invokevirtual 78, 3) := by decide +kernel
theorem dX9_back_44 : decode cX9_back 44 = .ok (.istore 4, 2) := by decide +kernel
theorem dX9_back_46 : decode cX9_back 46 = .ok (.iload 4, 2) := by decide +kernel
theorem dX9_back_48 : decode cX9_back 48 = .ok (.iconst 1, 1) := by decide +kernel
theorem dX9_back_49 : decode cX9_back 49 = .ok (.iadd, 1) := by decide +kernel
theorem dX9_back_50 : decode cX9_back 50 = .ok (.aload_n 0, 1) := by decide +kernel
theorem dX9_back_51 : decode cX9_back 51 = .ok (.getfield 11, 3) := by decide +kernel
theorem dX9_back_54 : decode cX9_back 54 = .ok (.iconst 0, 1) := by decide +kernel
theorem dX9_back_55 : decode cX9_back 55 = .ok (.iaload, 1) := by decide +kernel
theorem dX9_back_56 : decode cX9_back 56 = .ok (.if_icmp .ne 6, 3) := by decide +kernel
theorem dX9_back_59 : decode cX9_back 59 = .ok (.bipush (-3), 2) := by decide +kernel
theorem dX9_back_61 : decode cX9_back 61 = .ok (.ireturn, 1) := by decide +kernel
theorem dX9_back_62 : decode cX9_back 62 = .ok (.aload_n 0, 1) := by decide +kernel
theorem dX9_back_63 : decode cX9_back 63 = .ok (.getfield 11, 3) := by decide +kernel
theorem dX9_back_66 : decode cX9_back 66 = .ok (.bipush 12, 2) := by decide +kernel
theorem dX9_back_68 : decode cX9_back 68 = .ok (.iload_n 2, 1) := by decide +kernel
theorem dX9_back_69 : decode cX9_back 69 = .ok (.iadd, 1) := by decide +kernel
theorem dX9_back_70 : decode cX9_back 70 = .ok (.iaload, 1) := by decide +kernel
theorem dX9_back_71 : decode cX9_back 71 = .ok (.aload_n 0, 1) := by decide +kernel
theorem dX9_back_72 : decode cX9_back 72 = .ok (.getfield 11, 3) := by decide +kernel
theorem dX9_back_75 : decode cX9_back 75 = .ok (.bipush 12, 2) := by decide +kernel
theorem dX9_back_77 : decode cX9_back 77 = .ok (.aload_n 0, 1) := by decide +kernel
theorem dX9_back_78 : decode cX9_back 78 = .ok (.getfield 11, 3) := by decide +kernel
theorem dX9_back_81 : decode cX9_back 81 = .ok (.iload_n 3, 1) := by decide +kernel
theorem dX9_back_82 : decode cX9_back 82 = .ok (.iload 4, 2) := by decide +kernel
theorem dX9_back_84 : decode cX9_back 84 = .ok (.iadd, 1) := by decide +kernel
theorem dX9_back_85 : decode cX9_back 85 = .ok (.iconst 1, 1) := by decide +kernel
theorem dX9_back_86 : decode cX9_back 86 = .ok (.iadd, 1) := by decide +kernel
theorem dX9_back_87 : decode cX9_back 87 = .ok (.iaload, 1) := by decide +kernel
theorem dX9_back_88 : decode cX9_back 88 = .ok (.iadd, 1) := by decide +kernel
theorem dX9_back_89 : decode cX9_back 89 = .ok (.iaload, 1) := by decide +kernel
theorem dX9_back_90 : decode cX9_back 90 = .ok (.iadd, 1) := by decide +kernel
theorem dX9_back_91 : decode cX9_back 91 = .ok (.bipush 99, 2) := by decide +kernel
theorem dX9_back_93 : decode cX9_back 93 = .ok (.if_icmp .le 6, 3) := by decide +kernel
theorem dX9_back_96 : decode cX9_back 96 = .ok (.bipush (-2), 2) := by decide +kernel
theorem dX9_back_98 : decode cX9_back 98 = .ok (.ireturn, 1) := by decide +kernel
theorem dX9_back_99 : decode cX9_back 99 = .ok (.aload_n 0, 1) := by decide +kernel
theorem dX9_back_100 : decode cX9_back 100 = .ok (.invokevirtual 108, 3) := by decide +kernel
theorem dX9_back_103 : decode cX9_back 103 = .ok (.aload_n 0, 1) := by decide +kernel
theorem dX9_back_104 : decode cX9_back 104 = .ok (.iload_n 1, 1) := by decide +kernel
theorem dX9_back_105 : decode cX9_back 105 = .ok (.invokevirtual 118, 3) := by decide +kernel
theorem dX9_back_108 : decode cX9_back 108 = .ok (.istore 5, 2) := by decide +kernel
theorem dX9_back_110 : decode cX9_back 110 = .ok (.aload_n 0, 1) := by decide +kernel
theorem dX9_back_111 : decode cX9_back 111 = .ok (.invokevirtual 121, 3) := by decide +kernel
theorem dX9_back_114 : decode cX9_back 114 = .ok (.ireturn, 1) := by decide +kernel
theorem dX9_takeBack_0 : decode cX9_takeBack 0 = .ok (.aload_n 0, 1) := by decide +kernel
theorem dX9_takeBack_1 : decode cX9_takeBack 1 = .ok (.getfield 70, 3) := by decide +kernel
theorem dX9_takeBack_4 : decode cX9_takeBack 4 = .ok (.ifCond .ne 6, 3) := by decide +kernel
theorem dX9_takeBack_7 : decode cX9_takeBack 7 = .ok (.bipush (-3), 2) := by decide +kernel
theorem dX9_takeBack_9 : decode cX9_takeBack 9 = .ok (.ireturn, 1) := by decide +kernel
theorem dX9_takeBack_10 : decode cX9_takeBack 10 = .ok (.aload_n 0, 1) := by decide +kernel
theorem dX9_takeBack_11 : decode cX9_takeBack 11 = .ok (.invokevirtual 124, 3) := by decide +kernel
theorem dX9_takeBack_14 : decode cX9_takeBack 14 = .ok (.aload_n 0, 1) := by decide +kernel
theorem dX9_takeBack_15 : decode cX9_takeBack 15 = .ok (.getfield 70, 3) := by decide +kernel
theorem dX9_takeBack_18 : decode cX9_takeBack 18 = .ok (.ireturn, 1) := by decide +kernel
theorem dX9_keep_0 : decode cX9_keep 0 = .ok (.aload_n 0, 1) := by decide +kernel
theorem dX9_keep_1 : decode cX9_keep 1 = .ok (.getfield 11, 3) := by decide +kernel
theorem dX9_keep_4 : decode cX9_keep 4 = .ok (.iconst 1, 1) := by decide +kernel
theorem dX9_keep_5 : decode cX9_keep 5 = .ok (.aload_n 0, 1) := by decide +kernel
theorem dX9_keep_6 : decode cX9_keep 6 = .ok (.invokevirtual 127, 3) := by decide +kernel
theorem dX9_keep_9 : decode cX9_keep 9 = .ok (.iastore, 1) := by decide +kernel
theorem dX9_keep_10 : decode cX9_keep 10 = .ok (.aload_n 0, 1) := by decide +kernel
theorem dX9_keep_11 : decode cX9_keep 11 = .ok (.getfield 11, 3) := by decide +kernel
theorem dX9_keep_14 : decode cX9_keep 14 = .ok (.iconst 1, 1) := by decide +kernel
theorem dX9_keep_15 : decode cX9_keep 15 = .ok (.iaload, 1) := by decide +kernel
theorem dX9_keep_16 : decode cX9_keep 16 = .ok (.ireturn, 1) := by decide +kernel
theorem dX9_feed_0 : decode cX9_feed 0 = .ok (.iload_n 1, 1) := by decide +kernel
theorem dX9_feed_1 : decode cX9_feed 1 = .ok (.i2l, 1) := by decide +kernel
theorem dX9_feed_2 : decode cX9_feed 2 = .ok (.lconst 0, 1) := by decide +kernel
theorem dX9_feed_3 : decode cX9_feed 3 = .ok (.ldc2_w 130, 3) := by decide +kernel
theorem dX9_feed_6 : decode cX9_feed 6 = .ok (.invokestatic 66, 3) := by decide +kernel
theorem dX9_feed_9 : decode cX9_feed 9 = .ok (.ifCond .ne 6, 3) := by decide +kernel
theorem dX9_feed_12 : decode cX9_feed 12 = .ok (.bipush (-2), 2) := by decide +kernel
theorem dX9_feed_14 : decode cX9_feed 14 = .ok (.ireturn, 1) := by decide +kernel
theorem dX9_feed_15 : decode cX9_feed 15 = .ok (.aload_n 0, 1) := by decide +kernel
theorem dX9_feed_16 : decode cX9_feed 16 = .ok (.getfield 132, 3) := by decide +kernel
theorem dX9_feed_19 : decode cX9_feed 19 = .ok (.bipush 100, 2) := by decide +kernel
theorem dX9_feed_21 : decode cX9_feed 21 = .ok (.if_icmp .ne 6, 3) := by decide +kernel
theorem dX9_feed_24 : decode cX9_feed 24 = .ok (.bipush (-4), 2) := by decide +kernel
theorem dX9_feed_26 : decode cX9_feed 26 = .ok (.ireturn, 1) := by decide +kernel
theorem dX9_feed_27 : decode cX9_feed 27 = .ok (.aload_n 0, 1) := by decide +kernel
theorem dX9_feed_28 : decode cX9_feed 28 = .ok (.getfield 24, 3) := by decide +kernel
theorem dX9_feed_31 : decode cX9_feed 31 = .ok (.aload_n 0, 1) := by decide +kernel
theorem dX9_feed_32 : decode cX9_feed 32 = .ok (.getfield 132, 3) := by decide +kernel
theorem dX9_feed_35 : decode cX9_feed 35 = .ok (.iload_n 1, 1) := by decide +kernel
theorem dX9_feed_36 : decode cX9_feed 36 = .ok (.iastore, 1) := by decide +kernel
theorem dX9_feed_37 : decode cX9_feed 37 = .ok (.aload_n 0, 1) := by decide +kernel
theorem dX9_feed_38 : decode cX9_feed 38 = .ok (.dup, 1) := by decide +kernel
theorem dX9_feed_39 : decode cX9_feed 39 = .ok (.getfield 132, 3) := by decide +kernel
theorem dX9_feed_42 : decode cX9_feed 42 = .ok (.iconst 1, 1) := by decide +kernel
theorem dX9_feed_43 : decode cX9_feed 43 = .ok (.iadd, 1) := by decide +kernel
theorem dX9_feed_44 : decode cX9_feed 44 = .ok (.putfield 132, 3) := by decide +kernel
theorem dX9_feed_47 : decode cX9_feed 47 = .ok (.aload_n 0, 1) := by decide +kernel
theorem dX9_feed_48 : decode cX9_feed 48 = .ok (.getfield 132, 3) := by decide +kernel
theorem dX9_feed_51 : decode cX9_feed 51 = .ok (.ireturn, 1) := by decide +kernel
theorem dX9_isDigit_0 : decode cX9_isDigit 0 = .ok (.aload_n 0, 1) := by decide +kernel
theorem dX9_isDigit_1 : decode cX9_isDigit 1 = .ok (.getfield 135, 3) := by decide +kernel
theorem dX9_isDigit_4 : decode cX9_isDigit 4 = .ok (.aload_n 0, 1) := by decide +kernel
theorem dX9_isDigit_5 : decode cX9_isDigit 5 = .ok (.getfield 132, 3) := by decide +kernel
theorem dX9_isDigit_8 : decode cX9_isDigit 8 = .ok (.if_icmp .ge 29, 3) := by decide +kernel
theorem dX9_isDigit_11 : decode cX9_isDigit 11 = .ok (.aload_n 0, 1) := by decide +kernel
theorem dX9_isDigit_12 : decode cX9_isDigit 12 = .ok (.getfield 24, 3) := by decide +kernel
theorem dX9_isDigit_15 : decode cX9_isDigit 15 = .ok (.aload_n 0, 1) := by decide +kernel
theorem dX9_isDigit_16 : decode cX9_isDigit 16 = .ok (.getfield 135, 3) := by decide +kernel
theorem dX9_isDigit_19 : decode cX9_isDigit 19 = .ok (.iaload, 1) := by decide +kernel
theorem dX9_isDigit_20 : decode cX9_isDigit 20 = .ok (.i2l, 1) := by decide +kernel
theorem dX9_isDigit_21 : decode cX9_isDigit 21 = .ok (.ldc2_w 138, 3) := by decide +kernel
theorem dX9_isDigit_24 : decode cX9_isDigit 24 = .ok (.ldc2_w 140, 3) := by decide +kernel
theorem dX9_isDigit_27 : decode cX9_isDigit 27 = .ok (.invokestatic 66, 3) := by decide +kernel
theorem dX9_isDigit_30 : decode cX9_isDigit 30 = .ok (.ifCond .eq 7, 3) := by decide +kernel
theorem dX9_isDigit_33 : decode cX9_isDigit 33 = .ok (.iconst 1, 1) := by decide +kernel
theorem dX9_isDigit_34 : decode cX9_isDigit 34 = .ok (.goto 4, 3) := by decide +kernel
theorem dX9_isDigit_37 : decode cX9_isDigit 37 = .ok (.iconst 0, 1) := by decide +kernel
theorem dX9_isDigit_38 : decode cX9_isDigit 38 = .ok (.ireturn, 1) := by decide +kernel
theorem dX9_digitsTold_0 : decode cX9_digitsTold 0 = .ok (.aload_n 0, 1) := by decide +kernel
theorem dX9_digitsTold_1 : decode cX9_digitsTold 1 = .ok (.getfield 135, 3) := by decide +kernel
theorem dX9_digitsTold_4 : decode cX9_digitsTold 4 = .ok (.istore_n 2, 1) := by decide +kernel
theorem dX9_digitsTold_5 : decode cX9_digitsTold 5 = .ok (.iconst 0, 1) := by decide +kernel
theorem dX9_digitsTold_6 : decode cX9_digitsTold 6 = .ok (.istore_n 3, 1) := by decide +kernel
theorem dX9_digitsTold_7 : decode cX9_digitsTold 7 = .ok (.aload_n 0, 1) := by decide +kernel
theorem dX9_digitsTold_8 : decode cX9_digitsTold 8 = .ok (.invokevirtual 142, 3) := by decide +kernel
theorem dX9_digitsTold_11 : decode cX9_digitsTold 11 = .ok (.ifCond .eq 44, 3) := by decide +kernel
theorem dX9_digitsTold_14 : decode cX9_digitsTold 14 = .ok (.aload_n 0, 1) := by decide +kernel
theorem dX9_digitsTold_15 : decode cX9_digitsTold 15 = .ok (.getfield 135, 3) := by decide +kernel
theorem dX9_digitsTold_18 : decode cX9_digitsTold 18 = .ok (.iload_n 2, 1) := by decide +kernel
theorem dX9_digitsTold_19 : decode cX9_digitsTold 19 = .ok (.iload_n 1, 1) := by decide +kernel
theorem dX9_digitsTold_20 : decode cX9_digitsTold 20 = .ok (.iadd, 1) := by decide +kernel
theorem dX9_digitsTold_21 : decode cX9_digitsTold 21 = .ok (.if_icmp .ge 34, 3) := by decide +kernel
theorem dX9_digitsTold_24 : decode cX9_digitsTold 24 = .ok (.bipush 10, 2) := by decide +kernel
theorem dX9_digitsTold_26 : decode cX9_digitsTold 26 = .ok (.iload_n 3, 1) := by decide +kernel
theorem dX9_digitsTold_27 : decode cX9_digitsTold 27 = .ok (.imul, 1) := by decide +kernel
theorem dX9_digitsTold_28 : decode cX9_digitsTold 28 = .ok (.aload_n 0, 1) := by decide +kernel
theorem dX9_digitsTold_29 : decode cX9_digitsTold 29 = .ok (.getfield 24, 3) := by decide +kernel
theorem dX9_digitsTold_32 : decode cX9_digitsTold 32 = .ok (.aload_n 0, 1) := by decide +kernel
theorem dX9_digitsTold_33 : decode cX9_digitsTold 33 = .ok (.getfield 135, 3) := by decide +kernel
theorem dX9_digitsTold_36 : decode cX9_digitsTold 36 = .ok (.iaload, 1) := by decide +kernel
theorem dX9_digitsTold_37 : decode cX9_digitsTold 37 = .ok (.iadd, 1) := by decide +kernel
theorem dX9_digitsTold_38 : decode cX9_digitsTold 38 = .ok (.bipush 48, 2) := by decide +kernel
theorem dX9_digitsTold_40 : decode cX9_digitsTold 40 = .ok (.isub, 1) := by decide +kernel
theorem dX9_digitsTold_41 : decode cX9_digitsTold 41 = .ok (.istore_n 3, 1) := by decide +kernel
theorem dX9_digitsTold_42 : decode cX9_digitsTold 42 = .ok (.aload_n 0, 1) := by decide +kernel
theorem dX9_digitsTold_43 : decode cX9_digitsTold 43 = .ok (.dup, 1) := by decide +kernel
theorem dX9_digitsTold_44 : decode cX9_digitsTold 44 = .ok (.getfield 135, 3) := by decide +kernel
theorem dX9_digitsTold_47 : decode cX9_digitsTold 47 = .ok (.iconst 1, 1) := by decide +kernel
theorem dX9_digitsTold_48 : decode cX9_digitsTold 48 = .ok (.iadd, 1) := by decide +kernel
theorem dX9_digitsTold_49 : decode cX9_digitsTold 49 = .ok (.putfield 135, 3) := by decide +kernel
theorem dX9_digitsTold_52 : decode cX9_digitsTold 52 = .ok (.goto (-45), 3) := by decide +kernel
theorem dX9_digitsTold_55 : decode cX9_digitsTold 55 = .ok (.aload_n 0, 1) := by decide +kernel
theorem dX9_digitsTold_56 : decode cX9_digitsTold 56 = .ok (.getfield 135, 3) := by decide +kernel
theorem dX9_digitsTold_59 : decode cX9_digitsTold 59 = .ok (.iload_n 2, 1) := by decide +kernel
theorem dX9_digitsTold_60 : decode cX9_digitsTold 60 = .ok (.if_icmp .ne 18, 3) := by decide +kernel
theorem dX9_digitsTold_63 : decode cX9_digitsTold 63 = .ok (.aload_n 0, 1) := by decide +kernel
theorem dX9_digitsTold_64 : decode cX9_digitsTold 64 = .ok (.getfield 146, 3) := by decide +kernel
theorem dX9_digitsTold_67 : decode cX9_digitsTold 67 = .ok (.ifCond .ge 11, 3) := by decide +kernel
theorem dX9_digitsTold_70 : decode cX9_digitsTold 70 = .ok (.aload_n 0, 1) := by decide +kernel
theorem dX9_digitsTold_71 : decode cX9_digitsTold 71 = .ok (.aload_n 0, 1) := by decide +kernel
theorem dX9_digitsTold_72 : decode cX9_digitsTold 72 = .ok (.getfield 135, 3) := by decide +kernel
theorem dX9_digitsTold_75 : decode cX9_digitsTold 75 = .ok (.putfield 146, 3) := by decide +kernel
theorem dX9_digitsTold_78 : decode cX9_digitsTold 78 = .ok (.iload_n 3, 1) := by decide +kernel
theorem dX9_digitsTold_79 : decode cX9_digitsTold 79 = .ok (.ireturn, 1) := by decide +kernel
theorem dX9_clause_0 : decode cX9_clause 0 = .ok (.aload_n 0, 1) := by decide +kernel
theorem dX9_clause_1 : decode cX9_clause 1 = .ok (.getfield 135, 3) := by decide +kernel
theorem dX9_clause_4 : decode cX9_clause 4 = .ok (.aload_n 0, 1) := by decide +kernel
theorem dX9_clause_5 : decode cX9_clause 5 = .ok (.getfield 132, 3) := by decide +kernel
theorem dX9_clause_8 : decode cX9_clause 8 = .ok (.if_icmp .ge 15, 3) := by decide +kernel
theorem dX9_clause_11 : decode cX9_clause 11 = .ok (.aload_n 0, 1) := by decide +kernel
theorem dX9_clause_12 : decode cX9_clause 12 = .ok (.getfield 24, 3) := by decide +kernel
theorem dX9_clause_15 : decode cX9_clause 15 = .ok (.aload_n 0, 1) := by decide +kernel
theorem dX9_clause_16 : decode cX9_clause 16 = .ok (.getfield 135, 3) := by decide +kernel
theorem dX9_clause_19 : decode cX9_clause 19 = .ok (.iaload, 1) := by decide +kernel
theorem dX9_clause_20 : decode cX9_clause 20 = .ok (.goto 4, 3) := by decide +kernel
theorem dX9_clause_23 : decode cX9_clause 23 = .ok (.iconst (-1), 1) := by decide +kernel
theorem dX9_clause_24 : decode cX9_clause 24 = .ok (.istore_n 1, 1) := by decide +kernel
theorem dX9_clause_25 : decode cX9_clause 25 = .ok (.iload_n 1, 1) := by decide +kernel
theorem dX9_clause_26 : decode cX9_clause 26 = .ok (.tableswitch 255 98 119 #[115, 255, 255, 255, 255, 255, 255, 255, 255, 102, 163, 255, 115, 255, 255, 255, 139, 102, 255, 102, 255, 209], 102) := by decide +kernel
theorem dX9_clause_128 : decode cX9_clause 128 = .ok (.aload_n 0, 1) := by decide +kernel
theorem dX9_clause_129 : decode cX9_clause 129 = .ok (.dup, 1) := by decide +kernel
theorem dX9_clause_130 : decode cX9_clause 130 = .ok (.getfield 135, 3) := by decide +kernel
theorem dX9_clause_133 : decode cX9_clause 133 = .ok (.iconst 1, 1) := by decide +kernel
theorem dX9_clause_134 : decode cX9_clause 134 = .ok (.iadd, 1) := by decide +kernel
theorem dX9_clause_135 : decode cX9_clause 135 = .ok (.putfield 135, 3) := by decide +kernel
theorem dX9_clause_138 : decode cX9_clause 138 = .ok (.goto 151, 3) := by decide +kernel
theorem dX9_clause_141 : decode cX9_clause 141 = .ok (.aload_n 0, 1) := by decide +kernel
theorem dX9_clause_142 : decode cX9_clause 142 = .ok (.dup, 1) := by decide +kernel
theorem dX9_clause_143 : decode cX9_clause 143 = .ok (.getfield 135, 3) := by decide +kernel
theorem dX9_clause_146 : decode cX9_clause 146 = .ok (.iconst 1, 1) := by decide +kernel
theorem dX9_clause_147 : decode cX9_clause 147 = .ok (.iadd, 1) := by decide +kernel
theorem dX9_clause_148 : decode cX9_clause 148 = .ok (.putfield 135, 3) := by decide +kernel
theorem dX9_clause_151 : decode cX9_clause 151 = .ok (.aload_n 0, 1) := by decide +kernel
theorem dX9_clause_152 : decode cX9_clause 152 = .ok (.getfield 27, 3) := by decide +kernel
theorem dX9_clause_155 : decode cX9_clause 155 = .ok (.iconst 0, 1) := by decide +kernel
theorem dX9_clause_156 : decode cX9_clause 156 = .ok (.aload_n 0, 1) := by decide +kernel
theorem dX9_clause_157 : decode cX9_clause 157 = .ok (.iconst 1, 1) := by decide +kernel
theorem dX9_clause_158 : decode cX9_clause 158 = .ok (.invokevirtual 149, 3) := by decide +kernel
theorem dX9_clause_161 : decode cX9_clause 161 = .ok (.iastore, 1) := by decide +kernel
theorem dX9_clause_162 : decode cX9_clause 162 = .ok (.goto 127, 3) := by decide +kernel
theorem dX9_clause_165 : decode cX9_clause 165 = .ok (.aload_n 0, 1) := by decide +kernel
theorem dX9_clause_166 : decode cX9_clause 166 = .ok (.dup, 1) := by decide +kernel
theorem dX9_clause_167 : decode cX9_clause 167 = .ok (.getfield 135, 3) := by decide +kernel
theorem dX9_clause_170 : decode cX9_clause 170 = .ok (.iconst 1, 1) := by decide +kernel
theorem dX9_clause_171 : decode cX9_clause 171 = .ok (.iadd, 1) := by decide +kernel
theorem dX9_clause_172 : decode cX9_clause 172 = .ok (.putfield 135, 3) := by decide +kernel
theorem dX9_clause_175 : decode cX9_clause 175 = .ok (.aload_n 0, 1) := by decide +kernel
theorem dX9_clause_176 : decode cX9_clause 176 = .ok (.getfield 27, 3) := by decide +kernel
theorem dX9_clause_179 : decode cX9_clause 179 = .ok (.iconst 0, 1) := by decide +kernel
theorem dX9_clause_180 : decode cX9_clause 180 = .ok (.aload_n 0, 1) := by decide +kernel
theorem dX9_clause_181 : decode cX9_clause 181 = .ok (.iconst 5, 1) := by decide +kernel
theorem dX9_clause_182 : decode cX9_clause 182 = .ok (.invokevirtual 149, 3) := by decide +kernel
theorem dX9_clause_185 : decode cX9_clause 185 = .ok (.iastore, 1) := by decide +kernel
theorem dX9_clause_186 : decode cX9_clause 186 = .ok (.goto 103, 3) := by decide +kernel
theorem dX9_clause_189 : decode cX9_clause 189 = .ok (.aload_n 0, 1) := by decide +kernel
theorem dX9_clause_190 : decode cX9_clause 190 = .ok (.dup, 1) := by decide +kernel
theorem dX9_clause_191 : decode cX9_clause 191 = .ok (.getfield 135, 3) := by decide +kernel
theorem dX9_clause_194 : decode cX9_clause 194 = .ok (.iconst 1, 1) := by decide +kernel
theorem dX9_clause_195 : decode cX9_clause 195 = .ok (.iadd, 1) := by decide +kernel
theorem dX9_clause_196 : decode cX9_clause 196 = .ok (.putfield 135, 3) := by decide +kernel
theorem dX9_clause_199 : decode cX9_clause 199 = .ok (.aload_n 0, 1) := by decide +kernel
theorem dX9_clause_200 : decode cX9_clause 200 = .ok (.getfield 27, 3) := by decide +kernel
theorem dX9_clause_203 : decode cX9_clause 203 = .ok (.iconst 0, 1) := by decide +kernel
theorem dX9_clause_204 : decode cX9_clause 204 = .ok (.aload_n 0, 1) := by decide +kernel
theorem dX9_clause_205 : decode cX9_clause 205 = .ok (.iconst 1, 1) := by decide +kernel
theorem dX9_clause_206 : decode cX9_clause 206 = .ok (.invokevirtual 149, 3) := by decide +kernel
theorem dX9_clause_209 : decode cX9_clause 209 = .ok (.iastore, 1) := by decide +kernel
theorem dX9_clause_210 : decode cX9_clause 210 = .ok (.aload_n 0, 1) := by decide +kernel
theorem dX9_clause_211 : decode cX9_clause 211 = .ok (.getfield 27, 3) := by decide +kernel
theorem dX9_clause_214 : decode cX9_clause 214 = .ok (.iconst 1, 1) := by decide +kernel
theorem dX9_clause_215 : decode cX9_clause 215 = .ok (.aload_n 0, 1) := by decide +kernel
theorem dX9_clause_216 : decode cX9_clause 216 = .ok (.getfield 146, 3) := by decide +kernel
theorem dX9_clause_219 : decode cX9_clause 219 = .ok (.ifCond .ge 11, 3) := by decide +kernel
theorem dX9_clause_222 : decode cX9_clause 222 = .ok (.aload_n 0, 1) := by decide +kernel
theorem dX9_clause_223 : decode cX9_clause 223 = .ok (.iconst 3, 1) := by decide +kernel
theorem dX9_clause_224 : decode cX9_clause 224 = .ok (.invokevirtual 149, 3) := by decide +kernel
theorem dX9_clause_227 : decode cX9_clause 227 = .ok (.goto 4, 3) := by decide +kernel
theorem dX9_clause_230 : decode cX9_clause 230 = .ok (.iconst 0, 1) := by decide +kernel
theorem dX9_clause_231 : decode cX9_clause 231 = .ok (.iastore, 1) := by decide +kernel
theorem dX9_clause_232 : decode cX9_clause 232 = .ok (.goto 57, 3) := by decide +kernel
theorem dX9_clause_235 : decode cX9_clause 235 = .ok (.aload_n 0, 1) := by decide +kernel
theorem dX9_clause_236 : decode cX9_clause 236 = .ok (.dup, 1) := by decide +kernel
theorem dX9_clause_237 : decode cX9_clause 237 = .ok (.getfield 135, 3) := by decide +kernel
theorem dX9_clause_240 : decode cX9_clause 240 = .ok (.iconst 1, 1) := by decide +kernel
theorem dX9_clause_241 : decode cX9_clause 241 = .ok (.iadd, 1) := by decide +kernel
theorem dX9_clause_242 : decode cX9_clause 242 = .ok (.putfield 135, 3) := by decide +kernel
theorem dX9_clause_245 : decode cX9_clause 245 = .ok (.aload_n 0, 1) := by decide +kernel
theorem dX9_clause_246 : decode cX9_clause 246 = .ok (.getfield 27, 3) := by decide +kernel
theorem dX9_clause_249 : decode cX9_clause 249 = .ok (.iconst 0, 1) := by decide +kernel
theorem dX9_clause_250 : decode cX9_clause 250 = .ok (.aload_n 0, 1) := by decide +kernel
theorem dX9_clause_251 : decode cX9_clause 251 = .ok (.iconst 1, 1) := by decide +kernel
theorem dX9_clause_252 : decode cX9_clause 252 = .ok (.invokevirtual 149, 3) := by decide +kernel
theorem dX9_clause_255 : decode cX9_clause 255 = .ok (.iastore, 1) := by decide +kernel
theorem dX9_clause_256 : decode cX9_clause 256 = .ok (.aload_n 0, 1) := by decide +kernel
theorem dX9_clause_257 : decode cX9_clause 257 = .ok (.getfield 27, 3) := by decide +kernel
theorem dX9_clause_260 : decode cX9_clause 260 = .ok (.iconst 1, 1) := by decide +kernel
theorem dX9_clause_261 : decode cX9_clause 261 = .ok (.aload_n 0, 1) := by decide +kernel
theorem dX9_clause_262 : decode cX9_clause 262 = .ok (.getfield 146, 3) := by decide +kernel
theorem dX9_clause_265 : decode cX9_clause 265 = .ok (.ifCond .ge 11, 3) := by decide +kernel
theorem dX9_clause_268 : decode cX9_clause 268 = .ok (.aload_n 0, 1) := by decide +kernel
theorem dX9_clause_269 : decode cX9_clause 269 = .ok (.iconst 1, 1) := by decide +kernel
theorem dX9_clause_270 : decode cX9_clause 270 = .ok (.invokevirtual 149, 3) := by decide +kernel
theorem dX9_clause_273 : decode cX9_clause 273 = .ok (.goto 4, 3) := by decide +kernel
theorem dX9_clause_276 : decode cX9_clause 276 = .ok (.iconst 0, 1) := by decide +kernel
theorem dX9_clause_277 : decode cX9_clause 277 = .ok (.iastore, 1) := by decide +kernel
theorem dX9_clause_278 : decode cX9_clause 278 = .ok (.goto 11, 3) := by decide +kernel
theorem dX9_clause_281 : decode cX9_clause 281 = .ok (.aload_n 0, 1) := by decide +kernel
theorem dX9_clause_282 : decode cX9_clause 282 = .ok (.aload_n 0, 1) := by decide +kernel
theorem dX9_clause_283 : decode cX9_clause 283 = .ok (.getfield 135, 3) := by decide +kernel
theorem dX9_clause_286 : decode cX9_clause 286 = .ok (.putfield 146, 3) := by decide +kernel
theorem dX9_clause_289 : decode cX9_clause 289 = .ok (.iload_n 1, 1) := by decide +kernel
theorem dX9_clause_290 : decode cX9_clause 290 = .ok (.ireturn, 1) := by decide +kernel
theorem dX9_does_0 : decode cX9_does 0 = .ok (.iload_n 1, 1) := by decide +kernel
theorem dX9_does_1 : decode cX9_does 1 = .ok (.tableswitch 216 98 117 #[153, 216, 216, 216, 216, 216, 216, 216, 216, 108, 191, 216, 134, 216, 216, 216, 172, 95, 216, 121], 95) := by decide +kernel
theorem dX9_does_96 : decode cX9_does 96 = .ok (.aload_n 0, 1) := by decide +kernel
theorem dX9_does_97 : decode cX9_does 97 = .ok (.invokevirtual 152, 3) := by decide +kernel
theorem dX9_does_100 : decode cX9_does 100 = .ok (.ifCond .lt 7, 3) := by decide +kernel
theorem dX9_does_103 : decode cX9_does 103 = .ok (.iconst 1, 1) := by decide +kernel
theorem dX9_does_104 : decode cX9_does 104 = .ok (.goto 4, 3) := by decide +kernel
theorem dX9_does_107 : decode cX9_does 107 = .ok (.iconst 0, 1) := by decide +kernel
theorem dX9_does_108 : decode cX9_does 108 = .ok (.ireturn, 1) := by decide +kernel
theorem dX9_does_109 : decode cX9_does 109 = .ok (.aload_n 0, 1) := by decide +kernel
theorem dX9_does_110 : decode cX9_does 110 = .ok (.invokevirtual 155, 3) := by decide +kernel
theorem dX9_does_113 : decode cX9_does 113 = .ok (.ifCond .lt 7, 3) := by decide +kernel
theorem dX9_does_116 : decode cX9_does 116 = .ok (.iconst 1, 1) := by decide +kernel
theorem dX9_does_117 : decode cX9_does 117 = .ok (.goto 4, 3) := by decide +kernel
theorem dX9_does_120 : decode cX9_does 120 = .ok (.iconst 0, 1) := by decide +kernel
theorem dX9_does_121 : decode cX9_does 121 = .ok (.ireturn, 1) := by decide +kernel
theorem dX9_does_122 : decode cX9_does 122 = .ok (.aload_n 0, 1) := by decide +kernel
theorem dX9_does_123 : decode cX9_does 123 = .ok (.invokevirtual 158, 3) := by decide +kernel
theorem dX9_does_126 : decode cX9_does 126 = .ok (.ifCond .lt 7, 3) := by decide +kernel
theorem dX9_does_129 : decode cX9_does 129 = .ok (.iconst 1, 1) := by decide +kernel
theorem dX9_does_130 : decode cX9_does 130 = .ok (.goto 4, 3) := by decide +kernel
theorem dX9_does_133 : decode cX9_does 133 = .ok (.iconst 0, 1) := by decide +kernel
theorem dX9_does_134 : decode cX9_does 134 = .ok (.ireturn, 1) := by decide +kernel
theorem dX9_does_135 : decode cX9_does 135 = .ok (.aload_n 0, 1) := by decide +kernel
theorem dX9_does_136 : decode cX9_does 136 = .ok (.aload_n 0, 1) := by decide +kernel
theorem dX9_does_137 : decode cX9_does 137 = .ok (.getfield 27, 3) := by decide +kernel
theorem dX9_does_140 : decode cX9_does 140 = .ok (.iconst 0, 1) := by decide +kernel
theorem dX9_does_141 : decode cX9_does 141 = .ok (.iaload, 1) := by decide +kernel
theorem dX9_does_142 : decode cX9_does 142 = .ok (.invokevirtual 161, 3) := by decide +kernel
theorem dX9_does_145 : decode cX9_does 145 = .ok (.ifCond .lt 7, 3) := by decide +kernel
theorem dX9_does_148 : decode cX9_does 148 = .ok (.iconst 1, 1) := by decide +kernel
theorem dX9_does_149 : decode cX9_does 149 = .ok (.goto 4, 3) := by decide +kernel
theorem dX9_does_152 : decode cX9_does 152 = .ok (.iconst 0, 1) := by decide +kernel
theorem dX9_does_153 : decode cX9_does 153 = .ok (.ireturn, 1) := by decide +kernel
theorem dX9_does_154 : decode cX9_does 154 = .ok (.aload_n 0, 1) := by decide +kernel
