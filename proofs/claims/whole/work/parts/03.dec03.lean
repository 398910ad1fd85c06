theorem dX7_note_0 : decode cX7_note 0 = .ok (.aload_n 0, 1) := by decide +kernel
theorem dX7_note_1 : decode cX7_note 1 = .ok (.getfield 18, 3) := by decide +kernel
theorem dX7_note_4 : decode cX7_note 4 = .ok (.invokevirtual 74, 3) := by decide +kernel
theorem dX7_note_7 : decode cX7_note 7 = .ok (.ifCond .eq 6, 3) := by decide +kernel
theorem dX7_note_10 : decode cX7_note 10 = .ok (.bipush (-8), 2) := by decide +kernel
theorem dX7_note_12 : decode cX7_note 12 = .ok (.ireturn, 1) := by decide +kernel
theorem dX7_note_13 : decode cX7_note 13 = .ok (.aload_n 0, 1) := by decide +kernel
theorem dX7_note_14 : decode cX7_note 14 = .ok (.getfield 18, 3) := by decide +kernel
theorem dX7_note_17 : decode cX7_note 17 = .ok (.bipush 9, 2) := by decide +kernel
theorem dX7_note_19 : decode cX7_note 19 = .ok (.iconst (-1), 1) := by decide +kernel
theorem dX7_note_20 : decode cX7_note 20 = .ok (.aconst_null, 1) := by decide +kernel
theorem dX7_note_21 : decode cX7_note 21 = .ok (.aload_n 0, 1) := by decide +kernel
theorem dX7_note_22 : decode cX7_note 22 = .ok (.getfield 67, 3) := by decide +kernel
theorem dX7_note_25 : decode cX7_note 25 = .ok (.aload_n 0, 1) := by decide +kernel
theorem dX7_note_26 : decode cX7_note 26 = .ok (.getfield 67, 3) := by decide +kernel
theorem dX7_note_29 : decode cX7_note 29 = .ok (.invokevirtual 82, 3) := by decide +kernel
theorem dX7_note_32 : decode cX7_note 32 = .ok (.astore_n 3, 1) := by decide +kernel
theorem dX7_note_33 : decode cX7_note 33 = .ok (.aload_n 3, 1) := by decide +kernel
theorem dX7_note_34 : decode cX7_note 34 = .ok (.lload_n 1, 1) := by decide +kernel
theorem dX7_note_35 : decode cX7_note 35 = .ok (.putfield 150, 3) := by decide +kernel
theorem dX7_note_38 : decode cX7_note 38 = .ok (.aload_n 3, 1) := by decide +kernel
theorem dX7_note_39 : decode cX7_note 39 = .ok (.getfield 86, 3) := by decide +kernel
theorem dX7_note_42 : decode cX7_note 42 = .ok (.ireturn, 1) := by decide +kernel
theorem dX7_undo_0 : decode cX7_undo 0 = .ok (.aload_n 0, 1) := by decide +kernel
theorem dX7_undo_1 : decode cX7_undo 1 = .ok (.getfield 18, 3) := by decide +kernel
theorem dX7_undo_4 : decode cX7_undo 4 = .ok (.aload_n 0, 1) := by decide +kernel
theorem dX7_undo_5 : decode cX7_undo 5 = .ok (.getfield 18, 3) := by decide +kernel
theorem dX7_undo_8 : decode cX7_undo 8 = .ok (.getfield 154, 3) := by decide +kernel
theorem dX7_undo_11 : decode cX7_undo 11 = .ok (.iconst 1, 1) := by decide +kernel
theorem dX7_undo_12 : decode cX7_undo 12 = .ok (.isub, 1) := by decide +kernel
theorem dX7_undo_13 : decode cX7_undo 13 = .ok (.invokevirtual 108, 3) := by decide +kernel
theorem dX7_undo_16 : decode cX7_undo 16 = .ok (.astore_n 1, 1) := by decide +kernel
theorem dX7_undo_17 : decode cX7_undo 17 = .ok (.aload_n 1, 1) := by decide +kernel
theorem dX7_undo_18 : decode cX7_undo 18 = .ok (.ifnull 14, 3) := by decide +kernel
theorem dX7_undo_21 : decode cX7_undo 21 = .ok (.aload_n 1, 1) := by decide +kernel
theorem dX7_undo_22 : decode cX7_undo 22 = .ok (.getfield 123, 3) := by decide +kernel
theorem dX7_undo_25 : decode cX7_undo 25 = .ok (.aload_n 0, 1) := by decide +kernel
theorem dX7_undo_26 : decode cX7_undo 26 = .ok (.getfield 67, 3) := by decide +kernel
theorem dX7_undo_29 : decode cX7_undo 29 = .ok (.if_icmp .eq 5, 3) := by decide +kernel
theorem dX7_undo_32 : decode cX7_undo 32 = .ok (.iconst (-1), 1) := by decide +kernel
theorem dX7_undo_33 : decode cX7_undo 33 = .ok (.ireturn, 1) := by decide +kernel
theorem dX7_undo_34 : decode cX7_undo 34 = .ok (.aload_n 1, 1) := by decide +kernel
theorem dX7_undo_35 : decode cX7_undo 35 = .ok (.invokevirtual 157, 3) := by decide +kernel
theorem dX7_undo_38 : decode cX7_undo 38 = .ok (.aload_n 0, 1) := by decide +kernel
theorem dX7_undo_39 : decode cX7_undo 39 = .ok (.getfield 18, 3) := by decide +kernel
theorem dX7_undo_42 : decode cX7_undo 42 = .ok (.invokevirtual 160, 3) := by decide +kernel
theorem dX7_undo_45 : decode cX7_undo 45 = .ok (.aload_n 1, 1) := by decide +kernel
theorem dX7_undo_46 : decode cX7_undo 46 = .ok (.getfield 86, 3) := by decide +kernel
theorem dX7_undo_49 : decode cX7_undo 49 = .ok (.ireturn, 1) := by decide +kernel
theorem dX7_between_0 : decode cX7_between 0 = .ok (.aload_n 0, 1) := by decide +kernel
theorem dX7_between_1 : decode cX7_between 1 = .ok (.iload_n 1, 1) := by decide +kernel
theorem dX7_between_2 : decode cX7_between 2 = .ok (.iload_n 2, 1) := by decide +kernel
theorem dX7_between_3 : decode cX7_between 3 = .ok (.iload_n 3, 1) := by decide +kernel
theorem dX7_between_4 : decode cX7_between 4 = .ok (.iload 4, 2) := by decide +kernel
theorem dX7_between_6 : decode cX7_between 6 = .ok (.iload 5, 2) := by decide +kernel
theorem dX7_between_8 : decode cX7_between 8 = .ok (.iload 6, 2) := by decide +kernel
theorem dX7_between_10 : decode cX7_between 10 = .ok (.invokevirtual 163, 3) := by decide +kernel
theorem dX7_between_13 : decode cX7_between 13 = .ok (.ifCond .eq 13, 3) := by decide +kernel
theorem dX7_between_16 : decode cX7_between 16 = .ok (.aload_n 0, 1) := by decide +kernel
theorem dX7_between_17 : decode cX7_between 17 = .ok (.getfield 32, 3) := by decide +kernel
theorem dX7_between_20 : decode cX7_between 20 = .ok (.getfield 167, 3) := by decide +kernel
theorem dX7_between_23 : decode cX7_between 23 = .ok (.goto 4, 3) := by decide +kernel
theorem dX7_between_26 : decode cX7_between 26 = .ok (.iconst (-1), 1) := by decide +kernel
theorem dX7_between_27 : decode cX7_between 27 = .ok (.ireturn, 1) := by decide +kernel
theorem dX7_words_0 : decode cX7_words 0 = .ok (.aload_n 0, 1) := by decide +kernel
theorem dX7_words_1 : decode cX7_words 1 = .ok (.iload_n 1, 1) := by decide +kernel
theorem dX7_words_2 : decode cX7_words 2 = .ok (.iload_n 2, 1) := by decide +kernel
theorem dX7_words_3 : decode cX7_words 3 = .ok (.iload_n 3, 1) := by decide +kernel
theorem dX7_words_4 : decode cX7_words 4 = .ok (.iload 4, 2) := by decide +kernel
theorem dX7_words_6 : decode cX7_words 6 = .ok (.iload 5, 2) := by decide +kernel
theorem dX7_words_8 : decode cX7_words 8 = .ok (.iload 6, 2) := by decide +kernel
theorem dX7_words_10 : decode cX7_words 10 = .ok (.invokevirtual 163, 3) := by decide +kernel
theorem dX7_words_13 : decode cX7_words 13 = .ok (.ifCond .eq 13, 3) := by decide +kernel
theorem dX7_words_16 : decode cX7_words 16 = .ok (.aload_n 0, 1) := by decide +kernel
theorem dX7_words_17 : decode cX7_words 17 = .ok (.getfield 32, 3) := by decide +kernel
theorem dX7_words_20 : decode cX7_words 20 = .ok (.getfield 169, 3) := by decide +kernel
theorem dX7_words_23 : decode cX7_words 23 = .ok (.goto 4, 3) := by decide +kernel
theorem dX7_words_26 : decode cX7_words 26 = .ok (.iconst (-1), 1) := by decide +kernel
theorem dX7_words_27 : decode cX7_words 27 = .ok (.ireturn, 1) := by decide +kernel
theorem dX7_why_0 : decode cX7_why 0 = .ok (.aload_n 0, 1) := by decide +kernel
theorem dX7_why_1 : decode cX7_why 1 = .ok (.iload_n 1, 1) := by decide +kernel
theorem dX7_why_2 : decode cX7_why 2 = .ok (.iload_n 2, 1) := by decide +kernel
theorem dX7_why_3 : decode cX7_why 3 = .ok (.iload_n 3, 1) := by decide +kernel
theorem dX7_why_4 : decode cX7_why 4 = .ok (.iload 4, 2) := by decide +kernel
theorem dX7_why_6 : decode cX7_why 6 = .ok (.iload 5, 2) := by decide +kernel
theorem dX7_why_8 : decode cX7_why 8 = .ok (.iload 6, 2) := by decide +kernel
theorem dX7_why_10 : decode cX7_why 10 = .ok (.invokevirtual 163, 3) := by decide +kernel
theorem dX7_why_13 : decode cX7_why 13 = .ok (.ifCond .eq 19, 3) := by decide +kernel
theorem dX7_why_16 : decode cX7_why 16 = .ok (.aload_n 0, 1) := by decide +kernel
theorem dX7_why_17 : decode cX7_why 17 = .ok (.getfield 32, 3) := by decide +kernel
theorem dX7_why_20 : decode cX7_why 20 = .ok (.aload_n 0, 1) := by decide +kernel
theorem dX7_why_21 : decode cX7_why 21 = .ok (.getfield 18, 3) := by decide +kernel
theorem dX7_why_24 : decode cX7_why 24 = .ok (.iload 7, 2) := by decide +kernel
theorem dX7_why_26 : decode cX7_why 26 = .ok (.invokevirtual 170, 3) := by decide +kernel
theorem dX7_why_29 : decode cX7_why 29 = .ok (.goto 4, 3) := by decide +kernel
theorem dX7_why_32 : decode cX7_why 32 = .ok (.iconst (-1), 1) := by decide +kernel
theorem dX7_why_33 : decode cX7_why 33 = .ok (.ireturn, 1) := by decide +kernel
theorem dX7_first_0 : decode cX7_first 0 = .ok (.aload_n 0, 1) := by decide +kernel
theorem dX7_first_1 : decode cX7_first 1 = .ok (.iload_n 1, 1) := by decide +kernel
theorem dX7_first_2 : decode cX7_first 2 = .ok (.iload_n 2, 1) := by decide +kernel
theorem dX7_first_3 : decode cX7_first 3 = .ok (.iload_n 3, 1) := by decide +kernel
theorem dX7_first_4 : decode cX7_first 4 = .ok (.iload 4, 2) := by decide +kernel
theorem dX7_first_6 : decode cX7_first 6 = .ok (.aload_n 0, 1) := by decide +kernel
theorem dX7_first_7 : decode cX7_first 7 = .ok (.getfield 67, 3) := by decide +kernel
theorem dX7_first_10 : decode cX7_first 10 = .ok (.aload_n 0, 1) := by decide +kernel
theorem dX7_first_11 : decode cX7_first 11 = .ok (.getfield 67, 3) := by decide +kernel
theorem dX7_first_14 : decode cX7_first 14 = .ok (.invokevirtual 163, 3) := by decide +kernel
theorem dX7_first_17 : decode cX7_first 17 = .ok (.ifCond .ne 5, 3) := by decide +kernel
theorem dX7_first_20 : decode cX7_first 20 = .ok (.iconst (-1), 1) := by decide +kernel
theorem dX7_first_21 : decode cX7_first 21 = .ok (.ireturn, 1) := by decide +kernel
theorem dX7_first_22 : decode cX7_first 22 = .ok (.aload_n 0, 1) := by decide +kernel
theorem dX7_first_23 : decode cX7_first 23 = .ok (.iload_n 3, 1) := by decide +kernel
theorem dX7_first_24 : decode cX7_first 24 = .ok (.invokevirtual 50, 3) := by decide +kernel
theorem dX7_first_27 : decode cX7_first 27 = .ok (.astore 5, 2) := by decide +kernel
theorem dX7_first_29 : decode cX7_first 29 = .ok (.aload_n 0, 1) := by decide +kernel
theorem dX7_first_30 : decode cX7_first 30 = .ok (.getfield 32, 3) := by decide +kernel
theorem dX7_first_33 : decode cX7_first 33 = .ok (.getfield 167, 3) := by decide +kernel
theorem dX7_first_36 : decode cX7_first 36 = .ok (.istore 6, 2) := by decide +kernel
theorem dX7_first_38 : decode cX7_first 38 = .ok (.aload_n 0, 1) := by decide +kernel
theorem dX7_first_39 : decode cX7_first 39 = .ok (.getfield 32, 3) := by decide +kernel
theorem dX7_first_42 : decode cX7_first 42 = .ok (.getfield 169, 3) := by decide +kernel
theorem dX7_first_45 : decode cX7_first 45 = .ok (.istore 7, 2) := by decide +kernel
theorem dX7_first_47 : decode cX7_first 47 = .ok (.aload_n 0, 1) := by decide +kernel
theorem dX7_first_48 : decode cX7_first 48 = .ok (.getfield 67, 3) := by decide +kernel
theorem dX7_first_51 : decode cX7_first 51 = .ok (.istore 8, 2) := by decide +kernel
theorem dX7_first_53 : decode cX7_first 53 = .ok (.iconst 0, 1) := by decide +kernel
theorem dX7_first_54 : decode cX7_first 54 = .ok (.istore 9, 2) := by decide +kernel
theorem dX7_first_56 : decode cX7_first 56 = .ok (.iload 9, 2) := by decide +kernel
theorem dX7_first_58 : decode cX7_first 58 = .ok (.sipush 400, 3) := by decide +kernel
theorem dX7_first_61 : decode cX7_first 61 = .ok (.if_icmp .gt 77, 3) := by decide +kernel
theorem dX7_first_64 : decode cX7_first 64 = .ok (.aload_n 0, 1) := by decide +kernel
theorem dX7_first_65 : decode cX7_first 65 = .ok (.getfield 18, 3) := by decide +kernel
theorem dX7_first_68 : decode cX7_first 68 = .ok (.aload 5, 2) := by decide +kernel
theorem dX7_first_70 : decode cX7_first 70 = .ok (.iload 8, 2) := by decide +kernel
theorem dX7_first_72 : decode cX7_first 72 = .ok (.invokevirtual 174, 3) := by decide +kernel
theorem dX7_first_75 : decode cX7_first 75 = .ok (.istore 8, 2) := by decide +kernel
theorem dX7_first_77 : decode cX7_first 77 = .ok (.iload 8, 2) := by decide +kernel
theorem dX7_first_79 : decode cX7_first 79 = .ok (.ifCond .gt 5, 3) := by decide +kernel
theorem dX7_first_82 : decode cX7_first 82 = .ok (.iconst 0, 1) := by decide +kernel
theorem dX7_first_83 : decode cX7_first 83 = .ok (.ireturn, 1) := by decide +kernel
theorem dX7_first_84 : decode cX7_first 84 = .ok (.aload_n 0, 1) := by decide +kernel
theorem dX7_first_85 : decode cX7_first 85 = .ok (.iload_n 1, 1) := by decide +kernel
theorem dX7_first_86 : decode cX7_first 86 = .ok (.iload_n 2, 1) := by decide +kernel
theorem dX7_first_87 : decode cX7_first 87 = .ok (.iload_n 3, 1) := by decide +kernel
theorem dX7_first_88 : decode cX7_first 88 = .ok (.iload 4, 2) := by decide +kernel
theorem dX7_first_90 : decode cX7_first 90 = .ok (.iload 8, 2) := by decide +kernel
theorem dX7_first_92 : decode cX7_first 92 = .ok (.iconst 1, 1) := by decide +kernel
theorem dX7_first_93 : decode cX7_first 93 = .ok (.isub, 1) := by decide +kernel
theorem dX7_first_94 : decode cX7_first 94 = .ok (.aload_n 0, 1) := by decide +kernel
theorem dX7_first_95 : decode cX7_first 95 = .ok (.getfield 67, 3) := by decide +kernel
theorem dX7_first_98 : decode cX7_first 98 = .ok (.invokevirtual 163, 3) := by decide +kernel
theorem dX7_first_101 : decode cX7_first 101 = .ok (.pop, 1) := by decide +kernel
theorem dX7_first_102 : decode cX7_first 102 = .ok (.aload_n 0, 1) := by decide +kernel
theorem dX7_first_103 : decode cX7_first 103 = .ok (.getfield 32, 3) := by decide +kernel
theorem dX7_first_106 : decode cX7_first 106 = .ok (.getfield 167, 3) := by decide +kernel
theorem dX7_first_109 : decode cX7_first 109 = .ok (.iload 6, 2) := by decide +kernel
theorem dX7_first_111 : decode cX7_first 111 = .ok (.if_icmp .ne 15, 3) := by decide +kernel
theorem dX7_first_114 : decode cX7_first 114 = .ok (.aload_n 0, 1) := by decide +kernel
theorem dX7_first_115 : decode cX7_first 115 = .ok (.getfield 32, 3) := by decide +kernel
theorem dX7_first_118 : decode cX7_first 118 = .ok (.getfield 169, 3) := by decide +kernel
theorem dX7_first_121 : decode cX7_first 121 = .ok (.iload 7, 2) := by decide +kernel
theorem dX7_first_123 : decode cX7_first 123 = .ok (.if_icmp .eq 6, 3) := by decide +kernel
theorem dX7_first_126 : decode cX7_first 126 = .ok (.iload 8, 2) := by decide +kernel
theorem dX7_first_128 : decode cX7_first 128 = .ok (.ireturn, 1) := by decide +kernel
theorem dX7_first_129 : decode cX7_first 129 = .ok (.iinc 8 (-1), 3) := by decide +kernel
theorem dX7_first_132 : decode cX7_first 132 = .ok (.iinc 9 1, 3) := by decide +kernel
theorem dX7_first_135 : decode cX7_first 135 = .ok (.goto (-79), 3) := by decide +kernel
theorem dX7_first_138 : decode cX7_first 138 = .ok (.iload 8, 2) := by decide +kernel
theorem dX7_first_140 : decode cX7_first 140 = .ok (.ireturn, 1) := by decide +kernel
theorem dX7_member_0 : decode cX7_member 0 = .ok (.aload_n 0, 1) := by decide +kernel
theorem dX7_member_1 : decode cX7_member 1 = .ok (.iload_n 2, 1) := by decide +kernel
theorem dX7_member_2 : decode cX7_member 2 = .ok (.invokevirtual 50, 3) := by decide +kernel
theorem dX7_member_5 : decode cX7_member 5 = .ok (.astore 5, 2) := by decide +kernel
theorem dX7_member_7 : decode cX7_member 7 = .ok (.aload_n 0, 1) := by decide +kernel
theorem dX7_member_8 : decode cX7_member 8 = .ok (.iload_n 1, 1) := by decide +kernel
theorem dX7_member_9 : decode cX7_member 9 = .ok (.invokevirtual 71, 3) := by decide +kernel
theorem dX7_member_12 : decode cX7_member 12 = .ok (.ifCond .eq 23, 3) := by decide +kernel
theorem dX7_member_15 : decode cX7_member 15 = .ok (.aload 5, 2) := by decide +kernel
theorem dX7_member_17 : decode cX7_member 17 = .ok (.ifnull 18, 3) := by decide +kernel
theorem dX7_member_20 : decode cX7_member 20 = .ok (.iload_n 3, 1) := by decide +kernel
theorem dX7_member_21 : decode cX7_member 21 = .ok (.invokestatic 178, 3) := by decide +kernel
theorem dX7_member_24 : decode cX7_member 24 = .ok (.ifCond .eq 11, 3) := by decide +kernel
theorem dX7_member_27 : decode cX7_member 27 = .ok (.iload 4, 2) := by decide +kernel
theorem dX7_member_29 : decode cX7_member 29 = .ok (.invokestatic 178, 3) := by decide +kernel
theorem dX7_member_32 : decode cX7_member 32 = .ok (.ifCond .ne 5, 3) := by decide +kernel
theorem dX7_member_35 : decode cX7_member 35 = .ok (.iconst (-1), 1) := by decide +kernel
theorem dX7_member_36 : decode cX7_member 36 = .ok (.ireturn, 1) := by decide +kernel
theorem dX7_member_37 : decode cX7_member 37 = .ok (.aload_n 0, 1) := by decide +kernel
theorem dX7_member_38 : decode cX7_member 38 = .ok (.getfield 25, 3) := by decide +kernel
theorem dX7_member_41 : decode cX7_member 41 = .ok (.aload_n 0, 1) := by decide +kernel
theorem dX7_member_42 : decode cX7_member 42 = .ok (.getfield 18, 3) := by decide +kernel
theorem dX7_member_45 : decode cX7_member 45 = .ok (.aload 5, 2) := by decide +kernel
theorem dX7_member_47 : decode cX7_member 47 = .ok (.iload_n 3, 1) := by decide +kernel
theorem dX7_member_48 : decode cX7_member 48 = .ok (.iload 4, 2) := by decide +kernel
theorem dX7_member_50 : decode cX7_member 50 = .ok (.invokevirtual 181, 3) := by decide +kernel
theorem dX7_member_53 : decode cX7_member 53 = .ok (.aload_n 0, 1) := by decide +kernel
theorem dX7_member_54 : decode cX7_member 54 = .ok (.getfield 25, 3) := by decide +kernel
theorem dX7_member_57 : decode cX7_member 57 = .ok (.iload_n 1, 1) := by decide +kernel
theorem dX7_member_58 : decode cX7_member 58 = .ok (.invokevirtual 185, 3) := by decide +kernel
theorem dX7_member_61 : decode cX7_member 61 = .ok (.invokestatic 186, 3) := by decide +kernel
theorem dX7_member_64 : decode cX7_member 64 = .ok (.ireturn, 1) := by decide +kernel
theorem dX7_members_0 : decode cX7_members 0 = .ok (.aload_n 0, 1) := by decide +kernel
theorem dX7_members_1 : decode cX7_members 1 = .ok (.iload_n 1, 1) := by decide +kernel
theorem dX7_members_2 : decode cX7_members 2 = .ok (.invokevirtual 50, 3) := by decide +kernel
theorem dX7_members_5 : decode cX7_members 5 = .ok (.astore 4, 2) := by decide +kernel
theorem dX7_members_7 : decode cX7_members 7 = .ok (.aload 4, 2) := by decide +kernel
theorem dX7_members_9 : decode cX7_members 9 = .ok (.ifnull 17, 3) := by decide +kernel
theorem dX7_members_12 : decode cX7_members 12 = .ok (.iload_n 2, 1) := by decide +kernel
theorem dX7_members_13 : decode cX7_members 13 = .ok (.invokestatic 178, 3) := by decide +kernel
theorem dX7_members_16 : decode cX7_members 16 = .ok (.ifCond .eq 10, 3) := by decide +kernel
theorem dX7_members_19 : decode cX7_members 19 = .ok (.iload_n 3, 1) := by decide +kernel
theorem dX7_members_20 : decode cX7_members 20 = .ok (.invokestatic 178, 3) := by decide +kernel
theorem dX7_members_23 : decode cX7_members 23 = .ok (.ifCond .ne 5, 3) := by decide +kernel
theorem dX7_members_26 : decode cX7_members 26 = .ok (.iconst (-1), 1) := by decide +kernel
theorem dX7_members_27 : decode cX7_members 27 = .ok (.ireturn, 1) := by decide +kernel
theorem dX7_members_28 : decode cX7_members 28 = .ok (.aload_n 0, 1) := by decide +kernel
theorem dX7_members_29 : decode cX7_members 29 = .ok (.getfield 25, 3) := by decide +kernel
theorem dX7_members_32 : decode cX7_members 32 = .ok (.aload_n 0, 1) := by decide +kernel
theorem dX7_members_33 : decode cX7_members 33 = .ok (.getfield 18, 3) := by decide +kernel
theorem dX7_members_36 : decode cX7_members 36 = .ok (.aload 4, 2) := by decide +kernel
theorem dX7_members_38 : decode cX7_members 38 = .ok (.iload_n 2, 1) := by decide +kernel
theorem dX7_members_39 : decode cX7_members 39 = .ok (.iload_n 3, 1) := by decide +kernel
theorem dX7_members_40 : decode cX7_members 40 = .ok (.invokevirtual 181, 3) := by decide +kernel
theorem dX7_members_43 : decode cX7_members 43 = .ok (.aload_n 0, 1) := by decide +kernel
theorem dX7_members_44 : decode cX7_members 44 = .ok (.getfield 25, 3) := by decide +kernel
theorem dX7_members_47 : decode cX7_members 47 = .ok (.getfield 190, 3) := by decide +kernel
theorem dX7_members_50 : decode cX7_members 50 = .ok (.ireturn, 1) := by decide +kernel
theorem dX7_since_0 : decode cX7_since 0 = .ok (.aload_n 0, 1) := by decide +kernel
theorem dX7_since_1 : decode cX7_since 1 = .ok (.iload_n 1, 1) := by decide +kernel
theorem dX7_since_2 : decode cX7_since 2 = .ok (.invokevirtual 50, 3) := by decide +kernel
theorem dX7_since_5 : decode cX7_since 5 = .ok (.astore_n 2, 1) := by decide +kernel
theorem dX7_since_6 : decode cX7_since 6 = .ok (.aload_n 2, 1) := by decide +kernel
theorem dX7_since_7 : decode cX7_since 7 = .ok (.ifnonnull 5, 3) := by decide +kernel
theorem dX7_since_10 : decode cX7_since 10 = .ok (.iconst (-1), 1) := by decide +kernel
theorem dX7_since_11 : decode cX7_since 11 = .ok (.ireturn, 1) := by decide +kernel
theorem dX7_since_12 : decode cX7_since 12 = .ok (.aload_n 0, 1) := by decide +kernel
theorem dX7_since_13 : decode cX7_since 13 = .ok (.getfield 25, 3) := by decide +kernel
theorem dX7_since_16 : decode cX7_since 16 = .ok (.aload_n 0, 1) := by decide +kernel
theorem dX7_since_17 : decode cX7_since 17 = .ok (.getfield 18, 3) := by decide +kernel
theorem dX7_since_20 : decode cX7_since 20 = .ok (.aload_n 2, 1) := by decide +kernel
theorem dX7_since_21 : decode cX7_since 21 = .ok (.aload_n 0, 1) := by decide +kernel
theorem dX7_since_22 : decode cX7_since 22 = .ok (.getfield 67, 3) := by decide +kernel
theorem dX7_since_25 : decode cX7_since 25 = .ok (.aload_n 0, 1) := by decide +kernel
theorem dX7_since_26 : decode cX7_since 26 = .ok (.getfield 67, 3) := by decide +kernel
theorem dX7_since_29 : decode cX7_since 29 = .ok (.invokevirtual 181, 3) := by decide +kernel
theorem dX7_since_32 : decode cX7_since 32 = .ok (.aload_n 0, 1) := by decide +kernel
theorem dX7_since_33 : decode cX7_since 33 = .ok (.getfield 25, 3) := by decide +kernel
theorem dX7_since_36 : decode cX7_since 36 = .ok (.getfield 190, 3) := by decide +kernel
theorem dX7_since_39 : decode cX7_since 39 = .ok (.aload_n 2, 1) := by decide +kernel
theorem dX7_since_40 : decode cX7_since 40 = .ok (.getfield 191, 3) := by decide +kernel
theorem dX7_since_43 : decode cX7_since 43 = .ok (.if_icmp .ge 5, 3) := by decide +kernel
theorem dX7_since_46 : decode cX7_since 46 = .ok (.iconst (-1), 1) := by decide +kernel
theorem dX7_since_47 : decode cX7_since 47 = .ok (.ireturn, 1) := by decide +kernel
theorem dX7_since_48 : decode cX7_since 48 = .ok (.aload_n 0, 1) := by decide +kernel
theorem dX7_since_49 : decode cX7_since 49 = .ok (.getfield 67, 3) := by decide +kernel
theorem dX7_since_52 : decode cX7_since 52 = .ok (.istore_n 3, 1) := by decide +kernel
theorem dX7_since_53 : decode cX7_since 53 = .ok (.iconst 0, 1) := by decide +kernel
theorem dX7_since_54 : decode cX7_since 54 = .ok (.istore 4, 2) := by decide +kernel
theorem dX7_since_56 : decode cX7_since 56 = .ok (.iload 4, 2) := by decide +kernel
theorem dX7_since_58 : decode cX7_since 58 = .ok (.sipush 400, 3) := by decide +kernel
theorem dX7_since_61 : decode cX7_since 61 = .ok (.if_icmp .gt 63, 3) := by decide +kernel
theorem dX7_since_64 : decode cX7_since 64 = .ok (.aload_n 0, 1) := by decide +kernel
theorem dX7_since_65 : decode cX7_since 65 = .ok (.getfield 18, 3) := by decide +kernel
theorem dX7_since_68 : decode cX7_since 68 = .ok (.aload_n 2, 1) := by decide +kernel
theorem dX7_since_69 : decode cX7_since 69 = .ok (.iload_n 3, 1) := by decide +kernel
theorem dX7_since_70 : decode cX7_since 70 = .ok (.invokevirtual 174, 3) := by decide +kernel
theorem dX7_since_73 : decode cX7_since 73 = .ok (.istore_n 3, 1) := by decide +kernel
theorem dX7_since_74 : decode cX7_since 74 = .ok (.iload_n 3, 1) := by decide +kernel
theorem dX7_since_75 : decode cX7_since 75 = .ok (.ifCond .gt 5, 3) := by decide +kernel
theorem dX7_since_78 : decode cX7_since 78 = .ok (.iconst 0, 1) := by decide +kernel
theorem dX7_since_79 : decode cX7_since 79 = .ok (.ireturn, 1) := by decide +kernel
theorem dX7_since_80 : decode cX7_since 80 = .ok (.aload_n 0, 1) := by decide +kernel
theorem dX7_since_81 : decode cX7_since 81 = .ok (.getfield 25, 3) := by decide +kernel
theorem dX7_since_84 : decode cX7_since 84 = .ok (.aload_n 0, 1) := by decide +kernel
theorem dX7_since_85 : decode cX7_since 85 = .ok (.getfield 18, 3) := by decide +kernel
theorem dX7_since_88 : decode cX7_since 88 = .ok (.aload_n 2, 1) := by decide +kernel
theorem dX7_since_89 : decode cX7_since 89 = .ok (.iload_n 3, 1) := by decide +kernel
theorem dX7_since_90 : decode cX7_since 90 = .ok (.iconst 1, 1) := by decide +kernel
theorem dX7_since_91 : decode cX7_since 91 = .ok (.isub, 1) := by decide +kernel
theorem dX7_since_92 : decode cX7_since 92 = .ok (.aload_n 0, 1) := by decide +kernel
theorem dX7_since_93 : decode cX7_since 93 = .ok (.getfield 67, 3) := by decide +kernel
theorem dX7_since_96 : decode cX7_since 96 = .ok (.invokevirtual 181, 3) := by decide +kernel
theorem dX7_since_99 : decode cX7_since 99 = .ok (.aload_n 0, 1) := by decide +kernel
theorem dX7_since_100 : decode cX7_since 100 = .ok (.getfield 25, 3) := by decide +kernel
theorem dX7_since_103 : decode cX7_since 103 = .ok (.getfield 190, 3) := by decide +kernel
theorem dX7_since_106 : decode cX7_since 106 = .ok (.aload_n 2, 1) := by decide +kernel
theorem dX7_since_107 : decode cX7_since 107 = .ok (.getfield 191, 3) := by decide +kernel
theorem dX7_since_110 : decode cX7_since 110 = .ok (.if_icmp .ge 5, 3) := by decide +kernel
theorem dX7_since_113 : decode cX7_since 113 = .ok (.iload_n 3, 1) := by decide +kernel
theorem dX7_since_114 : decode cX7_since 114 = .ok (.ireturn, 1) := by decide +kernel
theorem dX7_since_115 : decode cX7_since 115 = .ok (.iinc 3 (-1), 3) := by decide +kernel
theorem dX7_since_118 : decode cX7_since 118 = .ok (.iinc 4 1, 3) := by decide +kernel
theorem dX7_since_121 : decode cX7_since 121 = .ok (.goto (-65), 3) := by decide +kernel
theorem dX7_since_124 : decode cX7_since 124 = .ok (.iload_n 3, 1) := by decide +kernel
theorem dX7_since_125 : decode cX7_since 125 = .ok (.ireturn, 1) := by decide +kernel
theorem dX7_has_0 : decode cX7_has 0 = .ok (.aload_n 0, 1) := by decide +kernel
theorem dX7_has_1 : decode cX7_has 1 = .ok (.iload_n 2, 1) := by decide +kernel
theorem dX7_has_2 : decode cX7_has 2 = .ok (.invokevirtual 50, 3) := by decide +kernel
theorem dX7_has_5 : decode cX7_has 5 = .ok (.astore 6, 2) := by decide +kernel
theorem dX7_has_7 : decode cX7_has 7 = .ok (.aload_n 0, 1) := by decide +kernel
theorem dX7_has_8 : decode cX7_has 8 = .ok (.iload_n 1, 1) := by decide +kernel
theorem dX7_has_9 : decode cX7_has 9 = .ok (.invokevirtual 71, 3) := by decide +kernel
theorem dX7_has_12 : decode cX7_has 12 = .ok (.ifCond .eq 23, 3) := by decide +kernel
theorem dX7_has_15 : decode cX7_has 15 = .ok (.aload 6, 2) := by decide +kernel
theorem dX7_has_17 : decode cX7_has 17 = .ok (.ifnull 18, 3) := by decide +kernel
theorem dX7_has_20 : decode cX7_has 20 = .ok (.iload_n 3, 1) := by decide +kernel
theorem dX7_has_21 : decode cX7_has 21 = .ok (.invokestatic 178, 3) := by decide +kernel
theorem dX7_has_24 : decode cX7_has 24 = .ok (.ifCond .eq 11, 3) := by decide +kernel
theorem dX7_has_27 : decode cX7_has 27 = .ok (.iload 4, 2) := by decide +kernel
theorem dX7_has_29 : decode cX7_has 29 = .ok (.invokestatic 178, 3) := by decide +kernel
theorem dX7_has_32 : decode cX7_has 32 = .ok (.ifCond .ne 5, 3) := by decide +kernel
theorem dX7_has_35 : decode cX7_has 35 = .ok (.iconst (-1), 1) := by decide +kernel
theorem dX7_has_36 : decode cX7_has 36 = .ok (.ireturn, 1) := by decide +kernel
theorem dX7_has_37 : decode cX7_has 37 = .ok (.aload_n 0, 1) := by decide +kernel
theorem dX7_has_38 : decode cX7_has 38 = .ok (.getfield 25, 3) := by decide +kernel
theorem dX7_has_41 : decode cX7_has 41 = .ok (.aload_n 0, 1) := by decide +kernel
theorem dX7_has_42 : decode cX7_has 42 = .ok (.getfield 18, 3) := by decide +kernel
theorem dX7_has_45 : decode cX7_has 45 = .ok (.aload 6, 2) := by decide +kernel
theorem dX7_has_47 : decode cX7_has 47 = .ok (.iload_n 3, 1) := by decide +kernel
theorem dX7_has_48 : decode cX7_has 48 = .ok (.iload 4, 2) := by decide +kernel
theorem dX7_has_50 : decode cX7_has 50 = .ok (.invokevirtual 181, 3) := by decide +kernel
theorem dX7_has_53 : decode cX7_has 53 = .ok (.aload_n 0, 1) := by decide +kernel
theorem dX7_has_54 : decode cX7_has 54 = .ok (.getfield 18, 3) := by decide +kernel
theorem dX7_has_57 : decode cX7_has 57 = .ok (.aload_n 0, 1) := by decide +kernel
theorem dX7_has_58 : decode cX7_has 58 = .ok (.getfield 25, 3) := by decide +kernel
theorem dX7_has_61 : decode cX7_has 61 = .ok (.iload_n 1, 1) := by decide +kernel
theorem dX7_has_62 : decode cX7_has 62 = .ok (.invokevirtual 185, 3) := by decide +kernel
theorem dX7_has_65 : decode cX7_has 65 = .ok (.iload_n 3, 1) := by decide +kernel
theorem dX7_has_66 : decode cX7_has 66 = .ok (.iload 4, 2) := by decide +kernel
theorem dX7_has_68 : decode cX7_has 68 = .ok (.iload 5, 2) := by decide +kernel
theorem dX7_has_70 : decode cX7_has 70 = .ok (.invokevirtual 194, 3) := by decide +kernel
theorem dX7_has_73 : decode cX7_has 73 = .ok (.invokestatic 186, 3) := by decide +kernel
theorem dX7_has_76 : decode cX7_has 76 = .ok (.ireturn, 1) := by decide +kernel
theorem dX7_paper_0 : decode cX7_paper 0 = .ok (.aload_n 0, 1) := by decide +kernel
theorem dX7_paper_1 : decode cX7_paper 1 = .ok (.getfield 18, 3) := by decide +kernel
theorem dX7_paper_4 : decode cX7_paper 4 = .ok (.iload_n 1, 1) := by decide +kernel
theorem dX7_paper_5 : decode cX7_paper 5 = .ok (.invokevirtual 108, 3) := by decide +kernel
theorem dX7_paper_8 : decode cX7_paper 8 = .ok (.astore_n 3, 1) := by decide +kernel
theorem dX7_paper_9 : decode cX7_paper 9 = .ok (.aload_n 3, 1) := by decide +kernel
theorem dX7_paper_10 : decode cX7_paper 10 = .ok (.ifnonnull 7, 3) := by decide +kernel
theorem dX7_paper_13 : decode cX7_paper 13 = .ok (.iconst (-1), 1) := by decide +kernel
theorem dX7_paper_14 : decode cX7_paper 14 = .ok (.goto 8, 3) := by decide +kernel
theorem dX7_paper_17 : decode cX7_paper 17 = .ok (.aload_n 3, 1) := by decide +kernel
theorem dX7_paper_18 : decode cX7_paper 18 = .ok (.iload_n 2, 1) := by decide +kernel
theorem dX7_paper_19 : decode cX7_paper 19 = .ok (.invokevirtual 198, 3) := by decide +kernel
theorem dX7_paper_22 : decode cX7_paper 22 = .ok (.ireturn, 1) := by decide +kernel
theorem dX7_noted_0 : decode cX7_noted 0 = .ok (.aload_n 0, 1) := by decide +kernel
theorem dX7_noted_1 : decode cX7_noted 1 = .ok (.getfield 18, 3) := by decide +kernel
theorem dX7_noted_4 : decode cX7_noted 4 = .ok (.iload_n 1, 1) := by decide +kernel
theorem dX7_noted_5 : decode cX7_noted 5 = .ok (.invokevirtual 108, 3) := by decide +kernel
theorem dX7_noted_8 : decode cX7_noted 8 = .ok (.astore_n 2, 1) := by decide +kernel
theorem dX7_noted_9 : decode cX7_noted 9 = .ok (.aload_n 2, 1) := by decide +kernel
theorem dX7_noted_10 : decode cX7_noted 10 = .ok (.ifnonnull 7, 3) := by decide +kernel
theorem dX7_noted_13 : decode cX7_noted 13 = .ok (.lconst 0, 1) := by decide +kernel
theorem dX7_noted_14 : decode cX7_noted 14 = .ok (.goto 7, 3) := by decide +kernel
theorem dX7_noted_17 : decode cX7_noted 17 = .ok (.aload_n 2, 1) := by decide +kernel
theorem dX7_noted_18 : decode cX7_noted 18 = .ok (.getfield 150, 3) := by decide +kernel
theorem dX7_noted_21 : decode cX7_noted 21 = .ok (.lreturn, 1) := by decide +kernel
theorem dX7_annex_0 : decode cX7_annex 0 = .ok (.aload_n 0, 1) := by decide +kernel
theorem dX7_annex_1 : decode cX7_annex 1 = .ok (.iload_n 1, 1) := by decide +kernel
theorem dX7_annex_2 : decode cX7_annex 2 = .ok (.invokevirtual 50, 3) := by decide +kernel
theorem dX7_annex_5 : decode cX7_annex 5 = .ok (.astore 4, 2) := by decide +kernel
theorem dX7_annex_7 : decode cX7_annex 7 = .ok (.aload 4, 2) := by decide +kernel
theorem dX7_annex_9 : decode cX7_annex 9 = .ok (.ifnull 18, 3) := by decide +kernel
theorem dX7_annex_12 : decode cX7_annex 12 = .ok (.iconst 0, 1) := by decide +kernel
theorem dX7_annex_13 : decode cX7_annex 13 = .ok (.iconst 3, 1) := by decide +kernel
theorem dX7_annex_14 : decode cX7_annex 14 = .ok (.iload_n 2, 1) := by decide +kernel
theorem dX7_annex_15 : decode cX7_annex 15 = .ok (.invokestatic 43, 3) := by decide +kernel
theorem dX7_annex_18 : decode cX7_annex 18 = .ok (.ifCond .eq 9, 3) := by decide +kernel
theorem dX7_annex_21 : decode cX7_annex 21 = .ok (.iload_n 3, 1) := by decide +kernel
theorem dX7_annex_22 : decode cX7_annex 22 = .ok (.bipush 100, 2) := by decide +kernel
theorem dX7_annex_24 : decode cX7_annex 24 = .ok (.if_icmp .le 6, 3) := by decide +kernel
theorem dX7_annex_27 : decode cX7_annex 27 = .ok (.bipush (-2), 2) := by decide +kernel
theorem dX7_annex_29 : decode cX7_annex 29 = .ok (.ireturn, 1) := by decide +kernel
theorem dX7_annex_30 : decode cX7_annex 30 = .ok (.aload 4, 2) := by decide +kernel
theorem dX7_annex_32 : decode cX7_annex 32 = .ok (.getfield 202, 3) := by decide +kernel
theorem dX7_annex_35 : decode cX7_annex 35 = .ok (.bipush 8, 2) := by decide +kernel
theorem dX7_annex_37 : decode cX7_annex 37 = .ok (.if_icmp .lt 6, 3) := by decide +kernel
theorem dX7_annex_40 : decode cX7_annex 40 = .ok (.bipush (-8), 2) := by decide +kernel
theorem dX7_annex_42 : decode cX7_annex 42 = .ok (.ireturn, 1) := by decide +kernel
theorem dX7_annex_43 : decode cX7_annex 43 = .ok (.iload_n 3, 1) := by decide +kernel
theorem dX7_annex_44 : decode cX7_annex 44 = .ok (.ifCond .ge 6, 3) := by decide +kernel
theorem dX7_annex_47 : decode cX7_annex 47 = .ok (.bipush (-3), 2) := by decide +kernel
theorem dX7_annex_49 : decode cX7_annex 49 = .ok (.ireturn, 1) := by decide +kernel
theorem dX7_annex_50 : decode cX7_annex 50 = .ok (.aload 4, 2) := by decide +kernel
theorem dX7_annex_52 : decode cX7_annex 52 = .ok (.new 205, 3) := by decide +kernel
theorem dX7_annex_55 : decode cX7_annex 55 = .ok (.dup, 1) := by decide +kernel
theorem dX7_annex_56 : decode cX7_annex 56 = .ok (.iload_n 2, 1) := by decide +kernel
theorem dX7_annex_57 : decode cX7_annex 57 = .ok (.iload_n 3, 1) := by decide +kernel
theorem dX7_annex_58 : decode cX7_annex 58 = .ok (.invokespecial 207, 3) := by decide +kernel
theorem dX7_annex_61 : decode cX7_annex 61 = .ok (.invokevirtual 210, 3) := by decide +kernel
theorem dX7_annex_64 : decode cX7_annex 64 = .ok (.ireturn, 1) := by decide +kernel
theorem dX7_tear_0 : decode cX7_tear 0 = .ok (.aload_n 0, 1) := by decide +kernel
theorem dX7_tear_1 : decode cX7_tear 1 = .ok (.iload_n 1, 1) := by decide +kernel
theorem dX7_tear_2 : decode cX7_tear 2 = .ok (.iload_n 2, 1) := by decide +kernel
theorem dX7_tear_3 : decode cX7_tear 3 = .ok (.invokevirtual 214, 3) := by decide +kernel
theorem dX7_tear_6 : decode cX7_tear 6 = .ok (.astore_n 3, 1) := by decide +kernel
theorem dX7_tear_7 : decode cX7_tear 7 = .ok (.aload_n 3, 1) := by decide +kernel
theorem dX7_tear_8 : decode cX7_tear 8 = .ok (.ifnull 10, 3) := by decide +kernel
theorem dX7_tear_11 : decode cX7_tear 11 = .ok (.aload_n 3, 1) := by decide +kernel
theorem dX7_tear_12 : decode cX7_tear 12 = .ok (.getfield 218, 3) := by decide +kernel
theorem dX7_tear_15 : decode cX7_tear 15 = .ok (.ifnonnull 5, 3) := by decide +kernel
theorem dX7_tear_18 : decode cX7_tear 18 = .ok (.iconst 0, 1) := by decide +kernel
theorem dX7_tear_19 : decode cX7_tear 19 = .ok (.ireturn, 1) := by decide +kernel
theorem dX7_tear_20 : decode cX7_tear 20 = .ok (.aload_n 3, 1) := by decide +kernel
theorem dX7_tear_21 : decode cX7_tear 21 = .ok (.aconst_null, 1) := by decide +kernel
theorem dX7_tear_22 : decode cX7_tear 22 = .ok (.putfield 218, 3) := by decide +kernel
theorem dX7_tear_25 : decode cX7_tear 25 = .ok (.iconst 1, 1) := by decide +kernel
theorem dX7_tear_26 : decode cX7_tear 26 = .ok (.ireturn, 1) := by decide +kernel
theorem dX7_write_0 : decode cX7_write 0 = .ok (.aload_n 0, 1) := by decide +kernel
theorem dX7_write_1 : decode cX7_write 1 = .ok (.iload_n 1, 1) := by decide +kernel
theorem dX7_write_2 : decode cX7_write 2 = .ok (.iload_n 2, 1) := by decide +kernel
theorem dX7_write_3 : decode cX7_write 3 = .ok (.invokevirtual 214, 3) := by decide +kernel
theorem dX7_write_6 : decode cX7_write 6 = .ok (.astore 6, 2) := by decide +kernel
theorem dX7_write_8 : decode cX7_write 8 = .ok (.aload 6, 2) := by decide +kernel
theorem dX7_write_10 : decode cX7_write 10 = .ok (.ifnonnull 6, 3) := by decide +kernel
theorem dX7_write_13 : decode cX7_write 13 = .ok (.bipush (-2), 2) := by decide +kernel
theorem dX7_write_15 : decode cX7_write 15 = .ok (.ireturn, 1) := by decide +kernel
theorem dX7_write_16 : decode cX7_write 16 = .ok (.aload 6, 2) := by decide +kernel
theorem dX7_write_18 : decode cX7_write 18 = .ok (.iload_n 3, 1) := by decide +kernel
theorem dX7_write_19 : decode cX7_write 19 = .ok (.lload 4, 2) := by decide +kernel
theorem dX7_write_21 : decode cX7_write 21 = .ok (.invokevirtual 222, 3) := by decide +kernel
theorem dX7_write_24 : decode cX7_write 24 = .ok (.ireturn, 1) := by decide +kernel
theorem dX7_read_0 : decode cX7_read 0 = .ok (.aload_n 0, 1) := by decide +kernel
theorem dX7_read_1 : decode cX7_read 1 = .ok (.iload_n 1, 1) := by decide +kernel
theorem dX7_read_2 : decode cX7_read 2 = .ok (.iload_n 2, 1) := by decide +kernel
theorem dX7_read_3 : decode cX7_read 3 = .ok (.invokevirtual 214, 3) := by decide +kernel
theorem dX7_read_6 : decode cX7_read 6 = .ok (.astore 4, 2) := by decide +kernel
theorem dX7_read_8 : decode cX7_read 8 = .ok (.aload 4, 2) := by decide +kernel
theorem dX7_read_10 : decode cX7_read 10 = .ok (.ifnonnull 7, 3) := by decide +kernel
theorem dX7_read_13 : decode cX7_read 13 = .ok (.lconst 0, 1) := by decide +kernel
theorem dX7_read_14 : decode cX7_read 14 = .ok (.goto 9, 3) := by decide +kernel
theorem dX7_read_17 : decode cX7_read 17 = .ok (.aload 4, 2) := by decide +kernel
theorem dX7_read_19 : decode cX7_read 19 = .ok (.iload_n 3, 1) := by decide +kernel
theorem dX7_read_20 : decode cX7_read 20 = .ok (.invokevirtual 226, 3) := by decide +kernel
theorem dX7_read_23 : decode cX7_read 23 = .ok (.lreturn, 1) := by decide +kernel
theorem dX7_size_0 : decode cX7_size 0 = .ok (.aload_n 0, 1) := by decide +kernel
theorem dX7_size_1 : decode cX7_size 1 = .ok (.iload_n 1, 1) := by decide +kernel
theorem dX7_size_2 : decode cX7_size 2 = .ok (.iload_n 2, 1) := by decide +kernel
theorem dX7_size_3 : decode cX7_size 3 = .ok (.invokevirtual 214, 3) := by decide +kernel
theorem dX7_size_6 : decode cX7_size 6 = .ok (.astore_n 3, 1) := by decide +kernel
theorem dX7_size_7 : decode cX7_size 7 = .ok (.aload_n 3, 1) := by decide +kernel
theorem dX7_size_8 : decode cX7_size 8 = .ok (.ifnonnull 6, 3) := by decide +kernel
theorem dX7_size_11 : decode cX7_size 11 = .ok (.bipush (-2), 2) := by decide +kernel
theorem dX7_size_13 : decode cX7_size 13 = .ok (.ireturn, 1) := by decide +kernel
theorem dX7_size_14 : decode cX7_size 14 = .ok (.aload_n 3, 1) := by decide +kernel
theorem dX7_size_15 : decode cX7_size 15 = .ok (.getfield 218, 3) := by decide +kernel
theorem dX7_size_18 : decode cX7_size 18 = .ok (.ifnonnull 8, 3) := by decide +kernel
theorem dX7_size_21 : decode cX7_size 21 = .ok (.bipush (-5), 2) := by decide +kernel
theorem dX7_size_23 : decode cX7_size 23 = .ok (.goto 8, 3) := by decide +kernel
theorem dX7_size_26 : decode cX7_size 26 = .ok (.aload_n 3, 1) := by decide +kernel
theorem dX7_size_27 : decode cX7_size 27 = .ok (.getfield 218, 3) := by decide +kernel
theorem dX7_size_30 : decode cX7_size 30 = .ok (.arraylength, 1) := by decide +kernel
theorem dX7_size_31 : decode cX7_size 31 = .ok (.ireturn, 1) := by decide +kernel
theorem dX7_copy_0 : decode cX7_copy 0 = .ok (.aload_n 0, 1) := by decide +kernel
theorem dX7_copy_1 : decode cX7_copy 1 = .ok (.iload_n 1, 1) := by decide +kernel
theorem dX7_copy_2 : decode cX7_copy 2 = .ok (.iload_n 2, 1) := by decide +kernel
theorem dX7_copy_3 : decode cX7_copy 3 = .ok (.invokevirtual 214, 3) := by decide +kernel
theorem dX7_copy_6 : decode cX7_copy 6 = .ok (.astore 8, 2) := by decide +kernel
theorem dX7_copy_8 : decode cX7_copy 8 = .ok (.aload_n 0, 1) := by decide +kernel
theorem dX7_copy_9 : decode cX7_copy 9 = .ok (.iload 4, 2) := by decide +kernel
theorem dX7_copy_11 : decode cX7_copy 11 = .ok (.iload 5, 2) := by decide +kernel
theorem dX7_copy_13 : decode cX7_copy 13 = .ok (.invokevirtual 214, 3) := by decide +kernel
theorem dX7_copy_16 : decode cX7_copy 16 = .ok (.astore 9, 2) := by decide +kernel
theorem dX7_copy_18 : decode cX7_copy 18 = .ok (.aload 8, 2) := by decide +kernel
theorem dX7_copy_20 : decode cX7_copy 20 = .ok (.ifnull 8, 3) := by decide +kernel
theorem dX7_copy_23 : decode cX7_copy 23 = .ok (.aload 9, 2) := by decide +kernel
theorem dX7_copy_25 : decode cX7_copy 25 = .ok (.ifnonnull 6, 3) := by decide +kernel
theorem dX7_copy_28 : decode cX7_copy 28 = .ok (.bipush (-2), 2) := by decide +kernel
theorem dX7_copy_30 : decode cX7_copy 30 = .ok (.ireturn, 1) := by decide +kernel
theorem dX7_copy_31 : decode cX7_copy 31 = .ok (.aload 8, 2) := by decide +kernel
theorem dX7_copy_33 : decode cX7_copy 33 = .ok (.getfield 218, 3) := by decide +kernel
theorem dX7_copy_36 : decode cX7_copy 36 = .ok (.ifnull 11, 3) := by decide +kernel
theorem dX7_copy_39 : decode cX7_copy 39 = .ok (.aload 9, 2) := by decide +kernel
theorem dX7_copy_41 : decode cX7_copy 41 = .ok (.getfield 218, 3) := by decide +kernel
theorem dX7_copy_44 : decode cX7_copy 44 = .ok (.ifnonnull 6, 3) := by decide +kernel
theorem dX7_copy_47 : decode cX7_copy 47 = .ok (.bipush (-5), 2) := by decide +kernel
theorem dX7_copy_49 : decode cX7_copy 49 = .ok (.ireturn, 1) := by decide +kernel
theorem dX7_copy_50 : decode cX7_copy 50 = .ok (.aload 8, 2) := by decide +kernel
theorem dX7_copy_52 : decode cX7_copy 52 = .ok (.getfield 230, 3) := by decide +kernel
theorem dX7_copy_55 : decode cX7_copy 55 = .ok (.aload 9, 2) := by decide +kernel
theorem dX7_copy_57 : decode cX7_copy 57 = .ok (.getfield 230, 3) := by decide +kernel
theorem dX7_copy_60 : decode cX7_copy 60 = .ok (.if_icmp .eq 6, 3) := by decide +kernel
theorem dX7_copy_63 : decode cX7_copy 63 = .ok (.bipush (-7), 2) := by decide +kernel
theorem dX7_copy_65 : decode cX7_copy 65 = .ok (.ireturn, 1) := by decide +kernel
theorem dX7_copy_66 : decode cX7_copy 66 = .ok (.aload 8, 2) := by decide +kernel
theorem dX7_copy_68 : decode cX7_copy 68 = .ok (.iload_n 3, 1) := by decide +kernel
theorem dX7_copy_69 : decode cX7_copy 69 = .ok (.iload 7, 2) := by decide +kernel
theorem dX7_copy_71 : decode cX7_copy 71 = .ok (.invokevirtual 233, 3) := by decide +kernel
theorem dX7_copy_74 : decode cX7_copy 74 = .ok (.ifCond .eq 15, 3) := by decide +kernel
theorem dX7_copy_77 : decode cX7_copy 77 = .ok (.aload 9, 2) := by decide +kernel
theorem dX7_copy_79 : decode cX7_copy 79 = .ok (.iload 6, 2) := by decide +kernel
theorem dX7_copy_81 : decode cX7_copy 81 = .ok (.iload 7, 2) := by decide +kernel
theorem dX7_copy_83 : decode cX7_copy 83 = .ok (.invokevirtual 233, 3) := by decide +kernel
theorem dX7_copy_86 : decode cX7_copy 86 = .ok (.ifCond .ne 6, 3) := by decide +kernel
theorem dX7_copy_89 : decode cX7_copy 89 = .ok (.bipush (-6), 2) := by decide +kernel
theorem dX7_copy_91 : decode cX7_copy 91 = .ok (.ireturn, 1) := by decide +kernel
theorem dX7_copy_92 : decode cX7_copy 92 = .ok (.aload 8, 2) := by decide +kernel
theorem dX7_copy_94 : decode cX7_copy 94 = .ok (.getfield 218, 3) := by decide +kernel
theorem dX7_copy_97 : decode cX7_copy 97 = .ok (.iload_n 3, 1) := by decide +kernel
theorem dX7_copy_98 : decode cX7_copy 98 = .ok (.aload 9, 2) := by decide +kernel
theorem dX7_copy_100 : decode cX7_copy 100 = .ok (.getfield 218, 3) := by decide +kernel
theorem dX7_copy_103 : decode cX7_copy 103 = .ok (.iload 6, 2) := by decide +kernel
theorem dX7_copy_105 : decode cX7_copy 105 = .ok (.iload 7, 2) := by decide +kernel
theorem dX7_copy_107 : decode cX7_copy 107 = .ok (.invokestatic 237, 3) := by decide +kernel
theorem dX7_copy_110 : decode cX7_copy 110 = .ok (.iconst 0, 1) := by decide +kernel
theorem dX7_copy_111 : decode cX7_copy 111 = .ok (.ireturn, 1) := by decide +kernel
theorem dX7_count_0 : decode cX7_count 0 = .ok (.iload_n 1, 1) := by decide +kernel
theorem dX7_count_1 : decode cX7_count 1 = .ok (.tableswitch 54 0 3 #[31, 36, 41, 49], 31) := by decide +kernel
theorem dX7_count_32 : decode cX7_count 32 = .ok (.aload_n 0, 1) := by decide +kernel
theorem dX7_count_33 : decode cX7_count 33 = .ok (.getfield 36, 3) := by decide +kernel
theorem dX7_count_36 : decode cX7_count 36 = .ok (.ireturn, 1) := by decide +kernel
theorem dX7_count_37 : decode cX7_count 37 = .ok (.aload_n 0, 1) := by decide +kernel
theorem dX7_count_38 : decode cX7_count 38 = .ok (.getfield 40, 3) := by decide +kernel
theorem dX7_count_41 : decode cX7_count 41 = .ok (.ireturn, 1) := by decide +kernel
theorem dX7_count_42 : decode cX7_count 42 = .ok (.aload_n 0, 1) := by decide +kernel
theorem dX7_count_43 : decode cX7_count 43 = .ok (.getfield 18, 3) := by decide +kernel
theorem dX7_count_46 : decode cX7_count 46 = .ok (.getfield 154, 3) := by decide +kernel
theorem dX7_count_49 : decode cX7_count 49 = .ok (.ireturn, 1) := by decide +kernel
theorem dX7_count_50 : decode cX7_count 50 = .ok (.aload_n 0, 1) := by decide +kernel
theorem dX7_count_51 : decode cX7_count 51 = .ok (.getfield 67, 3) := by decide +kernel
theorem dX7_count_54 : decode cX7_count 54 = .ok (.ireturn, 1) := by decide +kernel
theorem dX7_count_55 : decode cX7_count 55 = .ok (.iload_n 1, 1) := by decide +kernel
theorem dX7_count_56 : decode cX7_count 56 = .ok (.bipush 10, 2) := by decide +kernel
theorem dX7_count_58 : decode cX7_count 58 = .ok (.if_icmp .ge 5, 3) := by decide +kernel
theorem dX7_count_61 : decode cX7_count 61 = .ok (.iconst (-1), 1) := by decide +kernel
theorem dX7_count_62 : decode cX7_count 62 = .ok (.ireturn, 1) := by decide +kernel
theorem dX7_count_63 : decode cX7_count 63 = .ok (.aload_n 0, 1) := by decide +kernel
theorem dX7_count_64 : decode cX7_count 64 = .ok (.iload_n 1, 1) := by decide +kernel
theorem dX7_count_65 : decode cX7_count 65 = .ok (.bipush 10, 2) := by decide +kernel
theorem dX7_count_67 : decode cX7_count 67 = .ok (.idiv, 1) := by decide +kernel
theorem dX7_count_68 : decode cX7_count 68 = .ok (.iconst 1, 1) := by decide +kernel
theorem dX7_count_69 : decode cX7_count 69 = .ok (.isub, 1) := by decide +kernel
theorem dX7_count_70 : decode cX7_count 70 = .ok (.invokevirtual 50, 3) := by decide +kernel
theorem dX7_count_73 : decode cX7_count 73 = .ok (.astore_n 2, 1) := by decide +kernel
theorem dX7_count_74 : decode cX7_count 74 = .ok (.aload_n 2, 1) := by decide +kernel
theorem dX7_count_75 : decode cX7_count 75 = .ok (.ifnonnull 7, 3) := by decide +kernel
theorem dX7_count_78 : decode cX7_count 78 = .ok (.iconst (-1), 1) := by decide +kernel
theorem dX7_count_79 : decode cX7_count 79 = .ok (.goto 11, 3) := by decide +kernel
theorem dX7_count_82 : decode cX7_count 82 = .ok (.aload_n 2, 1) := by decide +kernel
theorem dX7_count_83 : decode cX7_count 83 = .ok (.iload_n 1, 1) := by decide +kernel
theorem dX7_count_84 : decode cX7_count 84 = .ok (.bipush 10, 2) := by decide +kernel
theorem dX7_count_86 : decode cX7_count 86 = .ok (.irem, 1) := by decide +kernel
theorem dX7_count_87 : decode cX7_count 87 = .ok (.invokevirtual 243, 3) := by decide +kernel
theorem dX7_count_90 : decode cX7_count 90 = .ok (.ireturn, 1) := by decide +kernel
theorem dX7_settle_0 : decode cX7_settle 0 = .ok (.aload_n 0, 1) := by decide +kernel
theorem dX7_settle_1 : decode cX7_settle 1 = .ok (.iload_n 3, 1) := by decide +kernel
theorem dX7_settle_2 : decode cX7_settle 2 = .ok (.invokevirtual 50, 3) := by decide +kernel
theorem dX7_settle_5 : decode cX7_settle 5 = .ok (.astore 7, 2) := by decide +kernel
theorem dX7_settle_7 : decode cX7_settle 7 = .ok (.aload_n 0, 1) := by decide +kernel
theorem dX7_settle_8 : decode cX7_settle 8 = .ok (.iload_n 1, 1) := by decide +kernel
theorem dX7_settle_9 : decode cX7_settle 9 = .ok (.invokevirtual 71, 3) := by decide +kernel
theorem dX7_settle_12 : decode cX7_settle 12 = .ok (.ifCond .eq 31, 3) := by decide +kernel
theorem dX7_settle_15 : decode cX7_settle 15 = .ok (.aload_n 0, 1) := by decide +kernel
theorem dX7_settle_16 : decode cX7_settle 16 = .ok (.iload_n 2, 1) := by decide +kernel
theorem dX7_settle_17 : decode cX7_settle 17 = .ok (.invokevirtual 71, 3) := by decide +kernel
theorem dX7_settle_20 : decode cX7_settle 20 = .ok (.ifCond .eq 23, 3) := by decide +kernel
theorem dX7_settle_23 : decode cX7_settle 23 = .ok (.iload_n 1, 1) := by decide +kernel
theorem dX7_settle_24 : decode cX7_settle 24 = .ok (.iload_n 2, 1) := by decide +kernel
theorem dX7_settle_25 : decode cX7_settle 25 = .ok (.if_icmp .eq 18, 3) := by decide +kernel
theorem dX7_settle_28 : decode cX7_settle 28 = .ok (.aload 7, 2) := by decide +kernel
theorem dX7_settle_30 : decode cX7_settle 30 = .ok (.ifnull 13, 3) := by decide +kernel
theorem dX7_settle_33 : decode cX7_settle 33 = .ok (.aload 7, 2) := by decide +kernel
theorem dX7_settle_35 : decode cX7_settle 35 = .ok (.iload 4, 2) := by decide +kernel
theorem dX7_settle_37 : decode cX7_settle 37 = .ok (.invokevirtual 54, 3) := by decide +kernel
theorem dX7_settle_40 : decode cX7_settle 40 = .ok (.ifCond .ne 5, 3) := by decide +kernel
theorem dX7_settle_43 : decode cX7_settle 43 = .ok (.iconst 0, 1) := by decide +kernel
theorem dX7_settle_44 : decode cX7_settle 44 = .ok (.ireturn, 1) := by decide +kernel
theorem dX7_settle_45 : decode cX7_settle 45 = .ok (.iload 5, 2) := by decide +kernel
theorem dX7_settle_47 : decode cX7_settle 47 = .ok (.invokestatic 178, 3) := by decide +kernel
theorem dX7_settle_50 : decode cX7_settle 50 = .ok (.ifCond .eq 11, 3) := by decide +kernel
theorem dX7_settle_53 : decode cX7_settle 53 = .ok (.iload 6, 2) := by decide +kernel
theorem dX7_settle_55 : decode cX7_settle 55 = .ok (.invokestatic 178, 3) := by decide +kernel
theorem dX7_settle_58 : decode cX7_settle 58 = .ok (.ifCond .ne 5, 3) := by decide +kernel
theorem dX7_settle_61 : decode cX7_settle 61 = .ok (.iconst 0, 1) := by decide +kernel
theorem dX7_settle_62 : decode cX7_settle 62 = .ok (.ireturn, 1) := by decide +kernel
theorem dX7_settle_63 : decode cX7_settle 63 = .ok (.aload_n 0, 1) := by decide +kernel
theorem dX7_settle_64 : decode cX7_settle 64 = .ok (.getfield 32, 3) := by decide +kernel
theorem dX7_settle_67 : decode cX7_settle 67 = .ok (.aload_n 0, 1) := by decide +kernel
theorem dX7_settle_68 : decode cX7_settle 68 = .ok (.getfield 18, 3) := by decide +kernel
theorem dX7_settle_71 : decode cX7_settle 71 = .ok (.iload_n 1, 1) := by decide +kernel
theorem dX7_settle_72 : decode cX7_settle 72 = .ok (.iload_n 2, 1) := by decide +kernel
theorem dX7_settle_73 : decode cX7_settle 73 = .ok (.aload 7, 2) := by decide +kernel
theorem dX7_settle_75 : decode cX7_settle 75 = .ok (.iload 4, 2) := by decide +kernel
theorem dX7_settle_77 : decode cX7_settle 77 = .ok (.iload 5, 2) := by decide +kernel
theorem dX7_settle_79 : decode cX7_settle 79 = .ok (.iload 6, 2) := by decide +kernel
theorem dX7_settle_81 : decode cX7_settle 81 = .ok (.invokevirtual 244, 3) := by decide +kernel
theorem dX7_settle_84 : decode cX7_settle 84 = .ok (.iconst 1, 1) := by decide +kernel
theorem dX7_settle_85 : decode cX7_settle 85 = .ok (.ireturn, 1) := by decide +kernel
theorem dX7_agreementAt_0 : decode cX7_agreementAt 0 = .ok (.iload_n 1, 1) := by decide +kernel
theorem dX7_agreementAt_1 : decode cX7_agreementAt 1 = .ok (.ifCond .lt 29, 3) := by decide +kernel
theorem dX7_agreementAt_4 : decode cX7_agreementAt 4 = .ok (.iload_n 1, 1) := by decide +kernel
theorem dX7_agreementAt_5 : decode cX7_agreementAt 5 = .ok (.aload_n 0, 1) := by decide +kernel
theorem dX7_agreementAt_6 : decode cX7_agreementAt 6 = .ok (.getfield 40, 3) := by decide +kernel
theorem dX7_agreementAt_9 : decode cX7_agreementAt 9 = .ok (.if_icmp .ge 21, 3) := by decide +kernel
theorem dX7_agreementAt_12 : decode cX7_agreementAt 12 = .ok (.iload_n 1, 1) := by decide +kernel
theorem dX7_agreementAt_13 : decode cX7_agreementAt 13 = .ok (.aload_n 0, 1) := by decide +kernel
theorem dX7_agreementAt_14 : decode cX7_agreementAt 14 = .ok (.getfield 11, 3) := by decide +kernel
theorem dX7_agreementAt_17 : decode cX7_agreementAt 17 = .ok (.arraylength, 1) := by decide +kernel
theorem dX7_agreementAt_18 : decode cX7_agreementAt 18 = .ok (.if_icmp .ge 12, 3) := by decide +kernel
theorem dX7_agreementAt_21 : decode cX7_agreementAt 21 = .ok (.aload_n 0, 1) := by decide +kernel
theorem dX7_agreementAt_22 : decode cX7_agreementAt 22 = .ok (.getfield 11, 3) := by decide +kernel
theorem dX7_agreementAt_25 : decode cX7_agreementAt 25 = .ok (.iload_n 1, 1) := by decide +kernel
theorem dX7_agreementAt_26 : decode cX7_agreementAt 26 = .ok (.aaload, 1) := by decide +kernel
theorem dX7_agreementAt_27 : decode cX7_agreementAt 27 = .ok (.goto 4, 3) := by decide +kernel
theorem dX7_agreementAt_30 : decode cX7_agreementAt 30 = .ok (.aconst_null, 1) := by decide +kernel
theorem dX7_agreementAt_31 : decode cX7_agreementAt 31 = .ok (.areturn, 1) := by decide +kernel
theorem dX7_annexAt_0 : decode cX7_annexAt 0 = .ok (.aload_n 0, 1) := by decide +kernel
theorem dX7_annexAt_1 : decode cX7_annexAt 1 = .ok (.iload_n 1, 1) := by decide +kernel
theorem dX7_annexAt_2 : decode cX7_annexAt 2 = .ok (.invokevirtual 50, 3) := by decide +kernel
theorem dX7_annexAt_5 : decode cX7_annexAt 5 = .ok (.astore_n 3, 1) := by decide +kernel
theorem dX7_annexAt_6 : decode cX7_annexAt 6 = .ok (.aload_n 3, 1) := by decide +kernel
theorem dX7_annexAt_7 : decode cX7_annexAt 7 = .ok (.ifnonnull 7, 3) := by decide +kernel
theorem dX7_annexAt_10 : decode cX7_annexAt 10 = .ok (.aconst_null, 1) := by decide +kernel
theorem dX7_annexAt_11 : decode cX7_annexAt 11 = .ok (.goto 8, 3) := by decide +kernel
theorem dX7_annexAt_14 : decode cX7_annexAt 14 = .ok (.aload_n 3, 1) := by decide +kernel
theorem dX7_annexAt_15 : decode cX7_annexAt 15 = .ok (.iload_n 2, 1) := by decide +kernel
theorem dX7_annexAt_16 : decode cX7_annexAt 16 = .ok (.invokevirtual 247, 3) := by decide +kernel
theorem dX7_annexAt_19 : decode cX7_annexAt 19 = .ok (.areturn, 1) := by decide +kernel
theorem dX7_isParty_0 : decode cX7_isParty 0 = .ok (.iload_n 1, 1) := by decide +kernel
theorem dX7_isParty_1 : decode cX7_isParty 1 = .ok (.ifCond .lt 15, 3) := by decide +kernel
theorem dX7_isParty_4 : decode cX7_isParty 4 = .ok (.iload_n 1, 1) := by decide +kernel
theorem dX7_isParty_5 : decode cX7_isParty 5 = .ok (.aload_n 0, 1) := by decide +kernel
theorem dX7_isParty_6 : decode cX7_isParty 6 = .ok (.getfield 36, 3) := by decide +kernel
theorem dX7_isParty_9 : decode cX7_isParty 9 = .ok (.if_icmp .ge 7, 3) := by decide +kernel
theorem dX7_isParty_12 : decode cX7_isParty 12 = .ok (.iconst 1, 1) := by decide +kernel
theorem dX7_isParty_13 : decode cX7_isParty 13 = .ok (.goto 4, 3) := by decide +kernel
theorem dX7_isParty_16 : decode cX7_isParty 16 = .ok (.iconst 0, 1) := by decide +kernel
theorem dX7_isParty_17 : decode cX7_isParty 17 = .ok (.ireturn, 1) := by decide +kernel
theorem dX7_isDay_0 : decode cX7_isDay 0 = .ok (.iconst 0, 1) := by decide +kernel
theorem dX7_isDay_1 : decode cX7_isDay 1 = .ok (.ldc 70, 2) := by decide +kernel
theorem dX7_isDay_3 : decode cX7_isDay 3 = .ok (.iload_n 0, 1) := by decide +kernel
theorem dX7_isDay_4 : decode cX7_isDay 4 = .ok (.invokestatic 43, 3) := by decide +kernel
theorem dX7_isDay_7 : decode cX7_isDay 7 = .ok (.ireturn, 1) := by decide +kernel
theorem dX7_isFrom_0 : decode cX7_isFrom 0 = .ok (.iload_n 2, 1) := by decide +kernel
theorem dX7_isFrom_1 : decode cX7_isFrom 1 = .ok (.iload_n 0, 1) := by decide +kernel
theorem dX7_isFrom_2 : decode cX7_isFrom 2 = .ok (.if_icmp .lt 12, 3) := by decide +kernel
theorem dX7_isFrom_5 : decode cX7_isFrom 5 = .ok (.iload_n 2, 1) := by decide +kernel
theorem dX7_isFrom_6 : decode cX7_isFrom 6 = .ok (.iload_n 1, 1) := by decide +kernel
theorem dX7_isFrom_7 : decode cX7_isFrom 7 = .ok (.if_icmp .gt 7, 3) := by decide +kernel
theorem dX7_isFrom_10 : decode cX7_isFrom 10 = .ok (.iconst 1, 1) := by decide +kernel
theorem dX7_isFrom_11 : decode cX7_isFrom 11 = .ok (.goto 4, 3) := by decide +kernel
theorem dX7_isFrom_14 : decode cX7_isFrom 14 = .ok (.iconst 0, 1) := by decide +kernel
theorem dX7_isFrom_15 : decode cX7_isFrom 15 = .ok (.ireturn, 1) := by decide +kernel
theorem dX7_numberOf_0 : decode cX7_numberOf 0 = .ok (.aload_n 0, 1) := by decide +kernel
theorem dX7_numberOf_1 : decode cX7_numberOf 1 = .ok (.ifnonnull 7, 3) := by decide +kernel
theorem dX7_numberOf_4 : decode cX7_numberOf 4 = .ok (.iconst (-1), 1) := by decide +kernel
theorem dX7_numberOf_5 : decode cX7_numberOf 5 = .ok (.goto 7, 3) := by decide +kernel
theorem dX7_numberOf_8 : decode cX7_numberOf 8 = .ok (.aload_n 0, 1) := by decide +kernel
theorem dX7_numberOf_9 : decode cX7_numberOf 9 = .ok (.getfield 86, 3) := by decide +kernel
theorem dX7_numberOf_12 : decode cX7_numberOf 12 = .ok (.ireturn, 1) := by decide +kernel
theorem dX8_init_0 : decode cX8_init 0 = .ok (.aload_n 0, 1) := by decide +kernel
theorem dX8_init_1 : decode cX8_init 1 = .ok (.invokespecial 1, 3) := by decide +kernel
theorem dX8_init_4 : decode cX8_init 4 = .ok (.aload_n 0, 1) := by decide +kernel
theorem dX8_init_5 : decode cX8_init 5 = .ok (.bipush 10, 2) := by decide +kernel
theorem dX8_init_7 : decode cX8_init 7 = .ok (.newarray .int, 2) := by decide +kernel
theorem dX8_init_9 : decode cX8_init 9 = .ok (.putfield 7, 3) := by decide +kernel
theorem dX8_init_12 : decode cX8_init 12 = .ok (.aload_n 0, 1) := by decide +kernel
theorem dX8_init_13 : decode cX8_init 13 = .ok (.bipush 10, 2) := by decide +kernel
theorem dX8_init_15 : decode cX8_init 15 = .ok (.newarray .int, 2) := by decide +kernel
theorem dX8_init_17 : decode cX8_init 17 = .ok (.putfield 13, 3) := by decide +kernel
theorem dX8_init_20 : decode cX8_init 20 = .ok (.aload_n 0, 1) := by decide +kernel
theorem dX8_init_21 : decode cX8_init 21 = .ok (.bipush 10, 2) := by decide +kernel
theorem dX8_init_23 : decode cX8_init 23 = .ok (.newarray .int, 2) := by decide +kernel
theorem dX8_init_25 : decode cX8_init 25 = .ok (.putfield 16, 3) := by decide +kernel
theorem dX8_init_28 : decode cX8_init 28 = .ok (.aload_n 0, 1) := by decide +kernel
theorem dX8_init_29 : decode cX8_init 29 = .ok (.bipush 10, 2) := by decide +kernel
theorem dX8_init_31 : decode cX8_init 31 = .ok (.newarray .int, 2) := by decide +kernel
theorem dX8_init_33 : decode cX8_init 33 = .ok (.putfield 19, 3) := by decide +kernel
theorem dX8_init_36 : decode cX8_init 36 = .ok (.aload_n 0, 1) := by decide +kernel
theorem dX8_init_37 : decode cX8_init 37 = .ok (.sipush 200, 3) := by decide +kernel
theorem dX8_init_40 : decode cX8_init 40 = .ok (.newarray .int, 2) := by decide +kernel
theorem dX8_init_42 : decode cX8_init 42 = .ok (.putfield 22, 3) := by decide +kernel
theorem dX8_init_45 : decode cX8_init 45 = .ok (.aload_n 0, 1) := by decide +kernel
theorem dX8_init_46 : decode cX8_init 46 = .ok (.sipush 400, 3) := by decide +kernel
theorem dX8_init_49 : decode cX8_init 49 = .ok (.newarray .int, 2) := by decide +kernel
theorem dX8_init_51 : decode cX8_init 51 = .ok (.putfield 25, 3) := by decide +kernel
theorem dX8_init_54 : decode cX8_init 54 = .ok (.aload_n 0, 1) := by decide +kernel
theorem dX8_init_55 : decode cX8_init 55 = .ok (.sipush 400, 3) := by decide +kernel
theorem dX8_init_58 : decode cX8_init 58 = .ok (.newarray .int, 2) := by decide +kernel
theorem dX8_init_60 : decode cX8_init 60 = .ok (.putfield 28, 3) := by decide +kernel
theorem dX8_init_63 : decode cX8_init 63 = .ok (.aload_n 0, 1) := by decide +kernel
theorem dX8_init_64 : decode cX8_init 64 = .ok (.sipush 400, 3) := by decide +kernel
theorem dX8_init_67 : decode cX8_init 67 = .ok (.newarray .int, 2) := by decide +kernel
theorem dX8_init_69 : decode cX8_init 69 = .ok (.putfield 31, 3) := by decide +kernel
theorem dX8_init_72 : decode cX8_init 72 = .ok (.aload_n 0, 1) := by decide +kernel
theorem dX8_init_73 : decode cX8_init 73 = .ok (.sipush 400, 3) := by decide +kernel
theorem dX8_init_76 : decode cX8_init 76 = .ok (.newarray .int, 2) := by decide +kernel
theorem dX8_init_78 : decode cX8_init 78 = .ok (.putfield 34, 3) := by decide +kernel
theorem dX8_init_81 : decode cX8_init 81 = .ok (.aload_n 0, 1) := by decide +kernel
theorem dX8_init_82 : decode cX8_init 82 = .ok (.sipush 400, 3) := by decide +kernel
theorem dX8_init_85 : decode cX8_init 85 = .ok (.newarray .int, 2) := by decide +kernel
theorem dX8_init_87 : decode cX8_init 87 = .ok (.putfield 37, 3) := by decide +kernel
theorem dX8_init_90 : decode cX8_init 90 = .ok (.aload_n 0, 1) := by decide +kernel
theorem dX8_init_91 : decode cX8_init 91 = .ok (.sipush 400, 3) := by decide +kernel
theorem dX8_init_94 : decode cX8_init 94 = .ok (.newarray .int, 2) := by decide +kernel
theorem dX8_init_96 : decode cX8_init 96 = .ok (.putfield 40, 3) := by decide +kernel
theorem dX8_init_99 : decode cX8_init 99 = .ok (.aload_n 0, 1) := by decide +kernel
theorem dX8_init_100 : decode cX8_init 100 = .ok (.sipush 400, 3) := by decide +kernel
theorem dX8_init_103 : decode cX8_init 103 = .ok (.newarray .int, 2) := by decide +kernel
theorem dX8_init_105 : decode cX8_init 105 = .ok (.putfield 43, 3) := by decide +kernel
theorem dX8_init_108 : decode cX8_init 108 = .ok (.aload_n 0, 1) := by decide +kernel
theorem dX8_init_109 : decode cX8_init 109 = .ok (.sipush 400, 3) := by decide +kernel
theorem dX8_init_112 : decode cX8_init 112 = .ok (.newarray .int, 2) := by decide +kernel
theorem dX8_init_114 : decode cX8_init 114 = .ok (.putfield 46, 3) := by decide +kernel
theorem dX8_init_117 : decode cX8_init 117 = .ok (.aload_n 0, 1) := by decide +kernel
theorem dX8_init_118 : decode cX8_init 118 = .ok (.sipush 400, 3) := by decide +kernel
theorem dX8_init_121 : decode cX8_init 121 = .ok (.newarray .int, 2) := by decide +kernel
theorem dX8_init_123 : decode cX8_init 123 = .ok (.putfield 49, 3) := by decide +kernel
theorem dX8_init_126 : decode cX8_init 126 = .ok (.aload_n 0, 1) := by decide +kernel
theorem dX8_init_127 : decode cX8_init 127 = .ok (.sipush 400, 3) := by decide +kernel
theorem dX8_init_130 : decode cX8_init 130 = .ok (.newarray .int, 2) := by decide +kernel
theorem dX8_init_132 : decode cX8_init 132 = .ok (.putfield 52, 3) := by decide +kernel
theorem dX8_init_135 : decode cX8_init 135 = .ok (.aload_n 0, 1) := by decide +kernel
theorem dX8_init_136 : decode cX8_init 136 = .ok (.sipush 400, 3) := by decide +kernel
theorem dX8_init_139 : decode cX8_init 139 = .ok (.newarray .long, 2) := by decide +kernel
theorem dX8_init_141 : decode cX8_init 141 = .ok (.putfield 55, 3) := by decide +kernel
theorem dX8_init_144 : decode cX8_init 144 = .ok (.aload_n 0, 1) := by decide +kernel
theorem dX8_init_145 : decode cX8_init 145 = .ok (.sipush 400, 3) := by decide +kernel
theorem dX8_init_148 : decode cX8_init 148 = .ok (.newarray .boolean, 2) := by decide +kernel
theorem dX8_init_150 : decode cX8_init 150 = .ok (.putfield 59, 3) := by decide +kernel
theorem dX8_init_153 : decode cX8_init 153 = .ok (.aload_n 0, 1) := by decide +kernel
theorem dX8_init_154 : decode cX8_init 154 = .ok (.bipush 10, 2) := by decide +kernel
theorem dX8_init_156 : decode cX8_init 156 = .ok (.newarray .int, 2) := by decide +kernel
theorem dX8_init_158 : decode cX8_init 158 = .ok (.putfield 63, 3) := by decide +kernel
theorem dX8_init_161 : decode cX8_init 161 = .ok (.aload_n 0, 1) := by decide +kernel
theorem dX8_init_162 : decode cX8_init 162 = .ok (.bipush 80, 2) := by decide +kernel
theorem dX8_init_164 : decode cX8_init 164 = .ok (.newarray .int, 2) := by decide +kernel
theorem dX8_init_166 : decode cX8_init 166 = .ok (.putfield 66, 3) := by decide +kernel
theorem dX8_init_169 : decode cX8_init 169 = .ok (.aload_n 0, 1) := by decide +kernel
theorem dX8_init_170 : decode cX8_init 170 = .ok (.bipush 80, 2) := by decide +kernel
theorem dX8_init_172 : decode cX8_init 172 = .ok (.newarray .int, 2) := by decide +kernel
theorem dX8_init_174 : decode cX8_init 174 = .ok (.putfield 69, 3) := by decide +kernel
theorem dX8_init_177 : decode cX8_init 177 = .ok (.aload_n 0, 1) := by decide +kernel
theorem dX8_init_178 : decode cX8_init 178 = .ok (.sipush 8000, 3) := by decide +kernel
theorem dX8_init_181 : decode cX8_init 181 = .ok (.newarray .long, 2) := by decide +kernel
theorem dX8_init_183 : decode cX8_init 183 = .ok (.putfield 72, 3) := by decide +kernel
theorem dX8_init_186 : decode cX8_init 186 = .ok (.aload_n 0, 1) := by decide +kernel
theorem dX8_init_187 : decode cX8_init 187 = .ok (.bipush 100, 2) := by decide +kernel
theorem dX8_init_189 : decode cX8_init 189 = .ok (.newarray .long, 2) := by decide +kernel
theorem dX8_init_191 : decode cX8_init 191 = .ok (.putfield 75, 3) := by decide +kernel
theorem dX8_init_194 : decode cX8_init 194 = .ok (.return_, 1) := by decide +kernel
