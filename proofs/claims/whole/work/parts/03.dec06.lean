theorem dX8_changes_0 : decode cX8_changes 0 = .ok (.aload_n 0, 1) := by decide +kernel
theorem dX8_changes_1 : decode cX8_changes 1 = .ok (.iconst 1, 1) := by decide +kernel
theorem dX8_changes_2 : decode cX8_changes 2 = .ok (.putfield 150, 3) := by decide +kernel
theorem dX8_changes_5 : decode cX8_changes 5 = .ok (.aload_n 0, 1) := by decide +kernel
theorem dX8_changes_6 : decode cX8_changes 6 = .ok (.aload_n 0, 1) := by decide +kernel
theorem dX8_changes_7 : decode cX8_changes 7 = .ok (.getfield 22, 3) := by decide +kernel
theorem dX8_changes_10 : decode cX8_changes 10 = .ok (.bipush 20, 2) := by decide +kernel
theorem dX8_changes_12 : decode cX8_changes 12 = .ok (.iload_n 3, 1) := by decide +kernel
theorem dX8_changes_13 : decode cX8_changes 13 = .ok (.imul, 1) := by decide +kernel
theorem dX8_changes_14 : decode cX8_changes 14 = .ok (.iload 4, 2) := by decide +kernel
theorem dX8_changes_16 : decode cX8_changes 16 = .ok (.iadd, 1) := by decide +kernel
theorem dX8_changes_17 : decode cX8_changes 17 = .ok (.iaload, 1) := by decide +kernel
theorem dX8_changes_18 : decode cX8_changes 18 = .ok (.putfield 153, 3) := by decide +kernel
theorem dX8_changes_21 : decode cX8_changes 21 = .ok (.iconst (-1), 1) := by decide +kernel
theorem dX8_changes_22 : decode cX8_changes 22 = .ok (.istore 7, 2) := by decide +kernel
theorem dX8_changes_24 : decode cX8_changes 24 = .ok (.iconst 0, 1) := by decide +kernel
theorem dX8_changes_25 : decode cX8_changes 25 = .ok (.istore 8, 2) := by decide +kernel
theorem dX8_changes_27 : decode cX8_changes 27 = .ok (.iload 8, 2) := by decide +kernel
theorem dX8_changes_29 : decode cX8_changes 29 = .ok (.aload_n 0, 1) := by decide +kernel
theorem dX8_changes_30 : decode cX8_changes 30 = .ok (.getfield 89, 3) := by decide +kernel
theorem dX8_changes_33 : decode cX8_changes 33 = .ok (.if_icmp .ge 106, 3) := by decide +kernel
theorem dX8_changes_36 : decode cX8_changes 36 = .ok (.aload_n 0, 1) := by decide +kernel
theorem dX8_changes_37 : decode cX8_changes 37 = .ok (.getfield 25, 3) := by decide +kernel
theorem dX8_changes_40 : decode cX8_changes 40 = .ok (.iload 8, 2) := by decide +kernel
theorem dX8_changes_42 : decode cX8_changes 42 = .ok (.iaload, 1) := by decide +kernel
theorem dX8_changes_43 : decode cX8_changes 43 = .ok (.bipush 6, 2) := by decide +kernel
theorem dX8_changes_45 : decode cX8_changes 45 = .ok (.if_icmp .ne 42, 3) := by decide +kernel
theorem dX8_changes_48 : decode cX8_changes 48 = .ok (.aload_n 0, 1) := by decide +kernel
theorem dX8_changes_49 : decode cX8_changes 49 = .ok (.getfield 31, 3) := by decide +kernel
theorem dX8_changes_52 : decode cX8_changes 52 = .ok (.iload 8, 2) := by decide +kernel
theorem dX8_changes_54 : decode cX8_changes 54 = .ok (.iaload, 1) := by decide +kernel
theorem dX8_changes_55 : decode cX8_changes 55 = .ok (.iload_n 3, 1) := by decide +kernel
theorem dX8_changes_56 : decode cX8_changes 56 = .ok (.if_icmp .ne 31, 3) := by decide +kernel
theorem dX8_changes_59 : decode cX8_changes 59 = .ok (.aload_n 0, 1) := by decide +kernel
theorem dX8_changes_60 : decode cX8_changes 60 = .ok (.getfield 46, 3) := by decide +kernel
theorem dX8_changes_63 : decode cX8_changes 63 = .ok (.iload 8, 2) := by decide +kernel
theorem dX8_changes_65 : decode cX8_changes 65 = .ok (.iaload, 1) := by decide +kernel
theorem dX8_changes_66 : decode cX8_changes 66 = .ok (.iload 4, 2) := by decide +kernel
theorem dX8_changes_68 : decode cX8_changes 68 = .ok (.if_icmp .ne 19, 3) := by decide +kernel
theorem dX8_changes_71 : decode cX8_changes 71 = .ok (.aload_n 0, 1) := by decide +kernel
theorem dX8_changes_72 : decode cX8_changes 72 = .ok (.getfield 34, 3) := by decide +kernel
theorem dX8_changes_75 : decode cX8_changes 75 = .ok (.iload 8, 2) := by decide +kernel
theorem dX8_changes_77 : decode cX8_changes 77 = .ok (.iaload, 1) := by decide +kernel
theorem dX8_changes_78 : decode cX8_changes 78 = .ok (.iload 6, 2) := by decide +kernel
theorem dX8_changes_80 : decode cX8_changes 80 = .ok (.if_icmp .gt 7, 3) := by decide +kernel
theorem dX8_changes_83 : decode cX8_changes 83 = .ok (.iconst 1, 1) := by decide +kernel
theorem dX8_changes_84 : decode cX8_changes 84 = .ok (.goto 4, 3) := by decide +kernel
theorem dX8_changes_87 : decode cX8_changes 87 = .ok (.iconst 0, 1) := by decide +kernel
theorem dX8_changes_88 : decode cX8_changes 88 = .ok (.istore 9, 2) := by decide +kernel
theorem dX8_changes_90 : decode cX8_changes 90 = .ok (.iload 9, 2) := by decide +kernel
theorem dX8_changes_92 : decode cX8_changes 92 = .ok (.ifCond .eq 41, 3) := by decide +kernel
theorem dX8_changes_95 : decode cX8_changes 95 = .ok (.aload_n 0, 1) := by decide +kernel
theorem dX8_changes_96 : decode cX8_changes 96 = .ok (.bipush 7, 2) := by decide +kernel
theorem dX8_changes_98 : decode cX8_changes 98 = .ok (.iload 8, 2) := by decide +kernel
theorem dX8_changes_100 : decode cX8_changes 100 = .ok (.iload_n 1, 1) := by decide +kernel
theorem dX8_changes_101 : decode cX8_changes 101 = .ok (.iload 5, 2) := by decide +kernel
theorem dX8_changes_103 : decode cX8_changes 103 = .ok (.iload 6, 2) := by decide +kernel
theorem dX8_changes_105 : decode cX8_changes 105 = .ok (.invokevirtual 171, 3) := by decide +kernel
theorem dX8_changes_108 : decode cX8_changes 108 = .ok (.iconst (-1), 1) := by decide +kernel
theorem dX8_changes_109 : decode cX8_changes 109 = .ok (.if_icmp .eq 24, 3) := by decide +kernel
theorem dX8_changes_112 : decode cX8_changes 112 = .ok (.aload_n 0, 1) := by decide +kernel
theorem dX8_changes_113 : decode cX8_changes 113 = .ok (.bipush 7, 2) := by decide +kernel
theorem dX8_changes_115 : decode cX8_changes 115 = .ok (.iload 8, 2) := by decide +kernel
theorem dX8_changes_117 : decode cX8_changes 117 = .ok (.iload_n 2, 1) := by decide +kernel
theorem dX8_changes_118 : decode cX8_changes 118 = .ok (.iload 5, 2) := by decide +kernel
theorem dX8_changes_120 : decode cX8_changes 120 = .ok (.iload 6, 2) := by decide +kernel
theorem dX8_changes_122 : decode cX8_changes 122 = .ok (.invokevirtual 171, 3) := by decide +kernel
theorem dX8_changes_125 : decode cX8_changes 125 = .ok (.iconst (-1), 1) := by decide +kernel
theorem dX8_changes_126 : decode cX8_changes 126 = .ok (.if_icmp .eq 7, 3) := by decide +kernel
theorem dX8_changes_129 : decode cX8_changes 129 = .ok (.iload 8, 2) := by decide +kernel
theorem dX8_changes_131 : decode cX8_changes 131 = .ok (.istore 7, 2) := by decide +kernel
theorem dX8_changes_133 : decode cX8_changes 133 = .ok (.iinc 8 1, 3) := by decide +kernel
theorem dX8_changes_136 : decode cX8_changes 136 = .ok (.goto (-109), 3) := by decide +kernel
theorem dX8_changes_139 : decode cX8_changes 139 = .ok (.iload 7, 2) := by decide +kernel
theorem dX8_changes_141 : decode cX8_changes 141 = .ok (.iconst (-1), 1) := by decide +kernel
theorem dX8_changes_142 : decode cX8_changes 142 = .ok (.if_icmp .eq 59, 3) := by decide +kernel
theorem dX8_changes_145 : decode cX8_changes 145 = .ok (.aload_n 0, 1) := by decide +kernel
theorem dX8_changes_146 : decode cX8_changes 146 = .ok (.iconst 4, 1) := by decide +kernel
theorem dX8_changes_147 : decode cX8_changes 147 = .ok (.putfield 150, 3) := by decide +kernel
theorem dX8_changes_150 : decode cX8_changes 150 = .ok (.aload_n 0, 1) := by decide +kernel
theorem dX8_changes_151 : decode cX8_changes 151 = .ok (.aload_n 0, 1) := by decide +kernel
theorem dX8_changes_152 : decode cX8_changes 152 = .ok (.getfield 49, 3) := by decide +kernel
theorem dX8_changes_155 : decode cX8_changes 155 = .ok (.iload 7, 2) := by decide +kernel
theorem dX8_changes_157 : decode cX8_changes 157 = .ok (.iaload, 1) := by decide +kernel
theorem dX8_changes_158 : decode cX8_changes 158 = .ok (.putfield 153, 3) := by decide +kernel
theorem dX8_changes_161 : decode cX8_changes 161 = .ok (.aload_n 0, 1) := by decide +kernel
theorem dX8_changes_162 : decode cX8_changes 162 = .ok (.iload 7, 2) := by decide +kernel
theorem dX8_changes_164 : decode cX8_changes 164 = .ok (.invokevirtual 146, 3) := by decide +kernel
theorem dX8_changes_167 : decode cX8_changes 167 = .ok (.aload_n 0, 1) := by decide +kernel
theorem dX8_changes_168 : decode cX8_changes 168 = .ok (.aload_n 0, 1) := by decide +kernel
theorem dX8_changes_169 : decode cX8_changes 169 = .ok (.bipush 7, 2) := by decide +kernel
theorem dX8_changes_171 : decode cX8_changes 171 = .ok (.iload 7, 2) := by decide +kernel
theorem dX8_changes_173 : decode cX8_changes 173 = .ok (.iload_n 1, 1) := by decide +kernel
theorem dX8_changes_174 : decode cX8_changes 174 = .ok (.iload 5, 2) := by decide +kernel
theorem dX8_changes_176 : decode cX8_changes 176 = .ok (.iload 6, 2) := by decide +kernel
theorem dX8_changes_178 : decode cX8_changes 178 = .ok (.invokevirtual 171, 3) := by decide +kernel
theorem dX8_changes_181 : decode cX8_changes 181 = .ok (.invokevirtual 146, 3) := by decide +kernel
theorem dX8_changes_184 : decode cX8_changes 184 = .ok (.aload_n 0, 1) := by decide +kernel
theorem dX8_changes_185 : decode cX8_changes 185 = .ok (.aload_n 0, 1) := by decide +kernel
theorem dX8_changes_186 : decode cX8_changes 186 = .ok (.bipush 7, 2) := by decide +kernel
theorem dX8_changes_188 : decode cX8_changes 188 = .ok (.iload 7, 2) := by decide +kernel
theorem dX8_changes_190 : decode cX8_changes 190 = .ok (.iload_n 2, 1) := by decide +kernel
theorem dX8_changes_191 : decode cX8_changes 191 = .ok (.iload 5, 2) := by decide +kernel
theorem dX8_changes_193 : decode cX8_changes 193 = .ok (.iload 6, 2) := by decide +kernel
theorem dX8_changes_195 : decode cX8_changes 195 = .ok (.invokevirtual 171, 3) := by decide +kernel
theorem dX8_changes_198 : decode cX8_changes 198 = .ok (.invokevirtual 146, 3) := by decide +kernel
theorem dX8_changes_201 : decode cX8_changes 201 = .ok (.return_, 1) := by decide +kernel
theorem dX8_isAsked_0 : decode cX8_isAsked 0 = .ok (.aload_n 0, 1) := by decide +kernel
theorem dX8_isAsked_1 : decode cX8_isAsked 1 = .ok (.iload_n 1, 1) := by decide +kernel
theorem dX8_isAsked_2 : decode cX8_isAsked 2 = .ok (.invokevirtual 115, 3) := by decide +kernel
theorem dX8_isAsked_5 : decode cX8_isAsked 5 = .ok (.ifCond .eq 30, 3) := by decide +kernel
theorem dX8_isAsked_8 : decode cX8_isAsked 8 = .ok (.aload_n 0, 1) := by decide +kernel
theorem dX8_isAsked_9 : decode cX8_isAsked 9 = .ok (.iload_n 2, 1) := by decide +kernel
theorem dX8_isAsked_10 : decode cX8_isAsked 10 = .ok (.invokevirtual 115, 3) := by decide +kernel
theorem dX8_isAsked_13 : decode cX8_isAsked 13 = .ok (.ifCond .eq 22, 3) := by decide +kernel
theorem dX8_isAsked_16 : decode cX8_isAsked 16 = .ok (.iload_n 1, 1) := by decide +kernel
theorem dX8_isAsked_17 : decode cX8_isAsked 17 = .ok (.iload_n 2, 1) := by decide +kernel
theorem dX8_isAsked_18 : decode cX8_isAsked 18 = .ok (.if_icmp .eq 17, 3) := by decide +kernel
theorem dX8_isAsked_21 : decode cX8_isAsked 21 = .ok (.aload_n 0, 1) := by decide +kernel
theorem dX8_isAsked_22 : decode cX8_isAsked 22 = .ok (.iload_n 3, 1) := by decide +kernel
theorem dX8_isAsked_23 : decode cX8_isAsked 23 = .ok (.iload 4, 2) := by decide +kernel
theorem dX8_isAsked_25 : decode cX8_isAsked 25 = .ok (.invokevirtual 93, 3) := by decide +kernel
theorem dX8_isAsked_28 : decode cX8_isAsked 28 = .ok (.ifCond .eq 7, 3) := by decide +kernel
theorem dX8_isAsked_31 : decode cX8_isAsked 31 = .ok (.iconst 1, 1) := by decide +kernel
theorem dX8_isAsked_32 : decode cX8_isAsked 32 = .ok (.goto 4, 3) := by decide +kernel
theorem dX8_isAsked_35 : decode cX8_isAsked 35 = .ok (.iconst 0, 1) := by decide +kernel
theorem dX8_isAsked_36 : decode cX8_isAsked 36 = .ok (.ireturn, 1) := by decide +kernel
theorem dX8_between_0 : decode cX8_between 0 = .ok (.aload_n 0, 1) := by decide +kernel
theorem dX8_between_1 : decode cX8_between 1 = .ok (.iload_n 1, 1) := by decide +kernel
theorem dX8_between_2 : decode cX8_between 2 = .ok (.iload_n 2, 1) := by decide +kernel
theorem dX8_between_3 : decode cX8_between 3 = .ok (.iload_n 3, 1) := by decide +kernel
theorem dX8_between_4 : decode cX8_between 4 = .ok (.iload 4, 2) := by decide +kernel
theorem dX8_between_6 : decode cX8_between 6 = .ok (.invokevirtual 179, 3) := by decide +kernel
theorem dX8_between_9 : decode cX8_between 9 = .ok (.ifCond .eq 19, 3) := by decide +kernel
theorem dX8_between_12 : decode cX8_between 12 = .ok (.iload 5, 2) := by decide +kernel
theorem dX8_between_14 : decode cX8_between 14 = .ok (.invokestatic 182, 3) := by decide +kernel
theorem dX8_between_17 : decode cX8_between 17 = .ok (.ifCond .eq 11, 3) := by decide +kernel
theorem dX8_between_20 : decode cX8_between 20 = .ok (.iload 6, 2) := by decide +kernel
theorem dX8_between_22 : decode cX8_between 22 = .ok (.invokestatic 182, 3) := by decide +kernel
theorem dX8_between_25 : decode cX8_between 25 = .ok (.ifCond .ne 5, 3) := by decide +kernel
theorem dX8_between_28 : decode cX8_between 28 = .ok (.iconst (-1), 1) := by decide +kernel
theorem dX8_between_29 : decode cX8_between 29 = .ok (.ireturn, 1) := by decide +kernel
theorem dX8_between_30 : decode cX8_between 30 = .ok (.aload_n 0, 1) := by decide +kernel
theorem dX8_between_31 : decode cX8_between 31 = .ok (.iload_n 1, 1) := by decide +kernel
theorem dX8_between_32 : decode cX8_between 32 = .ok (.iload_n 2, 1) := by decide +kernel
theorem dX8_between_33 : decode cX8_between 33 = .ok (.iload_n 3, 1) := by decide +kernel
theorem dX8_between_34 : decode cX8_between 34 = .ok (.iload 4, 2) := by decide +kernel
theorem dX8_between_36 : decode cX8_between 36 = .ok (.iload 5, 2) := by decide +kernel
theorem dX8_between_38 : decode cX8_between 38 = .ok (.iload 6, 2) := by decide +kernel
theorem dX8_between_40 : decode cX8_between 40 = .ok (.invokevirtual 185, 3) := by decide +kernel
theorem dX8_between_43 : decode cX8_between 43 = .ok (.aload_n 0, 1) := by decide +kernel
theorem dX8_between_44 : decode cX8_between 44 = .ok (.getfield 150, 3) := by decide +kernel
theorem dX8_between_47 : decode cX8_between 47 = .ok (.ireturn, 1) := by decide +kernel
theorem dX8_words_0 : decode cX8_words 0 = .ok (.aload_n 0, 1) := by decide +kernel
theorem dX8_words_1 : decode cX8_words 1 = .ok (.iload_n 1, 1) := by decide +kernel
theorem dX8_words_2 : decode cX8_words 2 = .ok (.iload_n 2, 1) := by decide +kernel
theorem dX8_words_3 : decode cX8_words 3 = .ok (.iload_n 3, 1) := by decide +kernel
theorem dX8_words_4 : decode cX8_words 4 = .ok (.iload 4, 2) := by decide +kernel
theorem dX8_words_6 : decode cX8_words 6 = .ok (.invokevirtual 179, 3) := by decide +kernel
theorem dX8_words_9 : decode cX8_words 9 = .ok (.ifCond .eq 19, 3) := by decide +kernel
theorem dX8_words_12 : decode cX8_words 12 = .ok (.iload 5, 2) := by decide +kernel
theorem dX8_words_14 : decode cX8_words 14 = .ok (.invokestatic 182, 3) := by decide +kernel
theorem dX8_words_17 : decode cX8_words 17 = .ok (.ifCond .eq 11, 3) := by decide +kernel
theorem dX8_words_20 : decode cX8_words 20 = .ok (.iload 6, 2) := by decide +kernel
theorem dX8_words_22 : decode cX8_words 22 = .ok (.invokestatic 182, 3) := by decide +kernel
theorem dX8_words_25 : decode cX8_words 25 = .ok (.ifCond .ne 5, 3) := by decide +kernel
theorem dX8_words_28 : decode cX8_words 28 = .ok (.iconst (-1), 1) := by decide +kernel
theorem dX8_words_29 : decode cX8_words 29 = .ok (.ireturn, 1) := by decide +kernel
theorem dX8_words_30 : decode cX8_words 30 = .ok (.aload_n 0, 1) := by decide +kernel
theorem dX8_words_31 : decode cX8_words 31 = .ok (.iload_n 1, 1) := by decide +kernel
theorem dX8_words_32 : decode cX8_words 32 = .ok (.iload_n 2, 1) := by decide +kernel
theorem dX8_words_33 : decode cX8_words 33 = .ok (.iload_n 3, 1) := by decide +kernel
theorem dX8_words_34 : decode cX8_words 34 = .ok (.iload 4, 2) := by decide +kernel
theorem dX8_words_36 : decode cX8_words 36 = .ok (.iload 5, 2) := by decide +kernel
theorem dX8_words_38 : decode cX8_words 38 = .ok (.iload 6, 2) := by decide +kernel
theorem dX8_words_40 : decode cX8_words 40 = .ok (.invokevirtual 185, 3) := by decide +kernel
theorem dX8_words_43 : decode cX8_words 43 = .ok (.aload_n 0, 1) := by decide +kernel
theorem dX8_words_44 : decode cX8_words 44 = .ok (.getfield 153, 3) := by decide +kernel
theorem dX8_words_47 : decode cX8_words 47 = .ok (.ireturn, 1) := by decide +kernel
theorem dX8_why_0 : decode cX8_why 0 = .ok (.aload_n 0, 1) := by decide +kernel
theorem dX8_why_1 : decode cX8_why 1 = .ok (.iload_n 1, 1) := by decide +kernel
theorem dX8_why_2 : decode cX8_why 2 = .ok (.iload_n 2, 1) := by decide +kernel
theorem dX8_why_3 : decode cX8_why 3 = .ok (.iload_n 3, 1) := by decide +kernel
theorem dX8_why_4 : decode cX8_why 4 = .ok (.iload 4, 2) := by decide +kernel
theorem dX8_why_6 : decode cX8_why 6 = .ok (.invokevirtual 179, 3) := by decide +kernel
theorem dX8_why_9 : decode cX8_why 9 = .ok (.ifCond .eq 19, 3) := by decide +kernel
theorem dX8_why_12 : decode cX8_why 12 = .ok (.iload 5, 2) := by decide +kernel
theorem dX8_why_14 : decode cX8_why 14 = .ok (.invokestatic 182, 3) := by decide +kernel
theorem dX8_why_17 : decode cX8_why 17 = .ok (.ifCond .eq 11, 3) := by decide +kernel
theorem dX8_why_20 : decode cX8_why 20 = .ok (.iload 6, 2) := by decide +kernel
theorem dX8_why_22 : decode cX8_why 22 = .ok (.invokestatic 182, 3) := by decide +kernel
theorem dX8_why_25 : decode cX8_why 25 = .ok (.ifCond .ne 5, 3) := by decide +kernel
theorem dX8_why_28 : decode cX8_why 28 = .ok (.iconst (-1), 1) := by decide +kernel
theorem dX8_why_29 : decode cX8_why 29 = .ok (.ireturn, 1) := by decide +kernel
theorem dX8_why_30 : decode cX8_why 30 = .ok (.aload_n 0, 1) := by decide +kernel
theorem dX8_why_31 : decode cX8_why 31 = .ok (.iload_n 1, 1) := by decide +kernel
theorem dX8_why_32 : decode cX8_why 32 = .ok (.iload_n 2, 1) := by decide +kernel
theorem dX8_why_33 : decode cX8_why 33 = .ok (.iload_n 3, 1) := by decide +kernel
theorem dX8_why_34 : decode cX8_why 34 = .ok (.iload 4, 2) := by decide +kernel
theorem dX8_why_36 : decode cX8_why 36 = .ok (.iload 5, 2) := by decide +kernel
theorem dX8_why_38 : decode cX8_why 38 = .ok (.iload 6, 2) := by decide +kernel
theorem dX8_why_40 : decode cX8_why 40 = .ok (.invokevirtual 185, 3) := by decide +kernel
theorem dX8_why_43 : decode cX8_why 43 = .ok (.iload 7, 2) := by decide +kernel
theorem dX8_why_45 : decode cX8_why 45 = .ok (.istore 8, 2) := by decide +kernel
theorem dX8_why_47 : decode cX8_why 47 = .ok (.iconst 0, 1) := by decide +kernel
theorem dX8_why_48 : decode cX8_why 48 = .ok (.istore 9, 2) := by decide +kernel
theorem dX8_why_50 : decode cX8_why 50 = .ok (.iload 9, 2) := by decide +kernel
theorem dX8_why_52 : decode cX8_why 52 = .ok (.aload_n 0, 1) := by decide +kernel
theorem dX8_why_53 : decode cX8_why 53 = .ok (.getfield 89, 3) := by decide +kernel
theorem dX8_why_56 : decode cX8_why 56 = .ok (.if_icmp .ge 35, 3) := by decide +kernel
theorem dX8_why_59 : decode cX8_why 59 = .ok (.iload 8, 2) := by decide +kernel
theorem dX8_why_61 : decode cX8_why 61 = .ok (.ifCond .lt 30, 3) := by decide +kernel
theorem dX8_why_64 : decode cX8_why 64 = .ok (.aload_n 0, 1) := by decide +kernel
theorem dX8_why_65 : decode cX8_why 65 = .ok (.getfield 59, 3) := by decide +kernel
theorem dX8_why_68 : decode cX8_why 68 = .ok (.iload 9, 2) := by decide +kernel
theorem dX8_why_70 : decode cX8_why 70 = .ok (.baload, 1) := by decide +kernel
theorem dX8_why_71 : decode cX8_why 71 = .ok (.ifCond .eq 14, 3) := by decide +kernel
theorem dX8_why_74 : decode cX8_why 74 = .ok (.iload 8, 2) := by decide +kernel
theorem dX8_why_76 : decode cX8_why 76 = .ok (.ifCond .ne 6, 3) := by decide +kernel
theorem dX8_why_79 : decode cX8_why 79 = .ok (.iload 9, 2) := by decide +kernel
theorem dX8_why_81 : decode cX8_why 81 = .ok (.ireturn, 1) := by decide +kernel
theorem dX8_why_82 : decode cX8_why 82 = .ok (.iinc 8 (-1), 3) := by decide +kernel
theorem dX8_why_85 : decode cX8_why 85 = .ok (.iinc 9 1, 3) := by decide +kernel
theorem dX8_why_88 : decode cX8_why 88 = .ok (.goto (-38), 3) := by decide +kernel
theorem dX8_why_91 : decode cX8_why 91 = .ok (.iconst (-1), 1) := by decide +kernel
theorem dX8_why_92 : decode cX8_why 92 = .ok (.ireturn, 1) := by decide +kernel
theorem dX8_effectBelow_0 : decode cX8_effectBelow 0 = .ok (.iload_n 1, 1) := by decide +kernel
theorem dX8_effectBelow_1 : decode cX8_effectBelow 1 = .ok (.ifCond .le 7, 3) := by decide +kernel
theorem dX8_effectBelow_4 : decode cX8_effectBelow 4 = .ok (.iconst 0, 1) := by decide +kernel
theorem dX8_effectBelow_5 : decode cX8_effectBelow 5 = .ok (.goto 4, 3) := by decide +kernel
theorem dX8_effectBelow_8 : decode cX8_effectBelow 8 = .ok (.iconst (-1), 1) := by decide +kernel
theorem dX8_effectBelow_9 : decode cX8_effectBelow 9 = .ok (.istore_n 2, 1) := by decide +kernel
theorem dX8_effectBelow_10 : decode cX8_effectBelow 10 = .ok (.iconst 0, 1) := by decide +kernel
theorem dX8_effectBelow_11 : decode cX8_effectBelow 11 = .ok (.istore_n 3, 1) := by decide +kernel
theorem dX8_effectBelow_12 : decode cX8_effectBelow 12 = .ok (.iload_n 3, 1) := by decide +kernel
theorem dX8_effectBelow_13 : decode cX8_effectBelow 13 = .ok (.aload_n 0, 1) := by decide +kernel
theorem dX8_effectBelow_14 : decode cX8_effectBelow 14 = .ok (.getfield 89, 3) := by decide +kernel
theorem dX8_effectBelow_17 : decode cX8_effectBelow 17 = .ok (.if_icmp .ge 36, 3) := by decide +kernel
theorem dX8_effectBelow_20 : decode cX8_effectBelow 20 = .ok (.aload_n 0, 1) := by decide +kernel
theorem dX8_effectBelow_21 : decode cX8_effectBelow 21 = .ok (.getfield 37, 3) := by decide +kernel
theorem dX8_effectBelow_24 : decode cX8_effectBelow 24 = .ok (.iload_n 3, 1) := by decide +kernel
theorem dX8_effectBelow_25 : decode cX8_effectBelow 25 = .ok (.iaload, 1) := by decide +kernel
theorem dX8_effectBelow_26 : decode cX8_effectBelow 26 = .ok (.iload_n 1, 1) := by decide +kernel
theorem dX8_effectBelow_27 : decode cX8_effectBelow 27 = .ok (.if_icmp .ge 20, 3) := by decide +kernel
theorem dX8_effectBelow_30 : decode cX8_effectBelow 30 = .ok (.aload_n 0, 1) := by decide +kernel
theorem dX8_effectBelow_31 : decode cX8_effectBelow 31 = .ok (.getfield 37, 3) := by decide +kernel
theorem dX8_effectBelow_34 : decode cX8_effectBelow 34 = .ok (.iload_n 3, 1) := by decide +kernel
theorem dX8_effectBelow_35 : decode cX8_effectBelow 35 = .ok (.iaload, 1) := by decide +kernel
theorem dX8_effectBelow_36 : decode cX8_effectBelow 36 = .ok (.iload_n 2, 1) := by decide +kernel
theorem dX8_effectBelow_37 : decode cX8_effectBelow 37 = .ok (.if_icmp .le 10, 3) := by decide +kernel
theorem dX8_effectBelow_40 : decode cX8_effectBelow 40 = .ok (.aload_n 0, 1) := by decide +kernel
theorem dX8_effectBelow_41 : decode cX8_effectBelow 41 = .ok (.getfield 37, 3) := by decide +kernel
theorem dX8_effectBelow_44 : decode cX8_effectBelow 44 = .ok (.iload_n 3, 1) := by decide +kernel
theorem dX8_effectBelow_45 : decode cX8_effectBelow 45 = .ok (.iaload, 1) := by decide +kernel
theorem dX8_effectBelow_46 : decode cX8_effectBelow 46 = .ok (.istore_n 2, 1) := by decide +kernel
theorem dX8_effectBelow_47 : decode cX8_effectBelow 47 = .ok (.iinc 3 1, 3) := by decide +kernel
theorem dX8_effectBelow_50 : decode cX8_effectBelow 50 = .ok (.goto (-38), 3) := by decide +kernel
theorem dX8_effectBelow_53 : decode cX8_effectBelow 53 = .ok (.iload_n 2, 1) := by decide +kernel
theorem dX8_effectBelow_54 : decode cX8_effectBelow 54 = .ok (.ireturn, 1) := by decide +kernel
theorem dX8_first_0 : decode cX8_first 0 = .ok (.aload_n 0, 1) := by decide +kernel
theorem dX8_first_1 : decode cX8_first 1 = .ok (.iload_n 1, 1) := by decide +kernel
theorem dX8_first_2 : decode cX8_first 2 = .ok (.iload_n 2, 1) := by decide +kernel
theorem dX8_first_3 : decode cX8_first 3 = .ok (.iload_n 3, 1) := by decide +kernel
theorem dX8_first_4 : decode cX8_first 4 = .ok (.iload 4, 2) := by decide +kernel
theorem dX8_first_6 : decode cX8_first 6 = .ok (.invokevirtual 179, 3) := by decide +kernel
theorem dX8_first_9 : decode cX8_first 9 = .ok (.ifCond .ne 5, 3) := by decide +kernel
theorem dX8_first_12 : decode cX8_first 12 = .ok (.iconst (-1), 1) := by decide +kernel
theorem dX8_first_13 : decode cX8_first 13 = .ok (.ireturn, 1) := by decide +kernel
theorem dX8_first_14 : decode cX8_first 14 = .ok (.aload_n 0, 1) := by decide +kernel
theorem dX8_first_15 : decode cX8_first 15 = .ok (.iload_n 1, 1) := by decide +kernel
theorem dX8_first_16 : decode cX8_first 16 = .ok (.iload_n 2, 1) := by decide +kernel
theorem dX8_first_17 : decode cX8_first 17 = .ok (.iload_n 3, 1) := by decide +kernel
theorem dX8_first_18 : decode cX8_first 18 = .ok (.iload 4, 2) := by decide +kernel
theorem dX8_first_20 : decode cX8_first 20 = .ok (.aload_n 0, 1) := by decide +kernel
theorem dX8_first_21 : decode cX8_first 21 = .ok (.getfield 98, 3) := by decide +kernel
theorem dX8_first_24 : decode cX8_first 24 = .ok (.aload_n 0, 1) := by decide +kernel
theorem dX8_first_25 : decode cX8_first 25 = .ok (.getfield 98, 3) := by decide +kernel
theorem dX8_first_28 : decode cX8_first 28 = .ok (.invokevirtual 185, 3) := by decide +kernel
theorem dX8_first_31 : decode cX8_first 31 = .ok (.aload_n 0, 1) := by decide +kernel
theorem dX8_first_32 : decode cX8_first 32 = .ok (.getfield 150, 3) := by decide +kernel
theorem dX8_first_35 : decode cX8_first 35 = .ok (.istore 5, 2) := by decide +kernel
theorem dX8_first_37 : decode cX8_first 37 = .ok (.aload_n 0, 1) := by decide +kernel
theorem dX8_first_38 : decode cX8_first 38 = .ok (.getfield 153, 3) := by decide +kernel
theorem dX8_first_41 : decode cX8_first 41 = .ok (.istore 6, 2) := by decide +kernel
theorem dX8_first_43 : decode cX8_first 43 = .ok (.aload_n 0, 1) := by decide +kernel
theorem dX8_first_44 : decode cX8_first 44 = .ok (.aload_n 0, 1) := by decide +kernel
theorem dX8_first_45 : decode cX8_first 45 = .ok (.getfield 98, 3) := by decide +kernel
theorem dX8_first_48 : decode cX8_first 48 = .ok (.iconst 1, 1) := by decide +kernel
theorem dX8_first_49 : decode cX8_first 49 = .ok (.iadd, 1) := by decide +kernel
theorem dX8_first_50 : decode cX8_first 50 = .ok (.invokevirtual 188, 3) := by decide +kernel
theorem dX8_first_53 : decode cX8_first 53 = .ok (.istore 7, 2) := by decide +kernel
theorem dX8_first_55 : decode cX8_first 55 = .ok (.iload 7, 2) := by decide +kernel
theorem dX8_first_57 : decode cX8_first 57 = .ok (.istore 8, 2) := by decide +kernel
theorem dX8_first_59 : decode cX8_first 59 = .ok (.iconst 1, 1) := by decide +kernel
theorem dX8_first_60 : decode cX8_first 60 = .ok (.istore 9, 2) := by decide +kernel
theorem dX8_first_62 : decode cX8_first 62 = .ok (.iload 9, 2) := by decide +kernel
theorem dX8_first_64 : decode cX8_first 64 = .ok (.ifCond .eq 76, 3) := by decide +kernel
theorem dX8_first_67 : decode cX8_first 67 = .ok (.iload 7, 2) := by decide +kernel
theorem dX8_first_69 : decode cX8_first 69 = .ok (.istore 8, 2) := by decide +kernel
theorem dX8_first_71 : decode cX8_first 71 = .ok (.aload_n 0, 1) := by decide +kernel
theorem dX8_first_72 : decode cX8_first 72 = .ok (.iload 7, 2) := by decide +kernel
theorem dX8_first_74 : decode cX8_first 74 = .ok (.invokevirtual 188, 3) := by decide +kernel
theorem dX8_first_77 : decode cX8_first 77 = .ok (.istore 7, 2) := by decide +kernel
theorem dX8_first_79 : decode cX8_first 79 = .ok (.iload 7, 2) := by decide +kernel
theorem dX8_first_81 : decode cX8_first 81 = .ok (.iconst (-1), 1) := by decide +kernel
theorem dX8_first_82 : decode cX8_first 82 = .ok (.if_icmp .eq 7, 3) := by decide +kernel
theorem dX8_first_85 : decode cX8_first 85 = .ok (.iconst 1, 1) := by decide +kernel
theorem dX8_first_86 : decode cX8_first 86 = .ok (.goto 4, 3) := by decide +kernel
theorem dX8_first_89 : decode cX8_first 89 = .ok (.iconst 0, 1) := by decide +kernel
theorem dX8_first_90 : decode cX8_first 90 = .ok (.istore 9, 2) := by decide +kernel
theorem dX8_first_92 : decode cX8_first 92 = .ok (.iload 9, 2) := by decide +kernel
theorem dX8_first_94 : decode cX8_first 94 = .ok (.ifCond .eq (-32), 3) := by decide +kernel
theorem dX8_first_97 : decode cX8_first 97 = .ok (.aload_n 0, 1) := by decide +kernel
theorem dX8_first_98 : decode cX8_first 98 = .ok (.iload_n 1, 1) := by decide +kernel
theorem dX8_first_99 : decode cX8_first 99 = .ok (.iload_n 2, 1) := by decide +kernel
theorem dX8_first_100 : decode cX8_first 100 = .ok (.iload_n 3, 1) := by decide +kernel
theorem dX8_first_101 : decode cX8_first 101 = .ok (.iload 4, 2) := by decide +kernel
theorem dX8_first_103 : decode cX8_first 103 = .ok (.iload 7, 2) := by decide +kernel
theorem dX8_first_105 : decode cX8_first 105 = .ok (.aload_n 0, 1) := by decide +kernel
theorem dX8_first_106 : decode cX8_first 106 = .ok (.getfield 98, 3) := by decide +kernel
theorem dX8_first_109 : decode cX8_first 109 = .ok (.invokevirtual 185, 3) := by decide +kernel
theorem dX8_first_112 : decode cX8_first 112 = .ok (.aload_n 0, 1) := by decide +kernel
theorem dX8_first_113 : decode cX8_first 113 = .ok (.getfield 150, 3) := by decide +kernel
theorem dX8_first_116 : decode cX8_first 116 = .ok (.iload 5, 2) := by decide +kernel
theorem dX8_first_118 : decode cX8_first 118 = .ok (.if_icmp .ne 16, 3) := by decide +kernel
theorem dX8_first_121 : decode cX8_first 121 = .ok (.aload_n 0, 1) := by decide +kernel
theorem dX8_first_122 : decode cX8_first 122 = .ok (.getfield 153, 3) := by decide +kernel
theorem dX8_first_125 : decode cX8_first 125 = .ok (.iload 6, 2) := by decide +kernel
theorem dX8_first_127 : decode cX8_first 127 = .ok (.if_icmp .ne 7, 3) := by decide +kernel
theorem dX8_first_130 : decode cX8_first 130 = .ok (.iconst 1, 1) := by decide +kernel
theorem dX8_first_131 : decode cX8_first 131 = .ok (.goto 4, 3) := by decide +kernel
theorem dX8_first_134 : decode cX8_first 134 = .ok (.iconst 0, 1) := by decide +kernel
theorem dX8_first_135 : decode cX8_first 135 = .ok (.istore 9, 2) := by decide +kernel
theorem dX8_first_137 : decode cX8_first 137 = .ok (.goto (-75), 3) := by decide +kernel
theorem dX8_first_140 : decode cX8_first 140 = .ok (.iload 8, 2) := by decide +kernel
theorem dX8_first_142 : decode cX8_first 142 = .ok (.ireturn, 1) := by decide +kernel
theorem dX8_member_0 : decode cX8_member 0 = .ok (.aload_n 0, 1) := by decide +kernel
theorem dX8_member_1 : decode cX8_member 1 = .ok (.iload_n 1, 1) := by decide +kernel
theorem dX8_member_2 : decode cX8_member 2 = .ok (.invokevirtual 115, 3) := by decide +kernel
theorem dX8_member_5 : decode cX8_member 5 = .ok (.ifCond .eq 38, 3) := by decide +kernel
theorem dX8_member_8 : decode cX8_member 8 = .ok (.aload_n 0, 1) := by decide +kernel
theorem dX8_member_9 : decode cX8_member 9 = .ok (.iload_n 2, 1) := by decide +kernel
theorem dX8_member_10 : decode cX8_member 10 = .ok (.invokevirtual 85, 3) := by decide +kernel
theorem dX8_member_13 : decode cX8_member 13 = .ok (.ifCond .eq 30, 3) := by decide +kernel
theorem dX8_member_16 : decode cX8_member 16 = .ok (.iload_n 3, 1) := by decide +kernel
theorem dX8_member_17 : decode cX8_member 17 = .ok (.invokestatic 182, 3) := by decide +kernel
theorem dX8_member_20 : decode cX8_member 20 = .ok (.ifCond .eq 23, 3) := by decide +kernel
theorem dX8_member_23 : decode cX8_member 23 = .ok (.iload 4, 2) := by decide +kernel
theorem dX8_member_25 : decode cX8_member 25 = .ok (.invokestatic 182, 3) := by decide +kernel
theorem dX8_member_28 : decode cX8_member 28 = .ok (.ifCond .eq 15, 3) := by decide +kernel
theorem dX8_member_31 : decode cX8_member 31 = .ok (.aload_n 0, 1) := by decide +kernel
theorem dX8_member_32 : decode cX8_member 32 = .ok (.iload_n 1, 1) := by decide +kernel
theorem dX8_member_33 : decode cX8_member 33 = .ok (.iload_n 2, 1) := by decide +kernel
theorem dX8_member_34 : decode cX8_member 34 = .ok (.iload_n 3, 1) := by decide +kernel
theorem dX8_member_35 : decode cX8_member 35 = .ok (.iload 4, 2) := by decide +kernel
theorem dX8_member_37 : decode cX8_member 37 = .ok (.invokevirtual 108, 3) := by decide +kernel
theorem dX8_member_40 : decode cX8_member 40 = .ok (.goto 4, 3) := by decide +kernel
theorem dX8_member_43 : decode cX8_member 43 = .ok (.iconst (-1), 1) := by decide +kernel
theorem dX8_member_44 : decode cX8_member 44 = .ok (.ireturn, 1) := by decide +kernel
theorem dX8_members_0 : decode cX8_members 0 = .ok (.aload_n 0, 1) := by decide +kernel
theorem dX8_members_1 : decode cX8_members 1 = .ok (.iload_n 1, 1) := by decide +kernel
theorem dX8_members_2 : decode cX8_members 2 = .ok (.invokevirtual 85, 3) := by decide +kernel
theorem dX8_members_5 : decode cX8_members 5 = .ok (.ifCond .eq 27, 3) := by decide +kernel
theorem dX8_members_8 : decode cX8_members 8 = .ok (.iload_n 2, 1) := by decide +kernel
theorem dX8_members_9 : decode cX8_members 9 = .ok (.invokestatic 182, 3) := by decide +kernel
theorem dX8_members_12 : decode cX8_members 12 = .ok (.ifCond .eq 20, 3) := by decide +kernel
theorem dX8_members_15 : decode cX8_members 15 = .ok (.iload_n 3, 1) := by decide +kernel
theorem dX8_members_16 : decode cX8_members 16 = .ok (.invokestatic 182, 3) := by decide +kernel
theorem dX8_members_19 : decode cX8_members 19 = .ok (.ifCond .eq 13, 3) := by decide +kernel
theorem dX8_members_22 : decode cX8_members 22 = .ok (.aload_n 0, 1) := by decide +kernel
theorem dX8_members_23 : decode cX8_members 23 = .ok (.iload_n 1, 1) := by decide +kernel
theorem dX8_members_24 : decode cX8_members 24 = .ok (.iload_n 2, 1) := by decide +kernel
theorem dX8_members_25 : decode cX8_members 25 = .ok (.iload_n 3, 1) := by decide +kernel
theorem dX8_members_26 : decode cX8_members 26 = .ok (.invokevirtual 156, 3) := by decide +kernel
theorem dX8_members_29 : decode cX8_members 29 = .ok (.goto 4, 3) := by decide +kernel
theorem dX8_members_32 : decode cX8_members 32 = .ok (.iconst (-1), 1) := by decide +kernel
theorem dX8_members_33 : decode cX8_members 33 = .ok (.ireturn, 1) := by decide +kernel
theorem dX8_since_0 : decode cX8_since 0 = .ok (.aload_n 0, 1) := by decide +kernel
theorem dX8_since_1 : decode cX8_since 1 = .ok (.iload_n 1, 1) := by decide +kernel
theorem dX8_since_2 : decode cX8_since 2 = .ok (.invokevirtual 85, 3) := by decide +kernel
theorem dX8_since_5 : decode cX8_since 5 = .ok (.ifCond .eq 25, 3) := by decide +kernel
theorem dX8_since_8 : decode cX8_since 8 = .ok (.aload_n 0, 1) := by decide +kernel
theorem dX8_since_9 : decode cX8_since 9 = .ok (.iload_n 1, 1) := by decide +kernel
theorem dX8_since_10 : decode cX8_since 10 = .ok (.aload_n 0, 1) := by decide +kernel
theorem dX8_since_11 : decode cX8_since 11 = .ok (.getfield 98, 3) := by decide +kernel
theorem dX8_since_14 : decode cX8_since 14 = .ok (.aload_n 0, 1) := by decide +kernel
theorem dX8_since_15 : decode cX8_since 15 = .ok (.getfield 98, 3) := by decide +kernel
theorem dX8_since_18 : decode cX8_since 18 = .ok (.invokevirtual 156, 3) := by decide +kernel
theorem dX8_since_21 : decode cX8_since 21 = .ok (.aload_n 0, 1) := by decide +kernel
theorem dX8_since_22 : decode cX8_since 22 = .ok (.getfield 13, 3) := by decide +kernel
theorem dX8_since_25 : decode cX8_since 25 = .ok (.iload_n 1, 1) := by decide +kernel
theorem dX8_since_26 : decode cX8_since 26 = .ok (.iaload, 1) := by decide +kernel
theorem dX8_since_27 : decode cX8_since 27 = .ok (.if_icmp .ge 5, 3) := by decide +kernel
theorem dX8_since_30 : decode cX8_since 30 = .ok (.iconst (-1), 1) := by decide +kernel
theorem dX8_since_31 : decode cX8_since 31 = .ok (.ireturn, 1) := by decide +kernel
theorem dX8_since_32 : decode cX8_since 32 = .ok (.aload_n 0, 1) := by decide +kernel
theorem dX8_since_33 : decode cX8_since 33 = .ok (.aload_n 0, 1) := by decide +kernel
theorem dX8_since_34 : decode cX8_since 34 = .ok (.getfield 98, 3) := by decide +kernel
theorem dX8_since_37 : decode cX8_since 37 = .ok (.iconst 1, 1) := by decide +kernel
theorem dX8_since_38 : decode cX8_since 38 = .ok (.iadd, 1) := by decide +kernel
theorem dX8_since_39 : decode cX8_since 39 = .ok (.invokevirtual 188, 3) := by decide +kernel
theorem dX8_since_42 : decode cX8_since 42 = .ok (.istore_n 2, 1) := by decide +kernel
theorem dX8_since_43 : decode cX8_since 43 = .ok (.iload_n 2, 1) := by decide +kernel
theorem dX8_since_44 : decode cX8_since 44 = .ok (.istore_n 3, 1) := by decide +kernel
theorem dX8_since_45 : decode cX8_since 45 = .ok (.iconst 1, 1) := by decide +kernel
theorem dX8_since_46 : decode cX8_since 46 = .ok (.istore 4, 2) := by decide +kernel
theorem dX8_since_48 : decode cX8_since 48 = .ok (.iload 4, 2) := by decide +kernel
theorem dX8_since_50 : decode cX8_since 50 = .ok (.ifCond .eq 45, 3) := by decide +kernel
theorem dX8_since_53 : decode cX8_since 53 = .ok (.iload_n 2, 1) := by decide +kernel
theorem dX8_since_54 : decode cX8_since 54 = .ok (.istore_n 3, 1) := by decide +kernel
theorem dX8_since_55 : decode cX8_since 55 = .ok (.aload_n 0, 1) := by decide +kernel
theorem dX8_since_56 : decode cX8_since 56 = .ok (.iload_n 2, 1) := by decide +kernel
theorem dX8_since_57 : decode cX8_since 57 = .ok (.invokevirtual 188, 3) := by decide +kernel
theorem dX8_since_60 : decode cX8_since 60 = .ok (.istore_n 2, 1) := by decide +kernel
theorem dX8_since_61 : decode cX8_since 61 = .ok (.iload_n 2, 1) := by decide +kernel
theorem dX8_since_62 : decode cX8_since 62 = .ok (.iconst (-1), 1) := by decide +kernel
theorem dX8_since_63 : decode cX8_since 63 = .ok (.if_icmp .eq 26, 3) := by decide +kernel
theorem dX8_since_66 : decode cX8_since 66 = .ok (.aload_n 0, 1) := by decide +kernel
theorem dX8_since_67 : decode cX8_since 67 = .ok (.iload_n 1, 1) := by decide +kernel
theorem dX8_since_68 : decode cX8_since 68 = .ok (.iload_n 2, 1) := by decide +kernel
theorem dX8_since_69 : decode cX8_since 69 = .ok (.aload_n 0, 1) := by decide +kernel
theorem dX8_since_70 : decode cX8_since 70 = .ok (.getfield 98, 3) := by decide +kernel
theorem dX8_since_73 : decode cX8_since 73 = .ok (.invokevirtual 156, 3) := by decide +kernel
theorem dX8_since_76 : decode cX8_since 76 = .ok (.aload_n 0, 1) := by decide +kernel
theorem dX8_since_77 : decode cX8_since 77 = .ok (.getfield 13, 3) := by decide +kernel
theorem dX8_since_80 : decode cX8_since 80 = .ok (.iload_n 1, 1) := by decide +kernel
theorem dX8_since_81 : decode cX8_since 81 = .ok (.iaload, 1) := by decide +kernel
theorem dX8_since_82 : decode cX8_since 82 = .ok (.if_icmp .lt 7, 3) := by decide +kernel
theorem dX8_since_85 : decode cX8_since 85 = .ok (.iconst 1, 1) := by decide +kernel
theorem dX8_since_86 : decode cX8_since 86 = .ok (.goto 4, 3) := by decide +kernel
theorem dX8_since_89 : decode cX8_since 89 = .ok (.iconst 0, 1) := by decide +kernel
theorem dX8_since_90 : decode cX8_since 90 = .ok (.istore 4, 2) := by decide +kernel
theorem dX8_since_92 : decode cX8_since 92 = .ok (.goto (-44), 3) := by decide +kernel
theorem dX8_since_95 : decode cX8_since 95 = .ok (.iload_n 3, 1) := by decide +kernel
theorem dX8_since_96 : decode cX8_since 96 = .ok (.ireturn, 1) := by decide +kernel
theorem dX8_has_0 : decode cX8_has 0 = .ok (.aload_n 0, 1) := by decide +kernel
theorem dX8_has_1 : decode cX8_has 1 = .ok (.iload_n 1, 1) := by decide +kernel
theorem dX8_has_2 : decode cX8_has 2 = .ok (.invokevirtual 115, 3) := by decide +kernel
theorem dX8_has_5 : decode cX8_has 5 = .ok (.ifCond .eq 31, 3) := by decide +kernel
theorem dX8_has_8 : decode cX8_has 8 = .ok (.aload_n 0, 1) := by decide +kernel
theorem dX8_has_9 : decode cX8_has 9 = .ok (.iload_n 2, 1) := by decide +kernel
theorem dX8_has_10 : decode cX8_has 10 = .ok (.invokevirtual 85, 3) := by decide +kernel
theorem dX8_has_13 : decode cX8_has 13 = .ok (.ifCond .eq 23, 3) := by decide +kernel
theorem dX8_has_16 : decode cX8_has 16 = .ok (.iload_n 3, 1) := by decide +kernel
theorem dX8_has_17 : decode cX8_has 17 = .ok (.invokestatic 182, 3) := by decide +kernel
theorem dX8_has_20 : decode cX8_has 20 = .ok (.ifCond .eq 16, 3) := by decide +kernel
theorem dX8_has_23 : decode cX8_has 23 = .ok (.iload 4, 2) := by decide +kernel
theorem dX8_has_25 : decode cX8_has 25 = .ok (.invokestatic 182, 3) := by decide +kernel
theorem dX8_has_28 : decode cX8_has 28 = .ok (.ifCond .eq 8, 3) := by decide +kernel
theorem dX8_has_31 : decode cX8_has 31 = .ok (.iload 5, 2) := by decide +kernel
theorem dX8_has_33 : decode cX8_has 33 = .ok (.ifCond .ge 5, 3) := by decide +kernel
theorem dX8_has_36 : decode cX8_has 36 = .ok (.iconst (-1), 1) := by decide +kernel
theorem dX8_has_37 : decode cX8_has 37 = .ok (.ireturn, 1) := by decide +kernel
theorem dX8_has_38 : decode cX8_has 38 = .ok (.aload_n 0, 1) := by decide +kernel
theorem dX8_has_39 : decode cX8_has 39 = .ok (.iload_n 1, 1) := by decide +kernel
theorem dX8_has_40 : decode cX8_has 40 = .ok (.iload_n 2, 1) := by decide +kernel
theorem dX8_has_41 : decode cX8_has 41 = .ok (.iload_n 3, 1) := by decide +kernel
theorem dX8_has_42 : decode cX8_has 42 = .ok (.iload 4, 2) := by decide +kernel
theorem dX8_has_44 : decode cX8_has 44 = .ok (.invokevirtual 108, 3) := by decide +kernel
theorem dX8_has_47 : decode cX8_has 47 = .ok (.istore 6, 2) := by decide +kernel
theorem dX8_has_49 : decode cX8_has 49 = .ok (.iload 5, 2) := by decide +kernel
theorem dX8_has_51 : decode cX8_has 51 = .ok (.istore 7, 2) := by decide +kernel
theorem dX8_has_53 : decode cX8_has 53 = .ok (.iconst 0, 1) := by decide +kernel
theorem dX8_has_54 : decode cX8_has 54 = .ok (.istore 8, 2) := by decide +kernel
theorem dX8_has_56 : decode cX8_has 56 = .ok (.iload 8, 2) := by decide +kernel
theorem dX8_has_58 : decode cX8_has 58 = .ok (.aload_n 0, 1) := by decide +kernel
theorem dX8_has_59 : decode cX8_has 59 = .ok (.getfield 89, 3) := by decide +kernel
theorem dX8_has_62 : decode cX8_has 62 = .ok (.if_icmp .ge 40, 3) := by decide +kernel
theorem dX8_has_65 : decode cX8_has 65 = .ok (.iload 6, 2) := by decide +kernel
theorem dX8_has_67 : decode cX8_has 67 = .ok (.iconst (-1), 1) := by decide +kernel
theorem dX8_has_68 : decode cX8_has 68 = .ok (.if_icmp .eq 34, 3) := by decide +kernel
theorem dX8_has_71 : decode cX8_has 71 = .ok (.aload_n 0, 1) := by decide +kernel
theorem dX8_has_72 : decode cX8_has 72 = .ok (.iload 6, 2) := by decide +kernel
theorem dX8_has_74 : decode cX8_has 74 = .ok (.iload 8, 2) := by decide +kernel
theorem dX8_has_76 : decode cX8_has 76 = .ok (.iload_n 3, 1) := by decide +kernel
theorem dX8_has_77 : decode cX8_has 77 = .ok (.iload 4, 2) := by decide +kernel
theorem dX8_has_79 : decode cX8_has 79 = .ok (.invokevirtual 143, 3) := by decide +kernel
theorem dX8_has_82 : decode cX8_has 82 = .ok (.ifCond .eq 14, 3) := by decide +kernel
theorem dX8_has_85 : decode cX8_has 85 = .ok (.iload 7, 2) := by decide +kernel
theorem dX8_has_87 : decode cX8_has 87 = .ok (.ifCond .ne 6, 3) := by decide +kernel
theorem dX8_has_90 : decode cX8_has 90 = .ok (.iload 8, 2) := by decide +kernel
theorem dX8_has_92 : decode cX8_has 92 = .ok (.ireturn, 1) := by decide +kernel
theorem dX8_has_93 : decode cX8_has 93 = .ok (.iinc 7 (-1), 3) := by decide +kernel
theorem dX8_has_96 : decode cX8_has 96 = .ok (.iinc 8 1, 3) := by decide +kernel
theorem dX8_has_99 : decode cX8_has 99 = .ok (.goto (-43), 3) := by decide +kernel
theorem dX8_has_102 : decode cX8_has 102 = .ok (.iconst (-1), 1) := by decide +kernel
theorem dX8_has_103 : decode cX8_has 103 = .ok (.ireturn, 1) := by decide +kernel
theorem dX8_paper_0 : decode cX8_paper 0 = .ok (.aload_n 0, 1) := by decide +kernel
theorem dX8_paper_1 : decode cX8_paper 1 = .ok (.iload_n 1, 1) := by decide +kernel
theorem dX8_paper_2 : decode cX8_paper 2 = .ok (.invokevirtual 136, 3) := by decide +kernel
theorem dX8_paper_5 : decode cX8_paper 5 = .ok (.ifCond .ne 5, 3) := by decide +kernel
theorem dX8_paper_8 : decode cX8_paper 8 = .ok (.iconst (-1), 1) := by decide +kernel
theorem dX8_paper_9 : decode cX8_paper 9 = .ok (.ireturn, 1) := by decide +kernel
theorem dX8_paper_10 : decode cX8_paper 10 = .ok (.iload_n 2, 1) := by decide +kernel
theorem dX8_paper_11 : decode cX8_paper 11 = .ok (.tableswitch 123 0 9 #[53, 60, 67, 74, 81, 88, 95, 102, 109, 116], 53) := by decide +kernel
theorem dX8_paper_64 : decode cX8_paper 64 = .ok (.aload_n 0, 1) := by decide +kernel
theorem dX8_paper_65 : decode cX8_paper 65 = .ok (.getfield 25, 3) := by decide +kernel
theorem dX8_paper_68 : decode cX8_paper 68 = .ok (.iload_n 1, 1) := by decide +kernel
theorem dX8_paper_69 : decode cX8_paper 69 = .ok (.iaload, 1) := by decide +kernel
theorem dX8_paper_70 : decode cX8_paper 70 = .ok (.ireturn, 1) := by decide +kernel
theorem dX8_paper_71 : decode cX8_paper 71 = .ok (.aload_n 0, 1) := by decide +kernel
theorem dX8_paper_72 : decode cX8_paper 72 = .ok (.getfield 28, 3) := by decide +kernel
theorem dX8_paper_75 : decode cX8_paper 75 = .ok (.iload_n 1, 1) := by decide +kernel
theorem dX8_paper_76 : decode cX8_paper 76 = .ok (.iaload, 1) := by decide +kernel
theorem dX8_paper_77 : decode cX8_paper 77 = .ok (.ireturn, 1) := by decide +kernel
theorem dX8_paper_78 : decode cX8_paper 78 = .ok (.aload_n 0, 1) := by decide +kernel
theorem dX8_paper_79 : decode cX8_paper 79 = .ok (.getfield 31, 3) := by decide +kernel
theorem dX8_paper_82 : decode cX8_paper 82 = .ok (.iload_n 1, 1) := by decide +kernel
theorem dX8_paper_83 : decode cX8_paper 83 = .ok (.iaload, 1) := by decide +kernel
theorem dX8_paper_84 : decode cX8_paper 84 = .ok (.ireturn, 1) := by decide +kernel
theorem dX8_paper_85 : decode cX8_paper 85 = .ok (.aload_n 0, 1) := by decide +kernel
theorem dX8_paper_86 : decode cX8_paper 86 = .ok (.getfield 34, 3) := by decide +kernel
theorem dX8_paper_89 : decode cX8_paper 89 = .ok (.iload_n 1, 1) := by decide +kernel
theorem dX8_paper_90 : decode cX8_paper 90 = .ok (.iaload, 1) := by decide +kernel
theorem dX8_paper_91 : decode cX8_paper 91 = .ok (.ireturn, 1) := by decide +kernel
theorem dX8_paper_92 : decode cX8_paper 92 = .ok (.aload_n 0, 1) := by decide +kernel
theorem dX8_paper_93 : decode cX8_paper 93 = .ok (.getfield 37, 3) := by decide +kernel
theorem dX8_paper_96 : decode cX8_paper 96 = .ok (.iload_n 1, 1) := by decide +kernel
theorem dX8_paper_97 : decode cX8_paper 97 = .ok (.iaload, 1) := by decide +kernel
theorem dX8_paper_98 : decode cX8_paper 98 = .ok (.ireturn, 1) := by decide +kernel
theorem dX8_paper_99 : decode cX8_paper 99 = .ok (.aload_n 0, 1) := by decide +kernel
theorem dX8_paper_100 : decode cX8_paper 100 = .ok (.getfield 40, 3) := by decide +kernel
theorem dX8_paper_103 : decode cX8_paper 103 = .ok (.iload_n 1, 1) := by decide +kernel
theorem dX8_paper_104 : decode cX8_paper 104 = .ok (.iaload, 1) := by decide +kernel
theorem dX8_paper_105 : decode cX8_paper 105 = .ok (.ireturn, 1) := by decide +kernel
theorem dX8_paper_106 : decode cX8_paper 106 = .ok (.aload_n 0, 1) := by decide +kernel
theorem dX8_paper_107 : decode cX8_paper 107 = .ok (.getfield 43, 3) := by decide +kernel
theorem dX8_paper_110 : decode cX8_paper 110 = .ok (.iload_n 1, 1) := by decide +kernel
theorem dX8_paper_111 : decode cX8_paper 111 = .ok (.iaload, 1) := by decide +kernel
theorem dX8_paper_112 : decode cX8_paper 112 = .ok (.ireturn, 1) := by decide +kernel
theorem dX8_paper_113 : decode cX8_paper 113 = .ok (.aload_n 0, 1) := by decide +kernel
theorem dX8_paper_114 : decode cX8_paper 114 = .ok (.getfield 46, 3) := by decide +kernel
theorem dX8_paper_117 : decode cX8_paper 117 = .ok (.iload_n 1, 1) := by decide +kernel
theorem dX8_paper_118 : decode cX8_paper 118 = .ok (.iaload, 1) := by decide +kernel
theorem dX8_paper_119 : decode cX8_paper 119 = .ok (.ireturn, 1) := by decide +kernel
theorem dX8_paper_120 : decode cX8_paper 120 = .ok (.aload_n 0, 1) := by decide +kernel
theorem dX8_paper_121 : decode cX8_paper 121 = .ok (.getfield 49, 3) := by decide +kernel
theorem dX8_paper_124 : decode cX8_paper 124 = .ok (.iload_n 1, 1) := by decide +kernel
theorem dX8_paper_125 : decode cX8_paper 125 = .ok (.iaload, 1) := by decide +kernel
theorem dX8_paper_126 : decode cX8_paper 126 = .ok (.ireturn, 1) := by decide +kernel
theorem dX8_paper_127 : decode cX8_paper 127 = .ok (.aload_n 0, 1) := by decide +kernel
theorem dX8_paper_128 : decode cX8_paper 128 = .ok (.getfield 52, 3) := by decide +kernel
theorem dX8_paper_131 : decode cX8_paper 131 = .ok (.iload_n 1, 1) := by decide +kernel
theorem dX8_paper_132 : decode cX8_paper 132 = .ok (.iaload, 1) := by decide +kernel
theorem dX8_paper_133 : decode cX8_paper 133 = .ok (.ireturn, 1) := by decide +kernel
theorem dX8_paper_134 : decode cX8_paper 134 = .ok (.iconst (-1), 1) := by decide +kernel
theorem dX8_paper_135 : decode cX8_paper 135 = .ok (.ireturn, 1) := by decide +kernel
theorem dX8_noted_0 : decode cX8_noted 0 = .ok (.aload_n 0, 1) := by decide +kernel
theorem dX8_noted_1 : decode cX8_noted 1 = .ok (.iload_n 1, 1) := by decide +kernel
theorem dX8_noted_2 : decode cX8_noted 2 = .ok (.invokevirtual 136, 3) := by decide +kernel
theorem dX8_noted_5 : decode cX8_noted 5 = .ok (.ifCond .eq 23, 3) := by decide +kernel
theorem dX8_noted_8 : decode cX8_noted 8 = .ok (.aload_n 0, 1) := by decide +kernel
theorem dX8_noted_9 : decode cX8_noted 9 = .ok (.getfield 25, 3) := by decide +kernel
theorem dX8_noted_12 : decode cX8_noted 12 = .ok (.iload_n 1, 1) := by decide +kernel
theorem dX8_noted_13 : decode cX8_noted 13 = .ok (.iaload, 1) := by decide +kernel
theorem dX8_noted_14 : decode cX8_noted 14 = .ok (.bipush 9, 2) := by decide +kernel
theorem dX8_noted_16 : decode cX8_noted 16 = .ok (.if_icmp .ne 12, 3) := by decide +kernel
theorem dX8_noted_19 : decode cX8_noted 19 = .ok (.aload_n 0, 1) := by decide +kernel
theorem dX8_noted_20 : decode cX8_noted 20 = .ok (.getfield 55, 3) := by decide +kernel
theorem dX8_noted_23 : decode cX8_noted 23 = .ok (.iload_n 1, 1) := by decide +kernel
theorem dX8_noted_24 : decode cX8_noted 24 = .ok (.laload, 1) := by decide +kernel
theorem dX8_noted_25 : decode cX8_noted 25 = .ok (.goto 4, 3) := by decide +kernel
theorem dX8_noted_28 : decode cX8_noted 28 = .ok (.lconst 0, 1) := by decide +kernel
theorem dX8_noted_29 : decode cX8_noted 29 = .ok (.lreturn, 1) := by decide +kernel
theorem dX8_annex_0 : decode cX8_annex 0 = .ok (.aload_n 0, 1) := by decide +kernel
theorem dX8_annex_1 : decode cX8_annex 1 = .ok (.iload_n 1, 1) := by decide +kernel
theorem dX8_annex_2 : decode cX8_annex 2 = .ok (.invokevirtual 85, 3) := by decide +kernel
theorem dX8_annex_5 : decode cX8_annex 5 = .ok (.ifCond .eq 18, 3) := by decide +kernel
theorem dX8_annex_8 : decode cX8_annex 8 = .ok (.iload_n 2, 1) := by decide +kernel
theorem dX8_annex_9 : decode cX8_annex 9 = .ok (.ifCond .lt 14, 3) := by decide +kernel
theorem dX8_annex_12 : decode cX8_annex 12 = .ok (.iload_n 2, 1) := by decide +kernel
theorem dX8_annex_13 : decode cX8_annex 13 = .ok (.iconst 3, 1) := by decide +kernel
theorem dX8_annex_14 : decode cX8_annex 14 = .ok (.if_icmp .gt 9, 3) := by decide +kernel
theorem dX8_annex_17 : decode cX8_annex 17 = .ok (.iload_n 3, 1) := by decide +kernel
theorem dX8_annex_18 : decode cX8_annex 18 = .ok (.bipush 100, 2) := by decide +kernel
theorem dX8_annex_20 : decode cX8_annex 20 = .ok (.if_icmp .le 6, 3) := by decide +kernel
theorem dX8_annex_23 : decode cX8_annex 23 = .ok (.bipush (-2), 2) := by decide +kernel
theorem dX8_annex_25 : decode cX8_annex 25 = .ok (.ireturn, 1) := by decide +kernel
theorem dX8_annex_26 : decode cX8_annex 26 = .ok (.aload_n 0, 1) := by decide +kernel
theorem dX8_annex_27 : decode cX8_annex 27 = .ok (.getfield 63, 3) := by decide +kernel
theorem dX8_annex_30 : decode cX8_annex 30 = .ok (.iload_n 1, 1) := by decide +kernel
theorem dX8_annex_31 : decode cX8_annex 31 = .ok (.iaload, 1) := by decide +kernel
theorem dX8_annex_32 : decode cX8_annex 32 = .ok (.bipush 8, 2) := by decide +kernel
theorem dX8_annex_34 : decode cX8_annex 34 = .ok (.if_icmp .ne 6, 3) := by decide +kernel
theorem dX8_annex_37 : decode cX8_annex 37 = .ok (.bipush (-8), 2) := by decide +kernel
theorem dX8_annex_39 : decode cX8_annex 39 = .ok (.ireturn, 1) := by decide +kernel
theorem dX8_annex_40 : decode cX8_annex 40 = .ok (.iload_n 3, 1) := by decide +kernel
theorem dX8_annex_41 : decode cX8_annex 41 = .ok (.ifCond .ge 6, 3) := by decide +kernel
theorem dX8_annex_44 : decode cX8_annex 44 = .ok (.bipush (-3), 2) := by decide +kernel
theorem dX8_annex_46 : decode cX8_annex 46 = .ok (.ireturn, 1) := by decide +kernel
theorem dX8_annex_47 : decode cX8_annex 47 = .ok (.bipush 8, 2) := by decide +kernel
theorem dX8_annex_49 : decode cX8_annex 49 = .ok (.iload_n 1, 1) := by decide +kernel
theorem dX8_annex_50 : decode cX8_annex 50 = .ok (.imul, 1) := by decide +kernel
theorem dX8_annex_51 : decode cX8_annex 51 = .ok (.aload_n 0, 1) := by decide +kernel
theorem dX8_annex_52 : decode cX8_annex 52 = .ok (.getfield 63, 3) := by decide +kernel
theorem dX8_annex_55 : decode cX8_annex 55 = .ok (.iload_n 1, 1) := by decide +kernel
theorem dX8_annex_56 : decode cX8_annex 56 = .ok (.iaload, 1) := by decide +kernel
theorem dX8_annex_57 : decode cX8_annex 57 = .ok (.iadd, 1) := by decide +kernel
theorem dX8_annex_58 : decode cX8_annex 58 = .ok (.istore 4, 2) := by decide +kernel
theorem dX8_annex_60 : decode cX8_annex 60 = .ok (.aload_n 0, 1) := by decide +kernel
theorem dX8_annex_61 : decode cX8_annex 61 = .ok (.getfield 63, 3) := by decide +kernel
theorem dX8_annex_64 : decode cX8_annex 64 = .ok (.iload_n 1, 1) := by decide +kernel
theorem dX8_annex_65 : decode cX8_annex 65 = .ok (.dup2, 1) := by decide +kernel
theorem dX8_annex_66 : decode cX8_annex 66 = .ok (.iaload, 1) := by decide +kernel
theorem dX8_annex_67 : decode cX8_annex 67 = .ok (.iconst 1, 1) := by decide +kernel
theorem dX8_annex_68 : decode cX8_annex 68 = .ok (.iadd, 1) := by decide +kernel
theorem dX8_annex_69 : decode cX8_annex 69 = .ok (.iastore, 1) := by decide +kernel
theorem dX8_annex_70 : decode cX8_annex 70 = .ok (.aload_n 0, 1) := by decide +kernel
theorem dX8_annex_71 : decode cX8_annex 71 = .ok (.getfield 66, 3) := by decide +kernel
theorem dX8_annex_74 : decode cX8_annex 74 = .ok (.iload 4, 2) := by decide +kernel
theorem dX8_annex_76 : decode cX8_annex 76 = .ok (.iload_n 2, 1) := by decide +kernel
theorem dX8_annex_77 : decode cX8_annex 77 = .ok (.iastore, 1) := by decide +kernel
theorem dX8_annex_78 : decode cX8_annex 78 = .ok (.aload_n 0, 1) := by decide +kernel
theorem dX8_annex_79 : decode cX8_annex 79 = .ok (.getfield 69, 3) := by decide +kernel
theorem dX8_annex_82 : decode cX8_annex 82 = .ok (.iload 4, 2) := by decide +kernel
theorem dX8_annex_84 : decode cX8_annex 84 = .ok (.iload_n 3, 1) := by decide +kernel
theorem dX8_annex_85 : decode cX8_annex 85 = .ok (.iastore, 1) := by decide +kernel
theorem dX8_annex_86 : decode cX8_annex 86 = .ok (.iconst 0, 1) := by decide +kernel
theorem dX8_annex_87 : decode cX8_annex 87 = .ok (.istore 5, 2) := by decide +kernel
theorem dX8_annex_89 : decode cX8_annex 89 = .ok (.iload 5, 2) := by decide +kernel
theorem dX8_annex_91 : decode cX8_annex 91 = .ok (.iload_n 3, 1) := by decide +kernel
theorem dX8_annex_92 : decode cX8_annex 92 = .ok (.if_icmp .ge 23, 3) := by decide +kernel
theorem dX8_annex_95 : decode cX8_annex 95 = .ok (.aload_n 0, 1) := by decide +kernel
theorem dX8_annex_96 : decode cX8_annex 96 = .ok (.getfield 72, 3) := by decide +kernel
theorem dX8_annex_99 : decode cX8_annex 99 = .ok (.bipush 100, 2) := by decide +kernel
theorem dX8_annex_101 : decode cX8_annex 101 = .ok (.iload 4, 2) := by decide +kernel
theorem dX8_annex_103 : decode cX8_annex 103 = .ok (.imul, 1) := by decide +kernel
theorem dX8_annex_104 : decode cX8_annex 104 = .ok (.iload 5, 2) := by decide +kernel
theorem dX8_annex_106 : decode cX8_annex 106 = .ok (.iadd, 1) := by decide +kernel
theorem dX8_annex_107 : decode cX8_annex 107 = .ok (.lconst 0, 1) := by decide +kernel
theorem dX8_annex_108 : decode cX8_annex 108 = .ok (.lastore, 1) := by decide +kernel
theorem dX8_annex_109 : decode cX8_annex 109 = .ok (.iinc 5 1, 3) := by decide +kernel
theorem dX8_annex_112 : decode cX8_annex 112 = .ok (.goto (-23), 3) := by decide +kernel
theorem dX8_annex_115 : decode cX8_annex 115 = .ok (.iload 4, 2) := by decide +kernel
theorem dX8_annex_117 : decode cX8_annex 117 = .ok (.bipush 8, 2) := by decide +kernel
theorem dX8_annex_119 : decode cX8_annex 119 = .ok (.iload_n 1, 1) := by decide +kernel
theorem dX8_annex_120 : decode cX8_annex 120 = .ok (.imul, 1) := by decide +kernel
theorem dX8_annex_121 : decode cX8_annex 121 = .ok (.isub, 1) := by decide +kernel
theorem dX8_annex_122 : decode cX8_annex 122 = .ok (.ireturn, 1) := by decide +kernel
theorem dX8_isAnnex_0 : decode cX8_isAnnex 0 = .ok (.aload_n 0, 1) := by decide +kernel
theorem dX8_isAnnex_1 : decode cX8_isAnnex 1 = .ok (.iload_n 1, 1) := by decide +kernel
theorem dX8_isAnnex_2 : decode cX8_isAnnex 2 = .ok (.invokevirtual 85, 3) := by decide +kernel
theorem dX8_isAnnex_5 : decode cX8_isAnnex 5 = .ok (.ifCond .eq 21, 3) := by decide +kernel
theorem dX8_isAnnex_8 : decode cX8_isAnnex 8 = .ok (.iload_n 2, 1) := by decide +kernel
theorem dX8_isAnnex_9 : decode cX8_isAnnex 9 = .ok (.ifCond .lt 17, 3) := by decide +kernel
theorem dX8_isAnnex_12 : decode cX8_isAnnex 12 = .ok (.iload_n 2, 1) := by decide +kernel
theorem dX8_isAnnex_13 : decode cX8_isAnnex 13 = .ok (.aload_n 0, 1) := by decide +kernel
theorem dX8_isAnnex_14 : decode cX8_isAnnex 14 = .ok (.getfield 63, 3) := by decide +kernel
theorem dX8_isAnnex_17 : decode cX8_isAnnex 17 = .ok (.iload_n 1, 1) := by decide +kernel
theorem dX8_isAnnex_18 : decode cX8_isAnnex 18 = .ok (.iaload, 1) := by decide +kernel
theorem dX8_isAnnex_19 : decode cX8_isAnnex 19 = .ok (.if_icmp .ge 7, 3) := by decide +kernel
theorem dX8_isAnnex_22 : decode cX8_isAnnex 22 = .ok (.iconst 1, 1) := by decide +kernel
theorem dX8_isAnnex_23 : decode cX8_isAnnex 23 = .ok (.goto 4, 3) := by decide +kernel
theorem dX8_isAnnex_26 : decode cX8_isAnnex 26 = .ok (.iconst 0, 1) := by decide +kernel
theorem dX8_isAnnex_27 : decode cX8_isAnnex 27 = .ok (.ireturn, 1) := by decide +kernel
theorem dX8_tear_0 : decode cX8_tear 0 = .ok (.aload_n 0, 1) := by decide +kernel
theorem dX8_tear_1 : decode cX8_tear 1 = .ok (.iload_n 1, 1) := by decide +kernel
theorem dX8_tear_2 : decode cX8_tear 2 = .ok (.iload_n 2, 1) := by decide +kernel
theorem dX8_tear_3 : decode cX8_tear 3 = .ok (.invokevirtual 192, 3) := by decide +kernel
theorem dX8_tear_6 : decode cX8_tear 6 = .ok (.ifCond .eq 17, 3) := by decide +kernel
theorem dX8_tear_9 : decode cX8_tear 9 = .ok (.aload_n 0, 1) := by decide +kernel
theorem dX8_tear_10 : decode cX8_tear 10 = .ok (.getfield 69, 3) := by decide +kernel
theorem dX8_tear_13 : decode cX8_tear 13 = .ok (.bipush 8, 2) := by decide +kernel
theorem dX8_tear_15 : decode cX8_tear 15 = .ok (.iload_n 1, 1) := by decide +kernel
theorem dX8_tear_16 : decode cX8_tear 16 = .ok (.imul, 1) := by decide +kernel
theorem dX8_tear_17 : decode cX8_tear 17 = .ok (.iload_n 2, 1) := by decide +kernel
theorem dX8_tear_18 : decode cX8_tear 18 = .ok (.iadd, 1) := by decide +kernel
theorem dX8_tear_19 : decode cX8_tear 19 = .ok (.iaload, 1) := by decide +kernel
theorem dX8_tear_20 : decode cX8_tear 20 = .ok (.ifCond .ge 5, 3) := by decide +kernel
theorem dX8_tear_23 : decode cX8_tear 23 = .ok (.iconst 0, 1) := by decide +kernel
theorem dX8_tear_24 : decode cX8_tear 24 = .ok (.ireturn, 1) := by decide +kernel
theorem dX8_tear_25 : decode cX8_tear 25 = .ok (.aload_n 0, 1) := by decide +kernel
theorem dX8_tear_26 : decode cX8_tear 26 = .ok (.getfield 69, 3) := by decide +kernel
theorem dX8_tear_29 : decode cX8_tear 29 = .ok (.bipush 8, 2) := by decide +kernel
theorem dX8_tear_31 : decode cX8_tear 31 = .ok (.iload_n 1, 1) := by decide +kernel
theorem dX8_tear_32 : decode cX8_tear 32 = .ok (.imul, 1) := by decide +kernel
theorem dX8_tear_33 : decode cX8_tear 33 = .ok (.iload_n 2, 1) := by decide +kernel
theorem dX8_tear_34 : decode cX8_tear 34 = .ok (.iadd, 1) := by decide +kernel
theorem dX8_tear_35 : decode cX8_tear 35 = .ok (.iconst (-1), 1) := by decide +kernel
theorem dX8_tear_36 : decode cX8_tear 36 = .ok (.iastore, 1) := by decide +kernel
theorem dX8_tear_37 : decode cX8_tear 37 = .ok (.iconst 1, 1) := by decide +kernel
theorem dX8_tear_38 : decode cX8_tear 38 = .ok (.ireturn, 1) := by decide +kernel
theorem dX8_wrong_0 : decode cX8_wrong 0 = .ok (.aload_n 0, 1) := by decide +kernel
theorem dX8_wrong_1 : decode cX8_wrong 1 = .ok (.iload_n 1, 1) := by decide +kernel
theorem dX8_wrong_2 : decode cX8_wrong 2 = .ok (.iload_n 2, 1) := by decide +kernel
theorem dX8_wrong_3 : decode cX8_wrong 3 = .ok (.invokevirtual 192, 3) := by decide +kernel
theorem dX8_wrong_6 : decode cX8_wrong 6 = .ok (.ifCond .ne 6, 3) := by decide +kernel
theorem dX8_wrong_9 : decode cX8_wrong 9 = .ok (.bipush (-2), 2) := by decide +kernel
theorem dX8_wrong_11 : decode cX8_wrong 11 = .ok (.ireturn, 1) := by decide +kernel
theorem dX8_wrong_12 : decode cX8_wrong 12 = .ok (.aload_n 0, 1) := by decide +kernel
theorem dX8_wrong_13 : decode cX8_wrong 13 = .ok (.getfield 69, 3) := by decide +kernel
theorem dX8_wrong_16 : decode cX8_wrong 16 = .ok (.bipush 8, 2) := by decide +kernel
theorem dX8_wrong_18 : decode cX8_wrong 18 = .ok (.iload_n 1, 1) := by decide +kernel
theorem dX8_wrong_19 : decode cX8_wrong 19 = .ok (.imul, 1) := by decide +kernel
theorem dX8_wrong_20 : decode cX8_wrong 20 = .ok (.iload_n 2, 1) := by decide +kernel
theorem dX8_wrong_21 : decode cX8_wrong 21 = .ok (.iadd, 1) := by decide +kernel
theorem dX8_wrong_22 : decode cX8_wrong 22 = .ok (.iaload, 1) := by decide +kernel
theorem dX8_wrong_23 : decode cX8_wrong 23 = .ok (.istore 4, 2) := by decide +kernel
theorem dX8_wrong_25 : decode cX8_wrong 25 = .ok (.iload 4, 2) := by decide +kernel
theorem dX8_wrong_27 : decode cX8_wrong 27 = .ok (.ifCond .ge 8, 3) := by decide +kernel
theorem dX8_wrong_30 : decode cX8_wrong 30 = .ok (.bipush (-5), 2) := by decide +kernel
theorem dX8_wrong_32 : decode cX8_wrong 32 = .ok (.goto 19, 3) := by decide +kernel
theorem dX8_wrong_35 : decode cX8_wrong 35 = .ok (.iload_n 3, 1) := by decide +kernel
theorem dX8_wrong_36 : decode cX8_wrong 36 = .ok (.ifCond .lt 9, 3) := by decide +kernel
theorem dX8_wrong_39 : decode cX8_wrong 39 = .ok (.iload_n 3, 1) := by decide +kernel
theorem dX8_wrong_40 : decode cX8_wrong 40 = .ok (.iload 4, 2) := by decide +kernel
theorem dX8_wrong_42 : decode cX8_wrong 42 = .ok (.if_icmp .lt 8, 3) := by decide +kernel
theorem dX8_wrong_45 : decode cX8_wrong 45 = .ok (.bipush (-6), 2) := by decide +kernel
theorem dX8_wrong_47 : decode cX8_wrong 47 = .ok (.goto 4, 3) := by decide +kernel
theorem dX8_wrong_50 : decode cX8_wrong 50 = .ok (.iconst 0, 1) := by decide +kernel
theorem dX8_wrong_51 : decode cX8_wrong 51 = .ok (.ireturn, 1) := by decide +kernel
