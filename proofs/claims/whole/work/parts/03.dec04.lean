theorem dX8_isParty_0 : decode cX8_isParty 0 = .ok (.iload_n 1, 1) := by decide +kernel
theorem dX8_isParty_1 : decode cX8_isParty 1 = .ok (.ifCond .lt 15, 3) := by decide +kernel
theorem dX8_isParty_4 : decode cX8_isParty 4 = .ok (.iload_n 1, 1) := by decide +kernel
theorem dX8_isParty_5 : decode cX8_isParty 5 = .ok (.aload_n 0, 1) := by decide +kernel
theorem dX8_isParty_6 : decode cX8_isParty 6 = .ok (.getfield 78, 3) := by decide +kernel
theorem dX8_isParty_9 : decode cX8_isParty 9 = .ok (.if_icmp .ge 7, 3) := by decide +kernel
theorem dX8_isParty_12 : decode cX8_isParty 12 = .ok (.iconst 1, 1) := by decide +kernel
theorem dX8_isParty_13 : decode cX8_isParty 13 = .ok (.goto 4, 3) := by decide +kernel
theorem dX8_isParty_16 : decode cX8_isParty 16 = .ok (.iconst 0, 1) := by decide +kernel
theorem dX8_isParty_17 : decode cX8_isParty 17 = .ok (.ireturn, 1) := by decide +kernel
theorem dX8_isAgreement_0 : decode cX8_isAgreement 0 = .ok (.iload_n 1, 1) := by decide +kernel
theorem dX8_isAgreement_1 : decode cX8_isAgreement 1 = .ok (.ifCond .lt 15, 3) := by decide +kernel
theorem dX8_isAgreement_4 : decode cX8_isAgreement 4 = .ok (.iload_n 1, 1) := by decide +kernel
theorem dX8_isAgreement_5 : decode cX8_isAgreement 5 = .ok (.aload_n 0, 1) := by decide +kernel
theorem dX8_isAgreement_6 : decode cX8_isAgreement 6 = .ok (.getfield 82, 3) := by decide +kernel
theorem dX8_isAgreement_9 : decode cX8_isAgreement 9 = .ok (.if_icmp .ge 7, 3) := by decide +kernel
theorem dX8_isAgreement_12 : decode cX8_isAgreement 12 = .ok (.iconst 1, 1) := by decide +kernel
theorem dX8_isAgreement_13 : decode cX8_isAgreement 13 = .ok (.goto 4, 3) := by decide +kernel
theorem dX8_isAgreement_16 : decode cX8_isAgreement 16 = .ok (.iconst 0, 1) := by decide +kernel
theorem dX8_isAgreement_17 : decode cX8_isAgreement 17 = .ok (.ireturn, 1) := by decide +kernel
theorem dX8_isArticle_0 : decode cX8_isArticle 0 = .ok (.aload_n 0, 1) := by decide +kernel
theorem dX8_isArticle_1 : decode cX8_isArticle 1 = .ok (.iload_n 1, 1) := by decide +kernel
theorem dX8_isArticle_2 : decode cX8_isArticle 2 = .ok (.invokevirtual 85, 3) := by decide +kernel
theorem dX8_isArticle_5 : decode cX8_isArticle 5 = .ok (.ifCond .eq 21, 3) := by decide +kernel
theorem dX8_isArticle_8 : decode cX8_isArticle 8 = .ok (.iload_n 2, 1) := by decide +kernel
theorem dX8_isArticle_9 : decode cX8_isArticle 9 = .ok (.ifCond .lt 17, 3) := by decide +kernel
theorem dX8_isArticle_12 : decode cX8_isArticle 12 = .ok (.iload_n 2, 1) := by decide +kernel
theorem dX8_isArticle_13 : decode cX8_isArticle 13 = .ok (.aload_n 0, 1) := by decide +kernel
theorem dX8_isArticle_14 : decode cX8_isArticle 14 = .ok (.getfield 7, 3) := by decide +kernel
theorem dX8_isArticle_17 : decode cX8_isArticle 17 = .ok (.iload_n 1, 1) := by decide +kernel
theorem dX8_isArticle_18 : decode cX8_isArticle 18 = .ok (.iaload, 1) := by decide +kernel
theorem dX8_isArticle_19 : decode cX8_isArticle 19 = .ok (.if_icmp .ge 7, 3) := by decide +kernel
theorem dX8_isArticle_22 : decode cX8_isArticle 22 = .ok (.iconst 1, 1) := by decide +kernel
theorem dX8_isArticle_23 : decode cX8_isArticle 23 = .ok (.goto 4, 3) := by decide +kernel
theorem dX8_isArticle_26 : decode cX8_isArticle 26 = .ok (.iconst 0, 1) := by decide +kernel
theorem dX8_isArticle_27 : decode cX8_isArticle 27 = .ok (.ireturn, 1) := by decide +kernel
theorem dX8_isPaper_0 : decode cX8_isPaper 0 = .ok (.iload_n 1, 1) := by decide +kernel
theorem dX8_isPaper_1 : decode cX8_isPaper 1 = .ok (.ifCond .lt 15, 3) := by decide +kernel
theorem dX8_isPaper_4 : decode cX8_isPaper 4 = .ok (.iload_n 1, 1) := by decide +kernel
theorem dX8_isPaper_5 : decode cX8_isPaper 5 = .ok (.aload_n 0, 1) := by decide +kernel
theorem dX8_isPaper_6 : decode cX8_isPaper 6 = .ok (.getfield 89, 3) := by decide +kernel
theorem dX8_isPaper_9 : decode cX8_isPaper 9 = .ok (.if_icmp .ge 7, 3) := by decide +kernel
theorem dX8_isPaper_12 : decode cX8_isPaper 12 = .ok (.iconst 1, 1) := by decide +kernel
theorem dX8_isPaper_13 : decode cX8_isPaper 13 = .ok (.goto 4, 3) := by decide +kernel
theorem dX8_isPaper_16 : decode cX8_isPaper 16 = .ok (.iconst 0, 1) := by decide +kernel
theorem dX8_isPaper_17 : decode cX8_isPaper 17 = .ok (.ireturn, 1) := by decide +kernel
theorem dX8_isDay_0 : decode cX8_isDay 0 = .ok (.iload_n 0, 1) := by decide +kernel
theorem dX8_isDay_1 : decode cX8_isDay 1 = .ok (.ifCond .lt 13, 3) := by decide +kernel
theorem dX8_isDay_4 : decode cX8_isDay 4 = .ok (.iload_n 0, 1) := by decide +kernel
theorem dX8_isDay_5 : decode cX8_isDay 5 = .ok (.ldc 92, 2) := by decide +kernel
theorem dX8_isDay_7 : decode cX8_isDay 7 = .ok (.if_icmp .gt 7, 3) := by decide +kernel
theorem dX8_isDay_10 : decode cX8_isDay 10 = .ok (.iconst 1, 1) := by decide +kernel
theorem dX8_isDay_11 : decode cX8_isDay 11 = .ok (.goto 4, 3) := by decide +kernel
theorem dX8_isDay_14 : decode cX8_isDay 14 = .ok (.iconst 0, 1) := by decide +kernel
theorem dX8_isDay_15 : decode cX8_isDay 15 = .ok (.ireturn, 1) := by decide +kernel
theorem dX8_party_0 : decode cX8_party 0 = .ok (.aload_n 0, 1) := by decide +kernel
theorem dX8_party_1 : decode cX8_party 1 = .ok (.getfield 78, 3) := by decide +kernel
theorem dX8_party_4 : decode cX8_party 4 = .ok (.bipush 30, 2) := by decide +kernel
theorem dX8_party_6 : decode cX8_party 6 = .ok (.if_icmp .ne 5, 3) := by decide +kernel
theorem dX8_party_9 : decode cX8_party 9 = .ok (.iconst (-1), 1) := by decide +kernel
theorem dX8_party_10 : decode cX8_party 10 = .ok (.ireturn, 1) := by decide +kernel
theorem dX8_party_11 : decode cX8_party 11 = .ok (.aload_n 0, 1) := by decide +kernel
theorem dX8_party_12 : decode cX8_party 12 = .ok (.dup, 1) := by decide +kernel
theorem dX8_party_13 : decode cX8_party 13 = .ok (.getfield 78, 3) := by decide +kernel
theorem dX8_party_16 : decode cX8_party 16 = .ok (.iconst 1, 1) := by decide +kernel
theorem dX8_party_17 : decode cX8_party 17 = .ok (.iadd, 1) := by decide +kernel
theorem dX8_party_18 : decode cX8_party 18 = .ok (.putfield 78, 3) := by decide +kernel
theorem dX8_party_21 : decode cX8_party 21 = .ok (.aload_n 0, 1) := by decide +kernel
theorem dX8_party_22 : decode cX8_party 22 = .ok (.getfield 78, 3) := by decide +kernel
theorem dX8_party_25 : decode cX8_party 25 = .ok (.iconst 1, 1) := by decide +kernel
theorem dX8_party_26 : decode cX8_party 26 = .ok (.isub, 1) := by decide +kernel
theorem dX8_party_27 : decode cX8_party 27 = .ok (.ireturn, 1) := by decide +kernel
theorem dX8_agreement_0 : decode cX8_agreement 0 = .ok (.iload_n 1, 1) := by decide +kernel
theorem dX8_agreement_1 : decode cX8_agreement 1 = .ok (.iconst 1, 1) := by decide +kernel
theorem dX8_agreement_2 : decode cX8_agreement 2 = .ok (.if_icmp .lt 24, 3) := by decide +kernel
theorem dX8_agreement_5 : decode cX8_agreement 5 = .ok (.iload_n 1, 1) := by decide +kernel
theorem dX8_agreement_6 : decode cX8_agreement 6 = .ok (.bipush 20, 2) := by decide +kernel
theorem dX8_agreement_8 : decode cX8_agreement 8 = .ok (.if_icmp .gt 18, 3) := by decide +kernel
theorem dX8_agreement_11 : decode cX8_agreement 11 = .ok (.iload_n 2, 1) := by decide +kernel
theorem dX8_agreement_12 : decode cX8_agreement 12 = .ok (.iconst 1, 1) := by decide +kernel
theorem dX8_agreement_13 : decode cX8_agreement 13 = .ok (.if_icmp .lt 13, 3) := by decide +kernel
theorem dX8_agreement_16 : decode cX8_agreement 16 = .ok (.iload_n 2, 1) := by decide +kernel
theorem dX8_agreement_17 : decode cX8_agreement 17 = .ok (.bipush 10, 2) := by decide +kernel
theorem dX8_agreement_19 : decode cX8_agreement 19 = .ok (.if_icmp .gt 7, 3) := by decide +kernel
theorem dX8_agreement_22 : decode cX8_agreement 22 = .ok (.iconst 1, 1) := by decide +kernel
theorem dX8_agreement_23 : decode cX8_agreement 23 = .ok (.goto 4, 3) := by decide +kernel
theorem dX8_agreement_26 : decode cX8_agreement 26 = .ok (.iconst 0, 1) := by decide +kernel
theorem dX8_agreement_27 : decode cX8_agreement 27 = .ok (.istore 5, 2) := by decide +kernel
theorem dX8_agreement_29 : decode cX8_agreement 29 = .ok (.iload 5, 2) := by decide +kernel
theorem dX8_agreement_31 : decode cX8_agreement 31 = .ok (.ifCond .eq 31, 3) := by decide +kernel
theorem dX8_agreement_34 : decode cX8_agreement 34 = .ok (.iload_n 3, 1) := by decide +kernel
theorem dX8_agreement_35 : decode cX8_agreement 35 = .ok (.ifCond .lt 27, 3) := by decide +kernel
theorem dX8_agreement_38 : decode cX8_agreement 38 = .ok (.iload_n 3, 1) := by decide +kernel
theorem dX8_agreement_39 : decode cX8_agreement 39 = .ok (.sipush 1000, 3) := by decide +kernel
theorem dX8_agreement_42 : decode cX8_agreement 42 = .ok (.if_icmp .gt 20, 3) := by decide +kernel
theorem dX8_agreement_45 : decode cX8_agreement 45 = .ok (.iload 4, 2) := by decide +kernel
theorem dX8_agreement_47 : decode cX8_agreement 47 = .ok (.ifCond .lt 15, 3) := by decide +kernel
theorem dX8_agreement_50 : decode cX8_agreement 50 = .ok (.iload 4, 2) := by decide +kernel
theorem dX8_agreement_52 : decode cX8_agreement 52 = .ok (.sipush 1000, 3) := by decide +kernel
theorem dX8_agreement_55 : decode cX8_agreement 55 = .ok (.if_icmp .gt 7, 3) := by decide +kernel
theorem dX8_agreement_58 : decode cX8_agreement 58 = .ok (.iconst 1, 1) := by decide +kernel
theorem dX8_agreement_59 : decode cX8_agreement 59 = .ok (.goto 4, 3) := by decide +kernel
theorem dX8_agreement_62 : decode cX8_agreement 62 = .ok (.iconst 0, 1) := by decide +kernel
theorem dX8_agreement_63 : decode cX8_agreement 63 = .ok (.istore 5, 2) := by decide +kernel
theorem dX8_agreement_65 : decode cX8_agreement 65 = .ok (.aload_n 0, 1) := by decide +kernel
theorem dX8_agreement_66 : decode cX8_agreement 66 = .ok (.getfield 82, 3) := by decide +kernel
theorem dX8_agreement_69 : decode cX8_agreement 69 = .ok (.bipush 10, 2) := by decide +kernel
theorem dX8_agreement_71 : decode cX8_agreement 71 = .ok (.if_icmp .eq 8, 3) := by decide +kernel
theorem dX8_agreement_74 : decode cX8_agreement 74 = .ok (.iload 5, 2) := by decide +kernel
theorem dX8_agreement_76 : decode cX8_agreement 76 = .ok (.ifCond .ne 5, 3) := by decide +kernel
theorem dX8_agreement_79 : decode cX8_agreement 79 = .ok (.iconst (-1), 1) := by decide +kernel
theorem dX8_agreement_80 : decode cX8_agreement 80 = .ok (.ireturn, 1) := by decide +kernel
theorem dX8_agreement_81 : decode cX8_agreement 81 = .ok (.aload_n 0, 1) := by decide +kernel
theorem dX8_agreement_82 : decode cX8_agreement 82 = .ok (.getfield 82, 3) := by decide +kernel
theorem dX8_agreement_85 : decode cX8_agreement 85 = .ok (.istore 6, 2) := by decide +kernel
theorem dX8_agreement_87 : decode cX8_agreement 87 = .ok (.aload_n 0, 1) := by decide +kernel
theorem dX8_agreement_88 : decode cX8_agreement 88 = .ok (.dup, 1) := by decide +kernel
theorem dX8_agreement_89 : decode cX8_agreement 89 = .ok (.getfield 82, 3) := by decide +kernel
theorem dX8_agreement_92 : decode cX8_agreement 92 = .ok (.iconst 1, 1) := by decide +kernel
theorem dX8_agreement_93 : decode cX8_agreement 93 = .ok (.iadd, 1) := by decide +kernel
theorem dX8_agreement_94 : decode cX8_agreement 94 = .ok (.putfield 82, 3) := by decide +kernel
theorem dX8_agreement_97 : decode cX8_agreement 97 = .ok (.aload_n 0, 1) := by decide +kernel
theorem dX8_agreement_98 : decode cX8_agreement 98 = .ok (.getfield 7, 3) := by decide +kernel
theorem dX8_agreement_101 : decode cX8_agreement 101 = .ok (.iload 6, 2) := by decide +kernel
theorem dX8_agreement_103 : decode cX8_agreement 103 = .ok (.iload_n 1, 1) := by decide +kernel
theorem dX8_agreement_104 : decode cX8_agreement 104 = .ok (.iastore, 1) := by decide +kernel
theorem dX8_agreement_105 : decode cX8_agreement 105 = .ok (.aload_n 0, 1) := by decide +kernel
theorem dX8_agreement_106 : decode cX8_agreement 106 = .ok (.getfield 13, 3) := by decide +kernel
theorem dX8_agreement_109 : decode cX8_agreement 109 = .ok (.iload 6, 2) := by decide +kernel
theorem dX8_agreement_111 : decode cX8_agreement 111 = .ok (.iload_n 2, 1) := by decide +kernel
theorem dX8_agreement_112 : decode cX8_agreement 112 = .ok (.iastore, 1) := by decide +kernel
theorem dX8_agreement_113 : decode cX8_agreement 113 = .ok (.aload_n 0, 1) := by decide +kernel
theorem dX8_agreement_114 : decode cX8_agreement 114 = .ok (.getfield 16, 3) := by decide +kernel
theorem dX8_agreement_117 : decode cX8_agreement 117 = .ok (.iload 6, 2) := by decide +kernel
theorem dX8_agreement_119 : decode cX8_agreement 119 = .ok (.iload_n 3, 1) := by decide +kernel
theorem dX8_agreement_120 : decode cX8_agreement 120 = .ok (.iastore, 1) := by decide +kernel
theorem dX8_agreement_121 : decode cX8_agreement 121 = .ok (.aload_n 0, 1) := by decide +kernel
theorem dX8_agreement_122 : decode cX8_agreement 122 = .ok (.getfield 19, 3) := by decide +kernel
theorem dX8_agreement_125 : decode cX8_agreement 125 = .ok (.iload 6, 2) := by decide +kernel
theorem dX8_agreement_127 : decode cX8_agreement 127 = .ok (.iload 4, 2) := by decide +kernel
theorem dX8_agreement_129 : decode cX8_agreement 129 = .ok (.iastore, 1) := by decide +kernel
theorem dX8_agreement_130 : decode cX8_agreement 130 = .ok (.iconst 0, 1) := by decide +kernel
theorem dX8_agreement_131 : decode cX8_agreement 131 = .ok (.istore 7, 2) := by decide +kernel
theorem dX8_agreement_133 : decode cX8_agreement 133 = .ok (.iload 7, 2) := by decide +kernel
theorem dX8_agreement_135 : decode cX8_agreement 135 = .ok (.iload_n 1, 1) := by decide +kernel
theorem dX8_agreement_136 : decode cX8_agreement 136 = .ok (.if_icmp .ge 26, 3) := by decide +kernel
theorem dX8_agreement_139 : decode cX8_agreement 139 = .ok (.aload_n 0, 1) := by decide +kernel
theorem dX8_agreement_140 : decode cX8_agreement 140 = .ok (.getfield 22, 3) := by decide +kernel
theorem dX8_agreement_143 : decode cX8_agreement 143 = .ok (.bipush 20, 2) := by decide +kernel
theorem dX8_agreement_145 : decode cX8_agreement 145 = .ok (.iload 6, 2) := by decide +kernel
theorem dX8_agreement_147 : decode cX8_agreement 147 = .ok (.imul, 1) := by decide +kernel
theorem dX8_agreement_148 : decode cX8_agreement 148 = .ok (.iload 7, 2) := by decide +kernel
theorem dX8_agreement_150 : decode cX8_agreement 150 = .ok (.iadd, 1) := by decide +kernel
theorem dX8_agreement_151 : decode cX8_agreement 151 = .ok (.iload 7, 2) := by decide +kernel
theorem dX8_agreement_153 : decode cX8_agreement 153 = .ok (.iconst 1, 1) := by decide +kernel
theorem dX8_agreement_154 : decode cX8_agreement 154 = .ok (.iadd, 1) := by decide +kernel
theorem dX8_agreement_155 : decode cX8_agreement 155 = .ok (.iastore, 1) := by decide +kernel
theorem dX8_agreement_156 : decode cX8_agreement 156 = .ok (.iinc 7 1, 3) := by decide +kernel
theorem dX8_agreement_159 : decode cX8_agreement 159 = .ok (.goto (-26), 3) := by decide +kernel
theorem dX8_agreement_162 : decode cX8_agreement 162 = .ok (.aload_n 0, 1) := by decide +kernel
theorem dX8_agreement_163 : decode cX8_agreement 163 = .ok (.getfield 63, 3) := by decide +kernel
theorem dX8_agreement_166 : decode cX8_agreement 166 = .ok (.iload 6, 2) := by decide +kernel
theorem dX8_agreement_168 : decode cX8_agreement 168 = .ok (.iconst 0, 1) := by decide +kernel
theorem dX8_agreement_169 : decode cX8_agreement 169 = .ok (.iastore, 1) := by decide +kernel
theorem dX8_agreement_170 : decode cX8_agreement 170 = .ok (.iload 6, 2) := by decide +kernel
theorem dX8_agreement_172 : decode cX8_agreement 172 = .ok (.ireturn, 1) := by decide +kernel
theorem dX8_article_0 : decode cX8_article 0 = .ok (.aload_n 0, 1) := by decide +kernel
theorem dX8_article_1 : decode cX8_article 1 = .ok (.iload_n 1, 1) := by decide +kernel
theorem dX8_article_2 : decode cX8_article 2 = .ok (.iload_n 2, 1) := by decide +kernel
theorem dX8_article_3 : decode cX8_article 3 = .ok (.invokevirtual 93, 3) := by decide +kernel
theorem dX8_article_6 : decode cX8_article 6 = .ok (.ifCond .eq 14, 3) := by decide +kernel
theorem dX8_article_9 : decode cX8_article 9 = .ok (.iload_n 3, 1) := by decide +kernel
theorem dX8_article_10 : decode cX8_article 10 = .ok (.iconst 1, 1) := by decide +kernel
theorem dX8_article_11 : decode cX8_article 11 = .ok (.if_icmp .lt 9, 3) := by decide +kernel
theorem dX8_article_14 : decode cX8_article 14 = .ok (.iload_n 3, 1) := by decide +kernel
theorem dX8_article_15 : decode cX8_article 15 = .ok (.ldc 97, 2) := by decide +kernel
theorem dX8_article_17 : decode cX8_article 17 = .ok (.if_icmp .le 5, 3) := by decide +kernel
theorem dX8_article_20 : decode cX8_article 20 = .ok (.iconst (-1), 1) := by decide +kernel
theorem dX8_article_21 : decode cX8_article 21 = .ok (.ireturn, 1) := by decide +kernel
theorem dX8_article_22 : decode cX8_article 22 = .ok (.iconst 0, 1) := by decide +kernel
theorem dX8_article_23 : decode cX8_article 23 = .ok (.istore 4, 2) := by decide +kernel
theorem dX8_article_25 : decode cX8_article 25 = .ok (.iload 4, 2) := by decide +kernel
theorem dX8_article_27 : decode cX8_article 27 = .ok (.aload_n 0, 1) := by decide +kernel
theorem dX8_article_28 : decode cX8_article 28 = .ok (.getfield 89, 3) := by decide +kernel
theorem dX8_article_31 : decode cX8_article 31 = .ok (.if_icmp .ge 22, 3) := by decide +kernel
theorem dX8_article_34 : decode cX8_article 34 = .ok (.aload_n 0, 1) := by decide +kernel
theorem dX8_article_35 : decode cX8_article 35 = .ok (.getfield 31, 3) := by decide +kernel
theorem dX8_article_38 : decode cX8_article 38 = .ok (.iload 4, 2) := by decide +kernel
theorem dX8_article_40 : decode cX8_article 40 = .ok (.iaload, 1) := by decide +kernel
theorem dX8_article_41 : decode cX8_article 41 = .ok (.iload_n 1, 1) := by decide +kernel
theorem dX8_article_42 : decode cX8_article 42 = .ok (.if_icmp .ne 5, 3) := by decide +kernel
theorem dX8_article_45 : decode cX8_article 45 = .ok (.iconst (-1), 1) := by decide +kernel
theorem dX8_article_46 : decode cX8_article 46 = .ok (.ireturn, 1) := by decide +kernel
theorem dX8_article_47 : decode cX8_article 47 = .ok (.iinc 4 1, 3) := by decide +kernel
theorem dX8_article_50 : decode cX8_article 50 = .ok (.goto (-25), 3) := by decide +kernel
theorem dX8_article_53 : decode cX8_article 53 = .ok (.aload_n 0, 1) := by decide +kernel
theorem dX8_article_54 : decode cX8_article 54 = .ok (.getfield 22, 3) := by decide +kernel
theorem dX8_article_57 : decode cX8_article 57 = .ok (.bipush 20, 2) := by decide +kernel
theorem dX8_article_59 : decode cX8_article 59 = .ok (.iload_n 1, 1) := by decide +kernel
theorem dX8_article_60 : decode cX8_article 60 = .ok (.imul, 1) := by decide +kernel
theorem dX8_article_61 : decode cX8_article 61 = .ok (.iload_n 2, 1) := by decide +kernel
theorem dX8_article_62 : decode cX8_article 62 = .ok (.iadd, 1) := by decide +kernel
theorem dX8_article_63 : decode cX8_article 63 = .ok (.iaload, 1) := by decide +kernel
theorem dX8_article_64 : decode cX8_article 64 = .ok (.istore 4, 2) := by decide +kernel
theorem dX8_article_66 : decode cX8_article 66 = .ok (.aload_n 0, 1) := by decide +kernel
theorem dX8_article_67 : decode cX8_article 67 = .ok (.getfield 22, 3) := by decide +kernel
theorem dX8_article_70 : decode cX8_article 70 = .ok (.bipush 20, 2) := by decide +kernel
theorem dX8_article_72 : decode cX8_article 72 = .ok (.iload_n 1, 1) := by decide +kernel
theorem dX8_article_73 : decode cX8_article 73 = .ok (.imul, 1) := by decide +kernel
theorem dX8_article_74 : decode cX8_article 74 = .ok (.iload_n 2, 1) := by decide +kernel
theorem dX8_article_75 : decode cX8_article 75 = .ok (.iadd, 1) := by decide +kernel
theorem dX8_article_76 : decode cX8_article 76 = .ok (.iload_n 3, 1) := by decide +kernel
theorem dX8_article_77 : decode cX8_article 77 = .ok (.iastore, 1) := by decide +kernel
theorem dX8_article_78 : decode cX8_article 78 = .ok (.iload 4, 2) := by decide +kernel
theorem dX8_article_80 : decode cX8_article 80 = .ok (.ireturn, 1) := by decide +kernel
theorem dX8_clock_0 : decode cX8_clock 0 = .ok (.iload_n 1, 1) := by decide +kernel
theorem dX8_clock_1 : decode cX8_clock 1 = .ok (.aload_n 0, 1) := by decide +kernel
theorem dX8_clock_2 : decode cX8_clock 2 = .ok (.getfield 98, 3) := by decide +kernel
theorem dX8_clock_5 : decode cX8_clock 5 = .ok (.if_icmp .lt 9, 3) := by decide +kernel
theorem dX8_clock_8 : decode cX8_clock 8 = .ok (.iload_n 1, 1) := by decide +kernel
theorem dX8_clock_9 : decode cX8_clock 9 = .ok (.ldc 92, 2) := by decide +kernel
theorem dX8_clock_11 : decode cX8_clock 11 = .ok (.if_icmp .le 5, 3) := by decide +kernel
theorem dX8_clock_14 : decode cX8_clock 14 = .ok (.iconst 0, 1) := by decide +kernel
theorem dX8_clock_15 : decode cX8_clock 15 = .ok (.ireturn, 1) := by decide +kernel
theorem dX8_clock_16 : decode cX8_clock 16 = .ok (.aload_n 0, 1) := by decide +kernel
theorem dX8_clock_17 : decode cX8_clock 17 = .ok (.iload_n 1, 1) := by decide +kernel
theorem dX8_clock_18 : decode cX8_clock 18 = .ok (.putfield 98, 3) := by decide +kernel
theorem dX8_clock_21 : decode cX8_clock 21 = .ok (.iconst 1, 1) := by decide +kernel
theorem dX8_clock_22 : decode cX8_clock 22 = .ok (.ireturn, 1) := by decide +kernel
theorem dX8_isMembership_0 : decode cX8_isMembership 0 = .ok (.aload_n 0, 1) := by decide +kernel
theorem dX8_isMembership_1 : decode cX8_isMembership 1 = .ok (.getfield 25, 3) := by decide +kernel
theorem dX8_isMembership_4 : decode cX8_isMembership 4 = .ok (.iload_n 1, 1) := by decide +kernel
theorem dX8_isMembership_5 : decode cX8_isMembership 5 = .ok (.iaload, 1) := by decide +kernel
theorem dX8_isMembership_6 : decode cX8_isMembership 6 = .ok (.iconst 1, 1) := by decide +kernel
theorem dX8_isMembership_7 : decode cX8_isMembership 7 = .ok (.if_icmp .eq 24, 3) := by decide +kernel
theorem dX8_isMembership_10 : decode cX8_isMembership 10 = .ok (.aload_n 0, 1) := by decide +kernel
theorem dX8_isMembership_11 : decode cX8_isMembership 11 = .ok (.getfield 25, 3) := by decide +kernel
theorem dX8_isMembership_14 : decode cX8_isMembership 14 = .ok (.iload_n 1, 1) := by decide +kernel
theorem dX8_isMembership_15 : decode cX8_isMembership 15 = .ok (.iaload, 1) := by decide +kernel
theorem dX8_isMembership_16 : decode cX8_isMembership 16 = .ok (.iconst 2, 1) := by decide +kernel
theorem dX8_isMembership_17 : decode cX8_isMembership 17 = .ok (.if_icmp .eq 14, 3) := by decide +kernel
theorem dX8_isMembership_20 : decode cX8_isMembership 20 = .ok (.aload_n 0, 1) := by decide +kernel
theorem dX8_isMembership_21 : decode cX8_isMembership 21 = .ok (.getfield 25, 3) := by decide +kernel
theorem dX8_isMembership_24 : decode cX8_isMembership 24 = .ok (.iload_n 1, 1) := by decide +kernel
theorem dX8_isMembership_25 : decode cX8_isMembership 25 = .ok (.iaload, 1) := by decide +kernel
theorem dX8_isMembership_26 : decode cX8_isMembership 26 = .ok (.bipush 8, 2) := by decide +kernel
theorem dX8_isMembership_28 : decode cX8_isMembership 28 = .ok (.if_icmp .ne 7, 3) := by decide +kernel
theorem dX8_isMembership_31 : decode cX8_isMembership 31 = .ok (.iconst 1, 1) := by decide +kernel
theorem dX8_isMembership_32 : decode cX8_isMembership 32 = .ok (.goto 4, 3) := by decide +kernel
theorem dX8_isMembership_35 : decode cX8_isMembership 35 = .ok (.iconst 0, 1) := by decide +kernel
theorem dX8_isMembership_36 : decode cX8_isMembership 36 = .ok (.ireturn, 1) := by decide +kernel
theorem dX8_belongs_0 : decode cX8_belongs 0 = .ok (.iconst 0, 1) := by decide +kernel
theorem dX8_belongs_1 : decode cX8_belongs 1 = .ok (.istore_n 3, 1) := by decide +kernel
theorem dX8_belongs_2 : decode cX8_belongs 2 = .ok (.iload_n 3, 1) := by decide +kernel
theorem dX8_belongs_3 : decode cX8_belongs 3 = .ok (.aload_n 0, 1) := by decide +kernel
theorem dX8_belongs_4 : decode cX8_belongs 4 = .ok (.getfield 89, 3) := by decide +kernel
theorem dX8_belongs_7 : decode cX8_belongs 7 = .ok (.if_icmp .ge 114, 3) := by decide +kernel
theorem dX8_belongs_10 : decode cX8_belongs 10 = .ok (.aload_n 0, 1) := by decide +kernel
theorem dX8_belongs_11 : decode cX8_belongs 11 = .ok (.iload_n 3, 1) := by decide +kernel
theorem dX8_belongs_12 : decode cX8_belongs 12 = .ok (.invokevirtual 101, 3) := by decide +kernel
theorem dX8_belongs_15 : decode cX8_belongs 15 = .ok (.ifCond .eq 100, 3) := by decide +kernel
theorem dX8_belongs_18 : decode cX8_belongs 18 = .ok (.aload_n 0, 1) := by decide +kernel
theorem dX8_belongs_19 : decode cX8_belongs 19 = .ok (.getfield 28, 3) := by decide +kernel
theorem dX8_belongs_22 : decode cX8_belongs 22 = .ok (.iload_n 3, 1) := by decide +kernel
theorem dX8_belongs_23 : decode cX8_belongs 23 = .ok (.iaload, 1) := by decide +kernel
theorem dX8_belongs_24 : decode cX8_belongs 24 = .ok (.iload_n 1, 1) := by decide +kernel
theorem dX8_belongs_25 : decode cX8_belongs 25 = .ok (.if_icmp .ne 90, 3) := by decide +kernel
theorem dX8_belongs_28 : decode cX8_belongs 28 = .ok (.aload_n 0, 1) := by decide +kernel
theorem dX8_belongs_29 : decode cX8_belongs 29 = .ok (.getfield 31, 3) := by decide +kernel
theorem dX8_belongs_32 : decode cX8_belongs 32 = .ok (.iload_n 3, 1) := by decide +kernel
theorem dX8_belongs_33 : decode cX8_belongs 33 = .ok (.iaload, 1) := by decide +kernel
theorem dX8_belongs_34 : decode cX8_belongs 34 = .ok (.iload_n 2, 1) := by decide +kernel
theorem dX8_belongs_35 : decode cX8_belongs 35 = .ok (.if_icmp .eq 6, 3) := by decide +kernel
theorem dX8_belongs_38 : decode cX8_belongs 38 = .ok (.goto 77, 3) := by decide +kernel
theorem dX8_belongs_41 : decode cX8_belongs 41 = .ok (.iconst 0, 1) := by decide +kernel
theorem dX8_belongs_42 : decode cX8_belongs 42 = .ok (.istore 4, 2) := by decide +kernel
theorem dX8_belongs_44 : decode cX8_belongs 44 = .ok (.iconst 0, 1) := by decide +kernel
theorem dX8_belongs_45 : decode cX8_belongs 45 = .ok (.istore 5, 2) := by decide +kernel
theorem dX8_belongs_47 : decode cX8_belongs 47 = .ok (.iload 5, 2) := by decide +kernel
theorem dX8_belongs_49 : decode cX8_belongs 49 = .ok (.aload_n 0, 1) := by decide +kernel
theorem dX8_belongs_50 : decode cX8_belongs 50 = .ok (.getfield 89, 3) := by decide +kernel
theorem dX8_belongs_53 : decode cX8_belongs 53 = .ok (.if_icmp .ge 55, 3) := by decide +kernel
theorem dX8_belongs_56 : decode cX8_belongs 56 = .ok (.iload 4, 2) := by decide +kernel
theorem dX8_belongs_58 : decode cX8_belongs 58 = .ok (.ifCond .ne 37, 3) := by decide +kernel
theorem dX8_belongs_61 : decode cX8_belongs 61 = .ok (.aload_n 0, 1) := by decide +kernel
theorem dX8_belongs_62 : decode cX8_belongs 62 = .ok (.getfield 25, 3) := by decide +kernel
theorem dX8_belongs_65 : decode cX8_belongs 65 = .ok (.iload 5, 2) := by decide +kernel
theorem dX8_belongs_67 : decode cX8_belongs 67 = .ok (.iaload, 1) := by decide +kernel
theorem dX8_belongs_68 : decode cX8_belongs 68 = .ok (.iconst 5, 1) := by decide +kernel
theorem dX8_belongs_69 : decode cX8_belongs 69 = .ok (.if_icmp .eq 15, 3) := by decide +kernel
theorem dX8_belongs_72 : decode cX8_belongs 72 = .ok (.aload_n 0, 1) := by decide +kernel
theorem dX8_belongs_73 : decode cX8_belongs 73 = .ok (.getfield 25, 3) := by decide +kernel
theorem dX8_belongs_76 : decode cX8_belongs 76 = .ok (.iload 5, 2) := by decide +kernel
theorem dX8_belongs_78 : decode cX8_belongs 78 = .ok (.iaload, 1) := by decide +kernel
theorem dX8_belongs_79 : decode cX8_belongs 79 = .ok (.bipush 8, 2) := by decide +kernel
theorem dX8_belongs_81 : decode cX8_belongs 81 = .ok (.if_icmp .ne 18, 3) := by decide +kernel
theorem dX8_belongs_84 : decode cX8_belongs 84 = .ok (.aload_n 0, 1) := by decide +kernel
theorem dX8_belongs_85 : decode cX8_belongs 85 = .ok (.getfield 40, 3) := by decide +kernel
theorem dX8_belongs_88 : decode cX8_belongs 88 = .ok (.iload 5, 2) := by decide +kernel
theorem dX8_belongs_90 : decode cX8_belongs 90 = .ok (.iaload, 1) := by decide +kernel
theorem dX8_belongs_91 : decode cX8_belongs 91 = .ok (.iload_n 3, 1) := by decide +kernel
theorem dX8_belongs_92 : decode cX8_belongs 92 = .ok (.if_icmp .ne 7, 3) := by decide +kernel
theorem dX8_belongs_95 : decode cX8_belongs 95 = .ok (.iconst 1, 1) := by decide +kernel
theorem dX8_belongs_96 : decode cX8_belongs 96 = .ok (.goto 4, 3) := by decide +kernel
theorem dX8_belongs_99 : decode cX8_belongs 99 = .ok (.iconst 0, 1) := by decide +kernel
theorem dX8_belongs_100 : decode cX8_belongs 100 = .ok (.istore 4, 2) := by decide +kernel
theorem dX8_belongs_102 : decode cX8_belongs 102 = .ok (.iinc 5 1, 3) := by decide +kernel
theorem dX8_belongs_105 : decode cX8_belongs 105 = .ok (.goto (-58), 3) := by decide +kernel
theorem dX8_belongs_108 : decode cX8_belongs 108 = .ok (.iload 4, 2) := by decide +kernel
theorem dX8_belongs_110 : decode cX8_belongs 110 = .ok (.ifCond .ne 5, 3) := by decide +kernel
theorem dX8_belongs_113 : decode cX8_belongs 113 = .ok (.iload_n 3, 1) := by decide +kernel
theorem dX8_belongs_114 : decode cX8_belongs 114 = .ok (.ireturn, 1) := by decide +kernel
theorem dX8_belongs_115 : decode cX8_belongs 115 = .ok (.iinc 3 1, 3) := by decide +kernel
theorem dX8_belongs_118 : decode cX8_belongs 118 = .ok (.goto (-116), 3) := by decide +kernel
theorem dX8_belongs_121 : decode cX8_belongs 121 = .ok (.iconst (-1), 1) := by decide +kernel
theorem dX8_belongs_122 : decode cX8_belongs 122 = .ok (.ireturn, 1) := by decide +kernel
theorem dX8_stands_0 : decode cX8_stands 0 = .ok (.aload_n 0, 1) := by decide +kernel
theorem dX8_stands_1 : decode cX8_stands 1 = .ok (.getfield 34, 3) := by decide +kernel
theorem dX8_stands_4 : decode cX8_stands 4 = .ok (.iload_n 1, 1) := by decide +kernel
theorem dX8_stands_5 : decode cX8_stands 5 = .ok (.iaload, 1) := by decide +kernel
theorem dX8_stands_6 : decode cX8_stands 6 = .ok (.iload_n 3, 1) := by decide +kernel
theorem dX8_stands_7 : decode cX8_stands 7 = .ok (.if_icmp .gt 13, 3) := by decide +kernel
theorem dX8_stands_10 : decode cX8_stands 10 = .ok (.aload_n 0, 1) := by decide +kernel
theorem dX8_stands_11 : decode cX8_stands 11 = .ok (.getfield 37, 3) := by decide +kernel
theorem dX8_stands_14 : decode cX8_stands 14 = .ok (.iload_n 1, 1) := by decide +kernel
theorem dX8_stands_15 : decode cX8_stands 15 = .ok (.iaload, 1) := by decide +kernel
theorem dX8_stands_16 : decode cX8_stands 16 = .ok (.iload_n 2, 1) := by decide +kernel
theorem dX8_stands_17 : decode cX8_stands 17 = .ok (.if_icmp .le 5, 3) := by decide +kernel
theorem dX8_stands_20 : decode cX8_stands 20 = .ok (.iconst 0, 1) := by decide +kernel
theorem dX8_stands_21 : decode cX8_stands 21 = .ok (.ireturn, 1) := by decide +kernel
theorem dX8_stands_22 : decode cX8_stands 22 = .ok (.iconst 0, 1) := by decide +kernel
theorem dX8_stands_23 : decode cX8_stands 23 = .ok (.istore 4, 2) := by decide +kernel
theorem dX8_stands_25 : decode cX8_stands 25 = .ok (.iload 4, 2) := by decide +kernel
theorem dX8_stands_27 : decode cX8_stands 27 = .ok (.aload_n 0, 1) := by decide +kernel
theorem dX8_stands_28 : decode cX8_stands 28 = .ok (.getfield 89, 3) := by decide +kernel
theorem dX8_stands_31 : decode cX8_stands 31 = .ok (.if_icmp .ge 67, 3) := by decide +kernel
theorem dX8_stands_34 : decode cX8_stands 34 = .ok (.aload_n 0, 1) := by decide +kernel
theorem dX8_stands_35 : decode cX8_stands 35 = .ok (.getfield 25, 3) := by decide +kernel
theorem dX8_stands_38 : decode cX8_stands 38 = .ok (.iload 4, 2) := by decide +kernel
theorem dX8_stands_40 : decode cX8_stands 40 = .ok (.iaload, 1) := by decide +kernel
theorem dX8_stands_41 : decode cX8_stands 41 = .ok (.iconst 5, 1) := by decide +kernel
theorem dX8_stands_42 : decode cX8_stands 42 = .ok (.if_icmp .eq 15, 3) := by decide +kernel
theorem dX8_stands_45 : decode cX8_stands 45 = .ok (.aload_n 0, 1) := by decide +kernel
theorem dX8_stands_46 : decode cX8_stands 46 = .ok (.getfield 25, 3) := by decide +kernel
theorem dX8_stands_49 : decode cX8_stands 49 = .ok (.iload 4, 2) := by decide +kernel
theorem dX8_stands_51 : decode cX8_stands 51 = .ok (.iaload, 1) := by decide +kernel
theorem dX8_stands_52 : decode cX8_stands 52 = .ok (.bipush 8, 2) := by decide +kernel
theorem dX8_stands_54 : decode cX8_stands 54 = .ok (.if_icmp .ne 38, 3) := by decide +kernel
theorem dX8_stands_57 : decode cX8_stands 57 = .ok (.aload_n 0, 1) := by decide +kernel
theorem dX8_stands_58 : decode cX8_stands 58 = .ok (.getfield 40, 3) := by decide +kernel
theorem dX8_stands_61 : decode cX8_stands 61 = .ok (.iload 4, 2) := by decide +kernel
theorem dX8_stands_63 : decode cX8_stands 63 = .ok (.iaload, 1) := by decide +kernel
theorem dX8_stands_64 : decode cX8_stands 64 = .ok (.iload_n 1, 1) := by decide +kernel
theorem dX8_stands_65 : decode cX8_stands 65 = .ok (.if_icmp .ne 27, 3) := by decide +kernel
theorem dX8_stands_68 : decode cX8_stands 68 = .ok (.aload_n 0, 1) := by decide +kernel
theorem dX8_stands_69 : decode cX8_stands 69 = .ok (.getfield 34, 3) := by decide +kernel
theorem dX8_stands_72 : decode cX8_stands 72 = .ok (.iload 4, 2) := by decide +kernel
theorem dX8_stands_74 : decode cX8_stands 74 = .ok (.iaload, 1) := by decide +kernel
theorem dX8_stands_75 : decode cX8_stands 75 = .ok (.iload_n 3, 1) := by decide +kernel
theorem dX8_stands_76 : decode cX8_stands 76 = .ok (.if_icmp .gt 16, 3) := by decide +kernel
theorem dX8_stands_79 : decode cX8_stands 79 = .ok (.aload_n 0, 1) := by decide +kernel
theorem dX8_stands_80 : decode cX8_stands 80 = .ok (.getfield 37, 3) := by decide +kernel
theorem dX8_stands_83 : decode cX8_stands 83 = .ok (.iload 4, 2) := by decide +kernel
theorem dX8_stands_85 : decode cX8_stands 85 = .ok (.iaload, 1) := by decide +kernel
theorem dX8_stands_86 : decode cX8_stands 86 = .ok (.iload_n 2, 1) := by decide +kernel
theorem dX8_stands_87 : decode cX8_stands 87 = .ok (.if_icmp .gt 5, 3) := by decide +kernel
theorem dX8_stands_90 : decode cX8_stands 90 = .ok (.iconst 0, 1) := by decide +kernel
theorem dX8_stands_91 : decode cX8_stands 91 = .ok (.ireturn, 1) := by decide +kernel
theorem dX8_stands_92 : decode cX8_stands 92 = .ok (.iinc 4 1, 3) := by decide +kernel
theorem dX8_stands_95 : decode cX8_stands 95 = .ok (.goto (-70), 3) := by decide +kernel
theorem dX8_stands_98 : decode cX8_stands 98 = .ok (.iconst 1, 1) := by decide +kernel
theorem dX8_stands_99 : decode cX8_stands 99 = .ok (.ireturn, 1) := by decide +kernel
theorem dX8_isHeld_0 : decode cX8_isHeld 0 = .ok (.iload_n 2, 1) := by decide +kernel
theorem dX8_isHeld_1 : decode cX8_isHeld 1 = .ok (.istore 4, 2) := by decide +kernel
theorem dX8_isHeld_3 : decode cX8_isHeld 3 = .ok (.aload_n 0, 1) := by decide +kernel
theorem dX8_isHeld_4 : decode cX8_isHeld 4 = .ok (.getfield 43, 3) := by decide +kernel
theorem dX8_isHeld_7 : decode cX8_isHeld 7 = .ok (.iload_n 1, 1) := by decide +kernel
theorem dX8_isHeld_8 : decode cX8_isHeld 8 = .ok (.iaload, 1) := by decide +kernel
theorem dX8_isHeld_9 : decode cX8_isHeld 9 = .ok (.iload 4, 2) := by decide +kernel
theorem dX8_isHeld_11 : decode cX8_isHeld 11 = .ok (.if_icmp .eq 57, 3) := by decide +kernel
theorem dX8_isHeld_14 : decode cX8_isHeld 14 = .ok (.aload_n 0, 1) := by decide +kernel
theorem dX8_isHeld_15 : decode cX8_isHeld 15 = .ok (.getfield 25, 3) := by decide +kernel
theorem dX8_isHeld_18 : decode cX8_isHeld 18 = .ok (.iload 4, 2) := by decide +kernel
theorem dX8_isHeld_20 : decode cX8_isHeld 20 = .ok (.iaload, 1) := by decide +kernel
theorem dX8_isHeld_21 : decode cX8_isHeld 21 = .ok (.bipush 8, 2) := by decide +kernel
theorem dX8_isHeld_23 : decode cX8_isHeld 23 = .ok (.if_icmp .ne 31, 3) := by decide +kernel
theorem dX8_isHeld_26 : decode cX8_isHeld 26 = .ok (.aload_n 0, 1) := by decide +kernel
theorem dX8_isHeld_27 : decode cX8_isHeld 27 = .ok (.getfield 52, 3) := by decide +kernel
theorem dX8_isHeld_30 : decode cX8_isHeld 30 = .ok (.iload 4, 2) := by decide +kernel
theorem dX8_isHeld_32 : decode cX8_isHeld 32 = .ok (.iaload, 1) := by decide +kernel
theorem dX8_isHeld_33 : decode cX8_isHeld 33 = .ok (.ifCond .eq 21, 3) := by decide +kernel
theorem dX8_isHeld_36 : decode cX8_isHeld 36 = .ok (.aload_n 0, 1) := by decide +kernel
theorem dX8_isHeld_37 : decode cX8_isHeld 37 = .ok (.iload_n 1, 1) := by decide +kernel
theorem dX8_isHeld_38 : decode cX8_isHeld 38 = .ok (.aload_n 0, 1) := by decide +kernel
theorem dX8_isHeld_39 : decode cX8_isHeld 39 = .ok (.getfield 37, 3) := by decide +kernel
theorem dX8_isHeld_42 : decode cX8_isHeld 42 = .ok (.iload 4, 2) := by decide +kernel
theorem dX8_isHeld_44 : decode cX8_isHeld 44 = .ok (.iaload, 1) := by decide +kernel
theorem dX8_isHeld_45 : decode cX8_isHeld 45 = .ok (.iconst 1, 1) := by decide +kernel
theorem dX8_isHeld_46 : decode cX8_isHeld 46 = .ok (.isub, 1) := by decide +kernel
theorem dX8_isHeld_47 : decode cX8_isHeld 47 = .ok (.iload_n 3, 1) := by decide +kernel
theorem dX8_isHeld_48 : decode cX8_isHeld 48 = .ok (.invokevirtual 104, 3) := by decide +kernel
theorem dX8_isHeld_51 : decode cX8_isHeld 51 = .ok (.ifCond .ne 5, 3) := by decide +kernel
theorem dX8_isHeld_54 : decode cX8_isHeld 54 = .ok (.iconst 0, 1) := by decide +kernel
theorem dX8_isHeld_55 : decode cX8_isHeld 55 = .ok (.ireturn, 1) := by decide +kernel
theorem dX8_isHeld_56 : decode cX8_isHeld 56 = .ok (.aload_n 0, 1) := by decide +kernel
theorem dX8_isHeld_57 : decode cX8_isHeld 57 = .ok (.getfield 40, 3) := by decide +kernel
theorem dX8_isHeld_60 : decode cX8_isHeld 60 = .ok (.iload 4, 2) := by decide +kernel
theorem dX8_isHeld_62 : decode cX8_isHeld 62 = .ok (.iaload, 1) := by decide +kernel
theorem dX8_isHeld_63 : decode cX8_isHeld 63 = .ok (.istore 4, 2) := by decide +kernel
theorem dX8_isHeld_65 : decode cX8_isHeld 65 = .ok (.goto (-62), 3) := by decide +kernel
theorem dX8_isHeld_68 : decode cX8_isHeld 68 = .ok (.iconst 1, 1) := by decide +kernel
theorem dX8_isHeld_69 : decode cX8_isHeld 69 = .ok (.ireturn, 1) := by decide +kernel
theorem dX8_memberOf_0 : decode cX8_memberOf 0 = .ok (.iconst 0, 1) := by decide +kernel
theorem dX8_memberOf_1 : decode cX8_memberOf 1 = .ok (.istore 5, 2) := by decide +kernel
theorem dX8_memberOf_3 : decode cX8_memberOf 3 = .ok (.iload 5, 2) := by decide +kernel
theorem dX8_memberOf_5 : decode cX8_memberOf 5 = .ok (.aload_n 0, 1) := by decide +kernel
theorem dX8_memberOf_6 : decode cX8_memberOf 6 = .ok (.getfield 89, 3) := by decide +kernel
theorem dX8_memberOf_9 : decode cX8_memberOf 9 = .ok (.if_icmp .ge 55, 3) := by decide +kernel
theorem dX8_memberOf_12 : decode cX8_memberOf 12 = .ok (.aload_n 0, 1) := by decide +kernel
theorem dX8_memberOf_13 : decode cX8_memberOf 13 = .ok (.iload 5, 2) := by decide +kernel
theorem dX8_memberOf_15 : decode cX8_memberOf 15 = .ok (.invokevirtual 101, 3) := by decide +kernel
theorem dX8_memberOf_18 : decode cX8_memberOf 18 = .ok (.ifCond .eq 40, 3) := by decide +kernel
theorem dX8_memberOf_21 : decode cX8_memberOf 21 = .ok (.aload_n 0, 1) := by decide +kernel
theorem dX8_memberOf_22 : decode cX8_memberOf 22 = .ok (.getfield 28, 3) := by decide +kernel
theorem dX8_memberOf_25 : decode cX8_memberOf 25 = .ok (.iload 5, 2) := by decide +kernel
theorem dX8_memberOf_27 : decode cX8_memberOf 27 = .ok (.iaload, 1) := by decide +kernel
theorem dX8_memberOf_28 : decode cX8_memberOf 28 = .ok (.iload_n 1, 1) := by decide +kernel
theorem dX8_memberOf_29 : decode cX8_memberOf 29 = .ok (.if_icmp .ne 29, 3) := by decide +kernel
theorem dX8_memberOf_32 : decode cX8_memberOf 32 = .ok (.aload_n 0, 1) := by decide +kernel
theorem dX8_memberOf_33 : decode cX8_memberOf 33 = .ok (.getfield 31, 3) := by decide +kernel
theorem dX8_memberOf_36 : decode cX8_memberOf 36 = .ok (.iload 5, 2) := by decide +kernel
theorem dX8_memberOf_38 : decode cX8_memberOf 38 = .ok (.iaload, 1) := by decide +kernel
theorem dX8_memberOf_39 : decode cX8_memberOf 39 = .ok (.iload_n 2, 1) := by decide +kernel
theorem dX8_memberOf_40 : decode cX8_memberOf 40 = .ok (.if_icmp .ne 18, 3) := by decide +kernel
theorem dX8_memberOf_43 : decode cX8_memberOf 43 = .ok (.aload_n 0, 1) := by decide +kernel
theorem dX8_memberOf_44 : decode cX8_memberOf 44 = .ok (.iload 5, 2) := by decide +kernel
theorem dX8_memberOf_46 : decode cX8_memberOf 46 = .ok (.iload_n 3, 1) := by decide +kernel
theorem dX8_memberOf_47 : decode cX8_memberOf 47 = .ok (.iload 4, 2) := by decide +kernel
theorem dX8_memberOf_49 : decode cX8_memberOf 49 = .ok (.invokevirtual 104, 3) := by decide +kernel
theorem dX8_memberOf_52 : decode cX8_memberOf 52 = .ok (.ifCond .eq 6, 3) := by decide +kernel
theorem dX8_memberOf_55 : decode cX8_memberOf 55 = .ok (.iload 5, 2) := by decide +kernel
theorem dX8_memberOf_57 : decode cX8_memberOf 57 = .ok (.ireturn, 1) := by decide +kernel
theorem dX8_memberOf_58 : decode cX8_memberOf 58 = .ok (.iinc 5 1, 3) := by decide +kernel
theorem dX8_memberOf_61 : decode cX8_memberOf 61 = .ok (.goto (-58), 3) := by decide +kernel
theorem dX8_memberOf_64 : decode cX8_memberOf 64 = .ok (.iconst (-1), 1) := by decide +kernel
theorem dX8_memberOf_65 : decode cX8_memberOf 65 = .ok (.ireturn, 1) := by decide +kernel
theorem dX8_manyMembers_0 : decode cX8_manyMembers 0 = .ok (.iconst 0, 1) := by decide +kernel
theorem dX8_manyMembers_1 : decode cX8_manyMembers 1 = .ok (.istore 4, 2) := by decide +kernel
theorem dX8_manyMembers_3 : decode cX8_manyMembers 3 = .ok (.iconst 0, 1) := by decide +kernel
theorem dX8_manyMembers_4 : decode cX8_manyMembers 4 = .ok (.istore 5, 2) := by decide +kernel
theorem dX8_manyMembers_6 : decode cX8_manyMembers 6 = .ok (.iload 5, 2) := by decide +kernel
theorem dX8_manyMembers_8 : decode cX8_manyMembers 8 = .ok (.aload_n 0, 1) := by decide +kernel
theorem dX8_manyMembers_9 : decode cX8_manyMembers 9 = .ok (.getfield 78, 3) := by decide +kernel
theorem dX8_manyMembers_12 : decode cX8_manyMembers 12 = .ok (.if_icmp .ge 32, 3) := by decide +kernel
theorem dX8_manyMembers_15 : decode cX8_manyMembers 15 = .ok (.iload 4, 2) := by decide +kernel
theorem dX8_manyMembers_17 : decode cX8_manyMembers 17 = .ok (.aload_n 0, 1) := by decide +kernel
theorem dX8_manyMembers_18 : decode cX8_manyMembers 18 = .ok (.iload 5, 2) := by decide +kernel
theorem dX8_manyMembers_20 : decode cX8_manyMembers 20 = .ok (.iload_n 1, 1) := by decide +kernel
theorem dX8_manyMembers_21 : decode cX8_manyMembers 21 = .ok (.iload_n 2, 1) := by decide +kernel
theorem dX8_manyMembers_22 : decode cX8_manyMembers 22 = .ok (.iload_n 3, 1) := by decide +kernel
theorem dX8_manyMembers_23 : decode cX8_manyMembers 23 = .ok (.invokevirtual 108, 3) := by decide +kernel
theorem dX8_manyMembers_26 : decode cX8_manyMembers 26 = .ok (.iconst (-1), 1) := by decide +kernel
theorem dX8_manyMembers_27 : decode cX8_manyMembers 27 = .ok (.if_icmp .ne 7, 3) := by decide +kernel
theorem dX8_manyMembers_30 : decode cX8_manyMembers 30 = .ok (.iconst 0, 1) := by decide +kernel
theorem dX8_manyMembers_31 : decode cX8_manyMembers 31 = .ok (.goto 4, 3) := by decide +kernel
theorem dX8_manyMembers_34 : decode cX8_manyMembers 34 = .ok (.iconst 1, 1) := by decide +kernel
theorem dX8_manyMembers_35 : decode cX8_manyMembers 35 = .ok (.iadd, 1) := by decide +kernel
theorem dX8_manyMembers_36 : decode cX8_manyMembers 36 = .ok (.istore 4, 2) := by decide +kernel
theorem dX8_manyMembers_38 : decode cX8_manyMembers 38 = .ok (.iinc 5 1, 3) := by decide +kernel
theorem dX8_manyMembers_41 : decode cX8_manyMembers 41 = .ok (.goto (-35), 3) := by decide +kernel
theorem dX8_manyMembers_44 : decode cX8_manyMembers 44 = .ok (.iload 4, 2) := by decide +kernel
theorem dX8_manyMembers_46 : decode cX8_manyMembers 46 = .ok (.ireturn, 1) := by decide +kernel
theorem dX8_hasPaper_0 : decode cX8_hasPaper 0 = .ok (.aload_n 0, 1) := by decide +kernel
theorem dX8_hasPaper_1 : decode cX8_hasPaper 1 = .ok (.getfield 43, 3) := by decide +kernel
theorem dX8_hasPaper_4 : decode cX8_hasPaper 4 = .ok (.iload_n 2, 1) := by decide +kernel
theorem dX8_hasPaper_5 : decode cX8_hasPaper 5 = .ok (.iaload, 1) := by decide +kernel
theorem dX8_hasPaper_6 : decode cX8_hasPaper 6 = .ok (.iconst (-1), 1) := by decide +kernel
theorem dX8_hasPaper_7 : decode cX8_hasPaper 7 = .ok (.if_icmp .eq 29, 3) := by decide +kernel
theorem dX8_hasPaper_10 : decode cX8_hasPaper 10 = .ok (.aload_n 0, 1) := by decide +kernel
theorem dX8_hasPaper_11 : decode cX8_hasPaper 11 = .ok (.iload_n 2, 1) := by decide +kernel
theorem dX8_hasPaper_12 : decode cX8_hasPaper 12 = .ok (.iload_n 3, 1) := by decide +kernel
theorem dX8_hasPaper_13 : decode cX8_hasPaper 13 = .ok (.iload 4, 2) := by decide +kernel
theorem dX8_hasPaper_15 : decode cX8_hasPaper 15 = .ok (.invokevirtual 104, 3) := by decide +kernel
theorem dX8_hasPaper_18 : decode cX8_hasPaper 18 = .ok (.ifCond .eq 18, 3) := by decide +kernel
theorem dX8_hasPaper_21 : decode cX8_hasPaper 21 = .ok (.aload_n 0, 1) := by decide +kernel
theorem dX8_hasPaper_22 : decode cX8_hasPaper 22 = .ok (.iload_n 2, 1) := by decide +kernel
theorem dX8_hasPaper_23 : decode cX8_hasPaper 23 = .ok (.iload_n 1, 1) := by decide +kernel
theorem dX8_hasPaper_24 : decode cX8_hasPaper 24 = .ok (.iload 4, 2) := by decide +kernel
theorem dX8_hasPaper_26 : decode cX8_hasPaper 26 = .ok (.invokevirtual 112, 3) := by decide +kernel
theorem dX8_hasPaper_29 : decode cX8_hasPaper 29 = .ok (.ifCond .eq 7, 3) := by decide +kernel
theorem dX8_hasPaper_32 : decode cX8_hasPaper 32 = .ok (.iconst 1, 1) := by decide +kernel
theorem dX8_hasPaper_33 : decode cX8_hasPaper 33 = .ok (.goto 4, 3) := by decide +kernel
theorem dX8_hasPaper_36 : decode cX8_hasPaper 36 = .ok (.iconst 0, 1) := by decide +kernel
theorem dX8_hasPaper_37 : decode cX8_hasPaper 37 = .ok (.ireturn, 1) := by decide +kernel
theorem dX8_lodge_0 : decode cX8_lodge 0 = .ok (.aload_n 0, 1) := by decide +kernel
theorem dX8_lodge_1 : decode cX8_lodge 1 = .ok (.getfield 89, 3) := by decide +kernel
theorem dX8_lodge_4 : decode cX8_lodge 4 = .ok (.istore 7, 2) := by decide +kernel
theorem dX8_lodge_6 : decode cX8_lodge 6 = .ok (.aload_n 0, 1) := by decide +kernel
theorem dX8_lodge_7 : decode cX8_lodge 7 = .ok (.dup, 1) := by decide +kernel
theorem dX8_lodge_8 : decode cX8_lodge 8 = .ok (.getfield 89, 3) := by decide +kernel
theorem dX8_lodge_11 : decode cX8_lodge 11 = .ok (.iconst 1, 1) := by decide +kernel
theorem dX8_lodge_12 : decode cX8_lodge 12 = .ok (.iadd, 1) := by decide +kernel
theorem dX8_lodge_13 : decode cX8_lodge 13 = .ok (.putfield 89, 3) := by decide +kernel
theorem dX8_lodge_16 : decode cX8_lodge 16 = .ok (.aload_n 0, 1) := by decide +kernel
theorem dX8_lodge_17 : decode cX8_lodge 17 = .ok (.getfield 25, 3) := by decide +kernel
theorem dX8_lodge_20 : decode cX8_lodge 20 = .ok (.iload 7, 2) := by decide +kernel
theorem dX8_lodge_22 : decode cX8_lodge 22 = .ok (.iload_n 1, 1) := by decide +kernel
theorem dX8_lodge_23 : decode cX8_lodge 23 = .ok (.iastore, 1) := by decide +kernel
theorem dX8_lodge_24 : decode cX8_lodge 24 = .ok (.aload_n 0, 1) := by decide +kernel
theorem dX8_lodge_25 : decode cX8_lodge 25 = .ok (.getfield 28, 3) := by decide +kernel
theorem dX8_lodge_28 : decode cX8_lodge 28 = .ok (.iload 7, 2) := by decide +kernel
theorem dX8_lodge_30 : decode cX8_lodge 30 = .ok (.iload_n 2, 1) := by decide +kernel
theorem dX8_lodge_31 : decode cX8_lodge 31 = .ok (.iastore, 1) := by decide +kernel
theorem dX8_lodge_32 : decode cX8_lodge 32 = .ok (.aload_n 0, 1) := by decide +kernel
theorem dX8_lodge_33 : decode cX8_lodge 33 = .ok (.getfield 31, 3) := by decide +kernel
theorem dX8_lodge_36 : decode cX8_lodge 36 = .ok (.iload 7, 2) := by decide +kernel
theorem dX8_lodge_38 : decode cX8_lodge 38 = .ok (.iload_n 3, 1) := by decide +kernel
theorem dX8_lodge_39 : decode cX8_lodge 39 = .ok (.iastore, 1) := by decide +kernel
theorem dX8_lodge_40 : decode cX8_lodge 40 = .ok (.aload_n 0, 1) := by decide +kernel
theorem dX8_lodge_41 : decode cX8_lodge 41 = .ok (.getfield 34, 3) := by decide +kernel
theorem dX8_lodge_44 : decode cX8_lodge 44 = .ok (.iload 7, 2) := by decide +kernel
theorem dX8_lodge_46 : decode cX8_lodge 46 = .ok (.aload_n 0, 1) := by decide +kernel
theorem dX8_lodge_47 : decode cX8_lodge 47 = .ok (.getfield 98, 3) := by decide +kernel
theorem dX8_lodge_50 : decode cX8_lodge 50 = .ok (.iastore, 1) := by decide +kernel
theorem dX8_lodge_51 : decode cX8_lodge 51 = .ok (.aload_n 0, 1) := by decide +kernel
theorem dX8_lodge_52 : decode cX8_lodge 52 = .ok (.getfield 37, 3) := by decide +kernel
theorem dX8_lodge_55 : decode cX8_lodge 55 = .ok (.iload 7, 2) := by decide +kernel
theorem dX8_lodge_57 : decode cX8_lodge 57 = .ok (.aload_n 0, 1) := by decide +kernel
theorem dX8_lodge_58 : decode cX8_lodge 58 = .ok (.getfield 98, 3) := by decide +kernel
theorem dX8_lodge_61 : decode cX8_lodge 61 = .ok (.iload 4, 2) := by decide +kernel
theorem dX8_lodge_63 : decode cX8_lodge 63 = .ok (.iadd, 1) := by decide +kernel
theorem dX8_lodge_64 : decode cX8_lodge 64 = .ok (.iastore, 1) := by decide +kernel
theorem dX8_lodge_65 : decode cX8_lodge 65 = .ok (.aload_n 0, 1) := by decide +kernel
theorem dX8_lodge_66 : decode cX8_lodge 66 = .ok (.getfield 40, 3) := by decide +kernel
theorem dX8_lodge_69 : decode cX8_lodge 69 = .ok (.iload 7, 2) := by decide +kernel
theorem dX8_lodge_71 : decode cX8_lodge 71 = .ok (.iload 5, 2) := by decide +kernel
theorem dX8_lodge_73 : decode cX8_lodge 73 = .ok (.iastore, 1) := by decide +kernel
theorem dX8_lodge_74 : decode cX8_lodge 74 = .ok (.aload_n 0, 1) := by decide +kernel
theorem dX8_lodge_75 : decode cX8_lodge 75 = .ok (.getfield 43, 3) := by decide +kernel
theorem dX8_lodge_78 : decode cX8_lodge 78 = .ok (.iload 7, 2) := by decide +kernel
theorem dX8_lodge_80 : decode cX8_lodge 80 = .ok (.iload 6, 2) := by decide +kernel
theorem dX8_lodge_82 : decode cX8_lodge 82 = .ok (.iastore, 1) := by decide +kernel
theorem dX8_lodge_83 : decode cX8_lodge 83 = .ok (.aload_n 0, 1) := by decide +kernel
theorem dX8_lodge_84 : decode cX8_lodge 84 = .ok (.getfield 46, 3) := by decide +kernel
theorem dX8_lodge_87 : decode cX8_lodge 87 = .ok (.iload 7, 2) := by decide +kernel
theorem dX8_lodge_89 : decode cX8_lodge 89 = .ok (.iconst (-1), 1) := by decide +kernel
theorem dX8_lodge_90 : decode cX8_lodge 90 = .ok (.iastore, 1) := by decide +kernel
theorem dX8_lodge_91 : decode cX8_lodge 91 = .ok (.aload_n 0, 1) := by decide +kernel
theorem dX8_lodge_92 : decode cX8_lodge 92 = .ok (.getfield 49, 3) := by decide +kernel
theorem dX8_lodge_95 : decode cX8_lodge 95 = .ok (.iload 7, 2) := by decide +kernel
theorem dX8_lodge_97 : decode cX8_lodge 97 = .ok (.iconst (-1), 1) := by decide +kernel
theorem dX8_lodge_98 : decode cX8_lodge 98 = .ok (.iastore, 1) := by decide +kernel
theorem dX8_lodge_99 : decode cX8_lodge 99 = .ok (.aload_n 0, 1) := by decide +kernel
theorem dX8_lodge_100 : decode cX8_lodge 100 = .ok (.getfield 52, 3) := by decide +kernel
theorem dX8_lodge_103 : decode cX8_lodge 103 = .ok (.iload 7, 2) := by decide +kernel
theorem dX8_lodge_105 : decode cX8_lodge 105 = .ok (.iconst 0, 1) := by decide +kernel
theorem dX8_lodge_106 : decode cX8_lodge 106 = .ok (.iastore, 1) := by decide +kernel
theorem dX8_lodge_107 : decode cX8_lodge 107 = .ok (.aload_n 0, 1) := by decide +kernel
theorem dX8_lodge_108 : decode cX8_lodge 108 = .ok (.getfield 55, 3) := by decide +kernel
theorem dX8_lodge_111 : decode cX8_lodge 111 = .ok (.iload 7, 2) := by decide +kernel
theorem dX8_lodge_113 : decode cX8_lodge 113 = .ok (.lconst 0, 1) := by decide +kernel
theorem dX8_lodge_114 : decode cX8_lodge 114 = .ok (.lastore, 1) := by decide +kernel
theorem dX8_lodge_115 : decode cX8_lodge 115 = .ok (.iload 7, 2) := by decide +kernel
theorem dX8_lodge_117 : decode cX8_lodge 117 = .ok (.ireturn, 1) := by decide +kernel
theorem dX8_isFull_0 : decode cX8_isFull 0 = .ok (.aload_n 0, 1) := by decide +kernel
theorem dX8_isFull_1 : decode cX8_isFull 1 = .ok (.getfield 89, 3) := by decide +kernel
theorem dX8_isFull_4 : decode cX8_isFull 4 = .ok (.sipush 400, 3) := by decide +kernel
theorem dX8_isFull_7 : decode cX8_isFull 7 = .ok (.if_icmp .ne 7, 3) := by decide +kernel
theorem dX8_isFull_10 : decode cX8_isFull 10 = .ok (.iconst 1, 1) := by decide +kernel
theorem dX8_isFull_11 : decode cX8_isFull 11 = .ok (.goto 4, 3) := by decide +kernel
theorem dX8_isFull_14 : decode cX8_isFull 14 = .ok (.iconst 0, 1) := by decide +kernel
theorem dX8_isFull_15 : decode cX8_isFull 15 = .ok (.ireturn, 1) := by decide +kernel
theorem dX8_hasSign_0 : decode cX8_hasSign 0 = .ok (.iconst 0, 1) := by decide +kernel
theorem dX8_hasSign_1 : decode cX8_hasSign 1 = .ok (.istore_n 3, 1) := by decide +kernel
theorem dX8_hasSign_2 : decode cX8_hasSign 2 = .ok (.iload_n 3, 1) := by decide +kernel
theorem dX8_hasSign_3 : decode cX8_hasSign 3 = .ok (.aload_n 0, 1) := by decide +kernel
theorem dX8_hasSign_4 : decode cX8_hasSign 4 = .ok (.getfield 89, 3) := by decide +kernel
theorem dX8_hasSign_7 : decode cX8_hasSign 7 = .ok (.if_icmp .ge 40, 3) := by decide +kernel
theorem dX8_hasSign_10 : decode cX8_hasSign 10 = .ok (.aload_n 0, 1) := by decide +kernel
theorem dX8_hasSign_11 : decode cX8_hasSign 11 = .ok (.getfield 25, 3) := by decide +kernel
theorem dX8_hasSign_14 : decode cX8_hasSign 14 = .ok (.iload_n 3, 1) := by decide +kernel
theorem dX8_hasSign_15 : decode cX8_hasSign 15 = .ok (.iaload, 1) := by decide +kernel
theorem dX8_hasSign_16 : decode cX8_hasSign 16 = .ok (.ifCond .ne 25, 3) := by decide +kernel
theorem dX8_hasSign_19 : decode cX8_hasSign 19 = .ok (.aload_n 0, 1) := by decide +kernel
theorem dX8_hasSign_20 : decode cX8_hasSign 20 = .ok (.getfield 28, 3) := by decide +kernel
theorem dX8_hasSign_23 : decode cX8_hasSign 23 = .ok (.iload_n 3, 1) := by decide +kernel
theorem dX8_hasSign_24 : decode cX8_hasSign 24 = .ok (.iaload, 1) := by decide +kernel
theorem dX8_hasSign_25 : decode cX8_hasSign 25 = .ok (.iload_n 1, 1) := by decide +kernel
theorem dX8_hasSign_26 : decode cX8_hasSign 26 = .ok (.if_icmp .ne 15, 3) := by decide +kernel
theorem dX8_hasSign_29 : decode cX8_hasSign 29 = .ok (.aload_n 0, 1) := by decide +kernel
theorem dX8_hasSign_30 : decode cX8_hasSign 30 = .ok (.getfield 31, 3) := by decide +kernel
theorem dX8_hasSign_33 : decode cX8_hasSign 33 = .ok (.iload_n 3, 1) := by decide +kernel
theorem dX8_hasSign_34 : decode cX8_hasSign 34 = .ok (.iaload, 1) := by decide +kernel
theorem dX8_hasSign_35 : decode cX8_hasSign 35 = .ok (.iload_n 2, 1) := by decide +kernel
theorem dX8_hasSign_36 : decode cX8_hasSign 36 = .ok (.if_icmp .ne 5, 3) := by decide +kernel
theorem dX8_hasSign_39 : decode cX8_hasSign 39 = .ok (.iconst 1, 1) := by decide +kernel
theorem dX8_hasSign_40 : decode cX8_hasSign 40 = .ok (.ireturn, 1) := by decide +kernel
theorem dX8_hasSign_41 : decode cX8_hasSign 41 = .ok (.iinc 3 1, 3) := by decide +kernel
theorem dX8_hasSign_44 : decode cX8_hasSign 44 = .ok (.goto (-42), 3) := by decide +kernel
theorem dX8_hasSign_47 : decode cX8_hasSign 47 = .ok (.iconst 0, 1) := by decide +kernel
theorem dX8_hasSign_48 : decode cX8_hasSign 48 = .ok (.ireturn, 1) := by decide +kernel
theorem dX8_sign_0 : decode cX8_sign 0 = .ok (.aload_n 0, 1) := by decide +kernel
theorem dX8_sign_1 : decode cX8_sign 1 = .ok (.iload_n 1, 1) := by decide +kernel
theorem dX8_sign_2 : decode cX8_sign 2 = .ok (.invokevirtual 115, 3) := by decide +kernel
theorem dX8_sign_5 : decode cX8_sign 5 = .ok (.ifCond .eq 11, 3) := by decide +kernel
theorem dX8_sign_8 : decode cX8_sign 8 = .ok (.aload_n 0, 1) := by decide +kernel
theorem dX8_sign_9 : decode cX8_sign 9 = .ok (.iload_n 2, 1) := by decide +kernel
theorem dX8_sign_10 : decode cX8_sign 10 = .ok (.invokevirtual 85, 3) := by decide +kernel
theorem dX8_sign_13 : decode cX8_sign 13 = .ok (.ifCond .ne 6, 3) := by decide +kernel
theorem dX8_sign_16 : decode cX8_sign 16 = .ok (.bipush (-2), 2) := by decide +kernel
theorem dX8_sign_18 : decode cX8_sign 18 = .ok (.ireturn, 1) := by decide +kernel
theorem dX8_sign_19 : decode cX8_sign 19 = .ok (.aload_n 0, 1) := by decide +kernel
theorem dX8_sign_20 : decode cX8_sign 20 = .ok (.invokevirtual 118, 3) := by decide +kernel
theorem dX8_sign_23 : decode cX8_sign 23 = .ok (.ifCond .eq 6, 3) := by decide +kernel
theorem dX8_sign_26 : decode cX8_sign 26 = .ok (.bipush (-8), 2) := by decide +kernel
theorem dX8_sign_28 : decode cX8_sign 28 = .ok (.ireturn, 1) := by decide +kernel
theorem dX8_sign_29 : decode cX8_sign 29 = .ok (.aload_n 0, 1) := by decide +kernel
theorem dX8_sign_30 : decode cX8_sign 30 = .ok (.iload_n 1, 1) := by decide +kernel
theorem dX8_sign_31 : decode cX8_sign 31 = .ok (.iload_n 2, 1) := by decide +kernel
theorem dX8_sign_32 : decode cX8_sign 32 = .ok (.invokevirtual 122, 3) := by decide +kernel
theorem dX8_sign_35 : decode cX8_sign 35 = .ok (.ifCond .eq 8, 3) := by decide +kernel
theorem dX8_sign_38 : decode cX8_sign 38 = .ok (.bipush (-4), 2) := by decide +kernel
theorem dX8_sign_40 : decode cX8_sign 40 = .ok (.goto 13, 3) := by decide +kernel
theorem dX8_sign_43 : decode cX8_sign 43 = .ok (.aload_n 0, 1) := by decide +kernel
theorem dX8_sign_44 : decode cX8_sign 44 = .ok (.iconst 0, 1) := by decide +kernel
theorem dX8_sign_45 : decode cX8_sign 45 = .ok (.iload_n 1, 1) := by decide +kernel
theorem dX8_sign_46 : decode cX8_sign 46 = .ok (.iload_n 2, 1) := by decide +kernel
theorem dX8_sign_47 : decode cX8_sign 47 = .ok (.iconst 0, 1) := by decide +kernel
theorem dX8_sign_48 : decode cX8_sign 48 = .ok (.iconst (-1), 1) := by decide +kernel
theorem dX8_sign_49 : decode cX8_sign 49 = .ok (.iconst (-1), 1) := by decide +kernel
theorem dX8_sign_50 : decode cX8_sign 50 = .ok (.invokevirtual 125, 3) := by decide +kernel
theorem dX8_sign_53 : decode cX8_sign 53 = .ok (.ireturn, 1) := by decide +kernel
theorem dX8_ratify_0 : decode cX8_ratify 0 = .ok (.aload_n 0, 1) := by decide +kernel
theorem dX8_ratify_1 : decode cX8_ratify 1 = .ok (.iload_n 1, 1) := by decide +kernel
theorem dX8_ratify_2 : decode cX8_ratify 2 = .ok (.invokevirtual 115, 3) := by decide +kernel
theorem dX8_ratify_5 : decode cX8_ratify 5 = .ok (.ifCond .eq 11, 3) := by decide +kernel
theorem dX8_ratify_8 : decode cX8_ratify 8 = .ok (.aload_n 0, 1) := by decide +kernel
theorem dX8_ratify_9 : decode cX8_ratify 9 = .ok (.iload_n 2, 1) := by decide +kernel
theorem dX8_ratify_10 : decode cX8_ratify 10 = .ok (.invokevirtual 85, 3) := by decide +kernel
theorem dX8_ratify_13 : decode cX8_ratify 13 = .ok (.ifCond .ne 6, 3) := by decide +kernel
theorem dX8_ratify_16 : decode cX8_ratify 16 = .ok (.bipush (-2), 2) := by decide +kernel
theorem dX8_ratify_18 : decode cX8_ratify 18 = .ok (.ireturn, 1) := by decide +kernel
theorem dX8_ratify_19 : decode cX8_ratify 19 = .ok (.aload_n 0, 1) := by decide +kernel
theorem dX8_ratify_20 : decode cX8_ratify 20 = .ok (.invokevirtual 118, 3) := by decide +kernel
theorem dX8_ratify_23 : decode cX8_ratify 23 = .ok (.ifCond .eq 6, 3) := by decide +kernel
theorem dX8_ratify_26 : decode cX8_ratify 26 = .ok (.bipush (-8), 2) := by decide +kernel
theorem dX8_ratify_28 : decode cX8_ratify 28 = .ok (.ireturn, 1) := by decide +kernel
theorem dX8_ratify_29 : decode cX8_ratify 29 = .ok (.aload_n 0, 1) := by decide +kernel
theorem dX8_ratify_30 : decode cX8_ratify 30 = .ok (.iload_n 1, 1) := by decide +kernel
theorem dX8_ratify_31 : decode cX8_ratify 31 = .ok (.iload_n 2, 1) := by decide +kernel
theorem dX8_ratify_32 : decode cX8_ratify 32 = .ok (.invokevirtual 122, 3) := by decide +kernel
theorem dX8_ratify_35 : decode cX8_ratify 35 = .ok (.ifCond .ne 6, 3) := by decide +kernel
theorem dX8_ratify_38 : decode cX8_ratify 38 = .ok (.bipush (-5), 2) := by decide +kernel
theorem dX8_ratify_40 : decode cX8_ratify 40 = .ok (.ireturn, 1) := by decide +kernel
theorem dX8_ratify_41 : decode cX8_ratify 41 = .ok (.aload_n 0, 1) := by decide +kernel
theorem dX8_ratify_42 : decode cX8_ratify 42 = .ok (.iload_n 1, 1) := by decide +kernel
theorem dX8_ratify_43 : decode cX8_ratify 43 = .ok (.iload_n 2, 1) := by decide +kernel
theorem dX8_ratify_44 : decode cX8_ratify 44 = .ok (.invokevirtual 129, 3) := by decide +kernel
theorem dX8_ratify_47 : decode cX8_ratify 47 = .ok (.iconst (-1), 1) := by decide +kernel
theorem dX8_ratify_48 : decode cX8_ratify 48 = .ok (.if_icmp .eq 8, 3) := by decide +kernel
theorem dX8_ratify_51 : decode cX8_ratify 51 = .ok (.bipush (-4), 2) := by decide +kernel
theorem dX8_ratify_53 : decode cX8_ratify 53 = .ok (.goto 18, 3) := by decide +kernel
theorem dX8_ratify_56 : decode cX8_ratify 56 = .ok (.aload_n 0, 1) := by decide +kernel
theorem dX8_ratify_57 : decode cX8_ratify 57 = .ok (.iconst 1, 1) := by decide +kernel
theorem dX8_ratify_58 : decode cX8_ratify 58 = .ok (.iload_n 1, 1) := by decide +kernel
theorem dX8_ratify_59 : decode cX8_ratify 59 = .ok (.iload_n 2, 1) := by decide +kernel
theorem dX8_ratify_60 : decode cX8_ratify 60 = .ok (.aload_n 0, 1) := by decide +kernel
theorem dX8_ratify_61 : decode cX8_ratify 61 = .ok (.getfield 16, 3) := by decide +kernel
theorem dX8_ratify_64 : decode cX8_ratify 64 = .ok (.iload_n 2, 1) := by decide +kernel
theorem dX8_ratify_65 : decode cX8_ratify 65 = .ok (.iaload, 1) := by decide +kernel
theorem dX8_ratify_66 : decode cX8_ratify 66 = .ok (.iconst (-1), 1) := by decide +kernel
theorem dX8_ratify_67 : decode cX8_ratify 67 = .ok (.iconst (-1), 1) := by decide +kernel
theorem dX8_ratify_68 : decode cX8_ratify 68 = .ok (.invokevirtual 125, 3) := by decide +kernel
theorem dX8_ratify_71 : decode cX8_ratify 71 = .ok (.ireturn, 1) := by decide +kernel
theorem dX8_join_0 : decode cX8_join 0 = .ok (.aload_n 0, 1) := by decide +kernel
theorem dX8_join_1 : decode cX8_join 1 = .ok (.iload_n 1, 1) := by decide +kernel
theorem dX8_join_2 : decode cX8_join 2 = .ok (.invokevirtual 115, 3) := by decide +kernel
theorem dX8_join_5 : decode cX8_join 5 = .ok (.ifCond .eq 11, 3) := by decide +kernel
theorem dX8_join_8 : decode cX8_join 8 = .ok (.aload_n 0, 1) := by decide +kernel
theorem dX8_join_9 : decode cX8_join 9 = .ok (.iload_n 2, 1) := by decide +kernel
theorem dX8_join_10 : decode cX8_join 10 = .ok (.invokevirtual 85, 3) := by decide +kernel
theorem dX8_join_13 : decode cX8_join 13 = .ok (.ifCond .ne 6, 3) := by decide +kernel
theorem dX8_join_16 : decode cX8_join 16 = .ok (.bipush (-2), 2) := by decide +kernel
theorem dX8_join_18 : decode cX8_join 18 = .ok (.ireturn, 1) := by decide +kernel
theorem dX8_join_19 : decode cX8_join 19 = .ok (.aload_n 0, 1) := by decide +kernel
theorem dX8_join_20 : decode cX8_join 20 = .ok (.invokevirtual 118, 3) := by decide +kernel
theorem dX8_join_23 : decode cX8_join 23 = .ok (.ifCond .eq 6, 3) := by decide +kernel
theorem dX8_join_26 : decode cX8_join 26 = .ok (.bipush (-8), 2) := by decide +kernel
theorem dX8_join_28 : decode cX8_join 28 = .ok (.ireturn, 1) := by decide +kernel
theorem dX8_join_29 : decode cX8_join 29 = .ok (.aload_n 0, 1) := by decide +kernel
theorem dX8_join_30 : decode cX8_join 30 = .ok (.iload_n 1, 1) := by decide +kernel
theorem dX8_join_31 : decode cX8_join 31 = .ok (.iload_n 2, 1) := by decide +kernel
theorem dX8_join_32 : decode cX8_join 32 = .ok (.invokevirtual 129, 3) := by decide +kernel
theorem dX8_join_35 : decode cX8_join 35 = .ok (.iconst (-1), 1) := by decide +kernel
theorem dX8_join_36 : decode cX8_join 36 = .ok (.if_icmp .eq 8, 3) := by decide +kernel
theorem dX8_join_39 : decode cX8_join 39 = .ok (.bipush (-4), 2) := by decide +kernel
theorem dX8_join_41 : decode cX8_join 41 = .ok (.goto 18, 3) := by decide +kernel
theorem dX8_join_44 : decode cX8_join 44 = .ok (.aload_n 0, 1) := by decide +kernel
theorem dX8_join_45 : decode cX8_join 45 = .ok (.iconst 2, 1) := by decide +kernel
theorem dX8_join_46 : decode cX8_join 46 = .ok (.iload_n 1, 1) := by decide +kernel
theorem dX8_join_47 : decode cX8_join 47 = .ok (.iload_n 2, 1) := by decide +kernel
theorem dX8_join_48 : decode cX8_join 48 = .ok (.aload_n 0, 1) := by decide +kernel
theorem dX8_join_49 : decode cX8_join 49 = .ok (.getfield 16, 3) := by decide +kernel
theorem dX8_join_52 : decode cX8_join 52 = .ok (.iload_n 2, 1) := by decide +kernel
theorem dX8_join_53 : decode cX8_join 53 = .ok (.iaload, 1) := by decide +kernel
theorem dX8_join_54 : decode cX8_join 54 = .ok (.iconst (-1), 1) := by decide +kernel
theorem dX8_join_55 : decode cX8_join 55 = .ok (.iconst (-1), 1) := by decide +kernel
theorem dX8_join_56 : decode cX8_join 56 = .ok (.invokevirtual 125, 3) := by decide +kernel
theorem dX8_join_59 : decode cX8_join 59 = .ok (.ireturn, 1) := by decide +kernel
