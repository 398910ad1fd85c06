theorem dX6_hasReserve_0 : decode cX6_hasReserve 0 = .ok (.aload_n 1, 1) := by decide +kernel
theorem dX6_hasReserve_1 : decode cX6_hasReserve 1 = .ok (.getfield 42, 3) := by decide +kernel
theorem dX6_hasReserve_4 : decode cX6_hasReserve 4 = .ok (.iconst 3, 1) := by decide +kernel
theorem dX6_hasReserve_5 : decode cX6_hasReserve 5 = .ok (.if_icmp .ne 23, 3) := by decide +kernel
theorem dX6_hasReserve_8 : decode cX6_hasReserve 8 = .ok (.aload_n 1, 1) := by decide +kernel
theorem dX6_hasReserve_9 : decode cX6_hasReserve 9 = .ok (.getfield 45, 3) := by decide +kernel
theorem dX6_hasReserve_12 : decode cX6_hasReserve 12 = .ok (.iload_n 2, 1) := by decide +kernel
theorem dX6_hasReserve_13 : decode cX6_hasReserve 13 = .ok (.if_icmp .ne 15, 3) := by decide +kernel
theorem dX6_hasReserve_16 : decode cX6_hasReserve 16 = .ok (.aload_n 0, 1) := by decide +kernel
theorem dX6_hasReserve_17 : decode cX6_hasReserve 17 = .ok (.aload_n 1, 1) := by decide +kernel
theorem dX6_hasReserve_18 : decode cX6_hasReserve 18 = .ok (.invokevirtual 48, 3) := by decide +kernel
theorem dX6_hasReserve_21 : decode cX6_hasReserve 21 = .ok (.ifCond .eq 7, 3) := by decide +kernel
theorem dX6_hasReserve_24 : decode cX6_hasReserve 24 = .ok (.iconst 1, 1) := by decide +kernel
theorem dX6_hasReserve_25 : decode cX6_hasReserve 25 = .ok (.goto 4, 3) := by decide +kernel
theorem dX6_hasReserve_28 : decode cX6_hasReserve 28 = .ok (.iconst 0, 1) := by decide +kernel
theorem dX6_hasReserve_29 : decode cX6_hasReserve 29 = .ok (.ireturn, 1) := by decide +kernel
theorem dX6_leastAnswer_0 : decode cX6_leastAnswer 0 = .ok (.aconst_null, 1) := by decide +kernel
theorem dX6_leastAnswer_1 : decode cX6_leastAnswer 1 = .ok (.astore_n 3, 1) := by decide +kernel
theorem dX6_leastAnswer_2 : decode cX6_leastAnswer 2 = .ok (.aload_n 1, 1) := by decide +kernel
theorem dX6_leastAnswer_3 : decode cX6_leastAnswer 3 = .ok (.getfield 52, 3) := by decide +kernel
theorem dX6_leastAnswer_6 : decode cX6_leastAnswer 6 = .ok (.astore 4, 2) := by decide +kernel
theorem dX6_leastAnswer_8 : decode cX6_leastAnswer 8 = .ok (.aload 4, 2) := by decide +kernel
theorem dX6_leastAnswer_10 : decode cX6_leastAnswer 10 = .ok (.ifnull 34, 3) := by decide +kernel
theorem dX6_leastAnswer_13 : decode cX6_leastAnswer 13 = .ok (.aload 4, 2) := by decide +kernel
theorem dX6_leastAnswer_15 : decode cX6_leastAnswer 15 = .ok (.getfield 55, 3) := by decide +kernel
theorem dX6_leastAnswer_18 : decode cX6_leastAnswer 18 = .ok (.iload_n 2, 1) := by decide +kernel
theorem dX6_leastAnswer_19 : decode cX6_leastAnswer 19 = .ok (.if_icmp .ne 15, 3) := by decide +kernel
theorem dX6_leastAnswer_22 : decode cX6_leastAnswer 22 = .ok (.aload_n 0, 1) := by decide +kernel
theorem dX6_leastAnswer_23 : decode cX6_leastAnswer 23 = .ok (.aload 4, 2) := by decide +kernel
theorem dX6_leastAnswer_25 : decode cX6_leastAnswer 25 = .ok (.invokevirtual 48, 3) := by decide +kernel
theorem dX6_leastAnswer_28 : decode cX6_leastAnswer 28 = .ok (.ifCond .eq 6, 3) := by decide +kernel
theorem dX6_leastAnswer_31 : decode cX6_leastAnswer 31 = .ok (.aload 4, 2) := by decide +kernel
theorem dX6_leastAnswer_33 : decode cX6_leastAnswer 33 = .ok (.astore_n 3, 1) := by decide +kernel
theorem dX6_leastAnswer_34 : decode cX6_leastAnswer 34 = .ok (.aload 4, 2) := by decide +kernel
theorem dX6_leastAnswer_36 : decode cX6_leastAnswer 36 = .ok (.getfield 59, 3) := by decide +kernel
theorem dX6_leastAnswer_39 : decode cX6_leastAnswer 39 = .ok (.astore 4, 2) := by decide +kernel
theorem dX6_leastAnswer_41 : decode cX6_leastAnswer 41 = .ok (.goto (-33), 3) := by decide +kernel
theorem dX6_leastAnswer_44 : decode cX6_leastAnswer 44 = .ok (.aload_n 3, 1) := by decide +kernel
theorem dX6_leastAnswer_45 : decode cX6_leastAnswer 45 = .ok (.areturn, 1) := by decide +kernel
theorem dX7_init_0 : decode cX7_init 0 = .ok (.aload_n 0, 1) := by decide +kernel
theorem dX7_init_1 : decode cX7_init 1 = .ok (.invokespecial 1, 3) := by decide +kernel
theorem dX7_init_4 : decode cX7_init 4 = .ok (.aload_n 0, 1) := by decide +kernel
theorem dX7_init_5 : decode cX7_init 5 = .ok (.bipush 10, 2) := by decide +kernel
theorem dX7_init_7 : decode cX7_init 7 = .ok (.anewarray 9, 3) := by decide +kernel
theorem dX7_init_10 : decode cX7_init 10 = .ok (.putfield 11, 3) := by decide +kernel
theorem dX7_init_13 : decode cX7_init 13 = .ok (.aload_n 0, 1) := by decide +kernel
theorem dX7_init_14 : decode cX7_init 14 = .ok (.new 15, 3) := by decide +kernel
theorem dX7_init_17 : decode cX7_init 17 = .ok (.dup, 1) := by decide +kernel
theorem dX7_init_18 : decode cX7_init 18 = .ok (.invokespecial 17, 3) := by decide +kernel
theorem dX7_init_21 : decode cX7_init 21 = .ok (.putfield 18, 3) := by decide +kernel
theorem dX7_init_24 : decode cX7_init 24 = .ok (.aload_n 0, 1) := by decide +kernel
theorem dX7_init_25 : decode cX7_init 25 = .ok (.new 22, 3) := by decide +kernel
theorem dX7_init_28 : decode cX7_init 28 = .ok (.dup, 1) := by decide +kernel
theorem dX7_init_29 : decode cX7_init 29 = .ok (.invokespecial 24, 3) := by decide +kernel
theorem dX7_init_32 : decode cX7_init 32 = .ok (.putfield 25, 3) := by decide +kernel
theorem dX7_init_35 : decode cX7_init 35 = .ok (.aload_n 0, 1) := by decide +kernel
theorem dX7_init_36 : decode cX7_init 36 = .ok (.new 29, 3) := by decide +kernel
theorem dX7_init_39 : decode cX7_init 39 = .ok (.dup, 1) := by decide +kernel
theorem dX7_init_40 : decode cX7_init 40 = .ok (.invokespecial 31, 3) := by decide +kernel
theorem dX7_init_43 : decode cX7_init 43 = .ok (.putfield 32, 3) := by decide +kernel
theorem dX7_init_46 : decode cX7_init 46 = .ok (.return_, 1) := by decide +kernel
theorem dX7_party_0 : decode cX7_party 0 = .ok (.aload_n 0, 1) := by decide +kernel
theorem dX7_party_1 : decode cX7_party 1 = .ok (.getfield 36, 3) := by decide +kernel
theorem dX7_party_4 : decode cX7_party 4 = .ok (.bipush 30, 2) := by decide +kernel
theorem dX7_party_6 : decode cX7_party 6 = .ok (.if_icmp .lt 5, 3) := by decide +kernel
theorem dX7_party_9 : decode cX7_party 9 = .ok (.iconst (-1), 1) := by decide +kernel
theorem dX7_party_10 : decode cX7_party 10 = .ok (.ireturn, 1) := by decide +kernel
theorem dX7_party_11 : decode cX7_party 11 = .ok (.aload_n 0, 1) := by decide +kernel
theorem dX7_party_12 : decode cX7_party 12 = .ok (.dup, 1) := by decide +kernel
theorem dX7_party_13 : decode cX7_party 13 = .ok (.getfield 36, 3) := by decide +kernel
theorem dX7_party_16 : decode cX7_party 16 = .ok (.iconst 1, 1) := by decide +kernel
theorem dX7_party_17 : decode cX7_party 17 = .ok (.iadd, 1) := by decide +kernel
theorem dX7_party_18 : decode cX7_party 18 = .ok (.putfield 36, 3) := by decide +kernel
theorem dX7_party_21 : decode cX7_party 21 = .ok (.aload_n 0, 1) := by decide +kernel
theorem dX7_party_22 : decode cX7_party 22 = .ok (.getfield 36, 3) := by decide +kernel
theorem dX7_party_25 : decode cX7_party 25 = .ok (.iconst 1, 1) := by decide +kernel
theorem dX7_party_26 : decode cX7_party 26 = .ok (.isub, 1) := by decide +kernel
theorem dX7_party_27 : decode cX7_party 27 = .ok (.ireturn, 1) := by decide +kernel
theorem dX7_agreement_0 : decode cX7_agreement 0 = .ok (.aload_n 0, 1) := by decide +kernel
theorem dX7_agreement_1 : decode cX7_agreement 1 = .ok (.getfield 40, 3) := by decide +kernel
theorem dX7_agreement_4 : decode cX7_agreement 4 = .ok (.ifCond .lt 15, 3) := by decide +kernel
theorem dX7_agreement_7 : decode cX7_agreement 7 = .ok (.aload_n 0, 1) := by decide +kernel
theorem dX7_agreement_8 : decode cX7_agreement 8 = .ok (.getfield 40, 3) := by decide +kernel
theorem dX7_agreement_11 : decode cX7_agreement 11 = .ok (.aload_n 0, 1) := by decide +kernel
theorem dX7_agreement_12 : decode cX7_agreement 12 = .ok (.getfield 11, 3) := by decide +kernel
theorem dX7_agreement_15 : decode cX7_agreement 15 = .ok (.arraylength, 1) := by decide +kernel
theorem dX7_agreement_16 : decode cX7_agreement 16 = .ok (.if_icmp .lt 5, 3) := by decide +kernel
theorem dX7_agreement_19 : decode cX7_agreement 19 = .ok (.iconst (-1), 1) := by decide +kernel
theorem dX7_agreement_20 : decode cX7_agreement 20 = .ok (.ireturn, 1) := by decide +kernel
theorem dX7_agreement_21 : decode cX7_agreement 21 = .ok (.iconst 1, 1) := by decide +kernel
theorem dX7_agreement_22 : decode cX7_agreement 22 = .ok (.bipush 20, 2) := by decide +kernel
theorem dX7_agreement_24 : decode cX7_agreement 24 = .ok (.iload_n 1, 1) := by decide +kernel
theorem dX7_agreement_25 : decode cX7_agreement 25 = .ok (.invokestatic 43, 3) := by decide +kernel
theorem dX7_agreement_28 : decode cX7_agreement 28 = .ok (.ifCond .eq 13, 3) := by decide +kernel
theorem dX7_agreement_31 : decode cX7_agreement 31 = .ok (.iconst 1, 1) := by decide +kernel
theorem dX7_agreement_32 : decode cX7_agreement 32 = .ok (.bipush 10, 2) := by decide +kernel
theorem dX7_agreement_34 : decode cX7_agreement 34 = .ok (.iload_n 2, 1) := by decide +kernel
theorem dX7_agreement_35 : decode cX7_agreement 35 = .ok (.invokestatic 43, 3) := by decide +kernel
theorem dX7_agreement_38 : decode cX7_agreement 38 = .ok (.ifCond .ne 5, 3) := by decide +kernel
theorem dX7_agreement_41 : decode cX7_agreement 41 = .ok (.iconst (-1), 1) := by decide +kernel
theorem dX7_agreement_42 : decode cX7_agreement 42 = .ok (.ireturn, 1) := by decide +kernel
theorem dX7_agreement_43 : decode cX7_agreement 43 = .ok (.iconst 0, 1) := by decide +kernel
theorem dX7_agreement_44 : decode cX7_agreement 44 = .ok (.sipush 1000, 3) := by decide +kernel
theorem dX7_agreement_47 : decode cX7_agreement 47 = .ok (.iload_n 3, 1) := by decide +kernel
theorem dX7_agreement_48 : decode cX7_agreement 48 = .ok (.invokestatic 43, 3) := by decide +kernel
theorem dX7_agreement_51 : decode cX7_agreement 51 = .ok (.ifCond .eq 15, 3) := by decide +kernel
theorem dX7_agreement_54 : decode cX7_agreement 54 = .ok (.iconst 0, 1) := by decide +kernel
theorem dX7_agreement_55 : decode cX7_agreement 55 = .ok (.sipush 1000, 3) := by decide +kernel
theorem dX7_agreement_58 : decode cX7_agreement 58 = .ok (.iload 4, 2) := by decide +kernel
theorem dX7_agreement_60 : decode cX7_agreement 60 = .ok (.invokestatic 43, 3) := by decide +kernel
theorem dX7_agreement_63 : decode cX7_agreement 63 = .ok (.ifCond .ne 5, 3) := by decide +kernel
theorem dX7_agreement_66 : decode cX7_agreement 66 = .ok (.iconst (-1), 1) := by decide +kernel
theorem dX7_agreement_67 : decode cX7_agreement 67 = .ok (.ireturn, 1) := by decide +kernel
theorem dX7_agreement_68 : decode cX7_agreement 68 = .ok (.aload_n 0, 1) := by decide +kernel
theorem dX7_agreement_69 : decode cX7_agreement 69 = .ok (.getfield 11, 3) := by decide +kernel
theorem dX7_agreement_72 : decode cX7_agreement 72 = .ok (.aload_n 0, 1) := by decide +kernel
theorem dX7_agreement_73 : decode cX7_agreement 73 = .ok (.getfield 40, 3) := by decide +kernel
theorem dX7_agreement_76 : decode cX7_agreement 76 = .ok (.new 9, 3) := by decide +kernel
theorem dX7_agreement_79 : decode cX7_agreement 79 = .ok (.dup, 1) := by decide +kernel
theorem dX7_agreement_80 : decode cX7_agreement 80 = .ok (.aload_n 0, 1) := by decide +kernel
theorem dX7_agreement_81 : decode cX7_agreement 81 = .ok (.getfield 40, 3) := by decide +kernel
theorem dX7_agreement_84 : decode cX7_agreement 84 = .ok (.iload_n 1, 1) := by decide +kernel
theorem dX7_agreement_85 : decode cX7_agreement 85 = .ok (.iload_n 2, 1) := by decide +kernel
theorem dX7_agreement_86 : decode cX7_agreement 86 = .ok (.iload_n 3, 1) := by decide +kernel
theorem dX7_agreement_87 : decode cX7_agreement 87 = .ok (.iload 4, 2) := by decide +kernel
theorem dX7_agreement_89 : decode cX7_agreement 89 = .ok (.invokespecial 47, 3) := by decide +kernel
theorem dX7_agreement_92 : decode cX7_agreement 92 = .ok (.aastore, 1) := by decide +kernel
theorem dX7_agreement_93 : decode cX7_agreement 93 = .ok (.aload_n 0, 1) := by decide +kernel
theorem dX7_agreement_94 : decode cX7_agreement 94 = .ok (.dup, 1) := by decide +kernel
theorem dX7_agreement_95 : decode cX7_agreement 95 = .ok (.getfield 40, 3) := by decide +kernel
theorem dX7_agreement_98 : decode cX7_agreement 98 = .ok (.iconst 1, 1) := by decide +kernel
theorem dX7_agreement_99 : decode cX7_agreement 99 = .ok (.iadd, 1) := by decide +kernel
theorem dX7_agreement_100 : decode cX7_agreement 100 = .ok (.putfield 40, 3) := by decide +kernel
theorem dX7_agreement_103 : decode cX7_agreement 103 = .ok (.aload_n 0, 1) := by decide +kernel
theorem dX7_agreement_104 : decode cX7_agreement 104 = .ok (.getfield 40, 3) := by decide +kernel
theorem dX7_agreement_107 : decode cX7_agreement 107 = .ok (.iconst 1, 1) := by decide +kernel
theorem dX7_agreement_108 : decode cX7_agreement 108 = .ok (.isub, 1) := by decide +kernel
theorem dX7_agreement_109 : decode cX7_agreement 109 = .ok (.ireturn, 1) := by decide +kernel
theorem dX7_article_0 : decode cX7_article 0 = .ok (.aload_n 0, 1) := by decide +kernel
theorem dX7_article_1 : decode cX7_article 1 = .ok (.iload_n 1, 1) := by decide +kernel
theorem dX7_article_2 : decode cX7_article 2 = .ok (.invokevirtual 50, 3) := by decide +kernel
theorem dX7_article_5 : decode cX7_article 5 = .ok (.astore 4, 2) := by decide +kernel
theorem dX7_article_7 : decode cX7_article 7 = .ok (.aload 4, 2) := by decide +kernel
theorem dX7_article_9 : decode cX7_article 9 = .ok (.ifnull 22, 3) := by decide +kernel
theorem dX7_article_12 : decode cX7_article 12 = .ok (.aload 4, 2) := by decide +kernel
theorem dX7_article_14 : decode cX7_article 14 = .ok (.iload_n 2, 1) := by decide +kernel
theorem dX7_article_15 : decode cX7_article 15 = .ok (.invokevirtual 54, 3) := by decide +kernel
theorem dX7_article_18 : decode cX7_article 18 = .ok (.ifCond .eq 13, 3) := by decide +kernel
theorem dX7_article_21 : decode cX7_article 21 = .ok (.iconst 1, 1) := by decide +kernel
theorem dX7_article_22 : decode cX7_article 22 = .ok (.ldc 58, 2) := by decide +kernel
theorem dX7_article_24 : decode cX7_article 24 = .ok (.iload_n 3, 1) := by decide +kernel
theorem dX7_article_25 : decode cX7_article 25 = .ok (.invokestatic 43, 3) := by decide +kernel
theorem dX7_article_28 : decode cX7_article 28 = .ok (.ifCond .ne 5, 3) := by decide +kernel
theorem dX7_article_31 : decode cX7_article 31 = .ok (.iconst (-1), 1) := by decide +kernel
theorem dX7_article_32 : decode cX7_article 32 = .ok (.ireturn, 1) := by decide +kernel
theorem dX7_article_33 : decode cX7_article 33 = .ok (.aload_n 0, 1) := by decide +kernel
theorem dX7_article_34 : decode cX7_article 34 = .ok (.getfield 18, 3) := by decide +kernel
theorem dX7_article_37 : decode cX7_article 37 = .ok (.aload 4, 2) := by decide +kernel
theorem dX7_article_39 : decode cX7_article 39 = .ok (.invokevirtual 59, 3) := by decide +kernel
theorem dX7_article_42 : decode cX7_article 42 = .ok (.ifCond .eq 5, 3) := by decide +kernel
theorem dX7_article_45 : decode cX7_article 45 = .ok (.iconst (-1), 1) := by decide +kernel
theorem dX7_article_46 : decode cX7_article 46 = .ok (.ireturn, 1) := by decide +kernel
theorem dX7_article_47 : decode cX7_article 47 = .ok (.aload 4, 2) := by decide +kernel
theorem dX7_article_49 : decode cX7_article 49 = .ok (.iload_n 2, 1) := by decide +kernel
theorem dX7_article_50 : decode cX7_article 50 = .ok (.iload_n 3, 1) := by decide +kernel
theorem dX7_article_51 : decode cX7_article 51 = .ok (.invokevirtual 63, 3) := by decide +kernel
theorem dX7_article_54 : decode cX7_article 54 = .ok (.ireturn, 1) := by decide +kernel
theorem dX7_clock_0 : decode cX7_clock 0 = .ok (.iload_n 1, 1) := by decide +kernel
theorem dX7_clock_1 : decode cX7_clock 1 = .ok (.aload_n 0, 1) := by decide +kernel
theorem dX7_clock_2 : decode cX7_clock 2 = .ok (.getfield 67, 3) := by decide +kernel
theorem dX7_clock_5 : decode cX7_clock 5 = .ok (.if_icmp .lt 9, 3) := by decide +kernel
theorem dX7_clock_8 : decode cX7_clock 8 = .ok (.iload_n 1, 1) := by decide +kernel
theorem dX7_clock_9 : decode cX7_clock 9 = .ok (.ldc 70, 2) := by decide +kernel
theorem dX7_clock_11 : decode cX7_clock 11 = .ok (.if_icmp .le 5, 3) := by decide +kernel
theorem dX7_clock_14 : decode cX7_clock 14 = .ok (.iconst 0, 1) := by decide +kernel
theorem dX7_clock_15 : decode cX7_clock 15 = .ok (.ireturn, 1) := by decide +kernel
theorem dX7_clock_16 : decode cX7_clock 16 = .ok (.aload_n 0, 1) := by decide +kernel
theorem dX7_clock_17 : decode cX7_clock 17 = .ok (.iload_n 1, 1) := by decide +kernel
theorem dX7_clock_18 : decode cX7_clock 18 = .ok (.putfield 67, 3) := by decide +kernel
theorem dX7_clock_21 : decode cX7_clock 21 = .ok (.iconst 1, 1) := by decide +kernel
theorem dX7_clock_22 : decode cX7_clock 22 = .ok (.ireturn, 1) := by decide +kernel
theorem dX7_sign_0 : decode cX7_sign 0 = .ok (.aload_n 0, 1) := by decide +kernel
theorem dX7_sign_1 : decode cX7_sign 1 = .ok (.iload_n 2, 1) := by decide +kernel
theorem dX7_sign_2 : decode cX7_sign 2 = .ok (.invokevirtual 50, 3) := by decide +kernel
theorem dX7_sign_5 : decode cX7_sign 5 = .ok (.astore_n 3, 1) := by decide +kernel
theorem dX7_sign_6 : decode cX7_sign 6 = .ok (.aload_n 0, 1) := by decide +kernel
theorem dX7_sign_7 : decode cX7_sign 7 = .ok (.iload_n 1, 1) := by decide +kernel
theorem dX7_sign_8 : decode cX7_sign 8 = .ok (.invokevirtual 71, 3) := by decide +kernel
theorem dX7_sign_11 : decode cX7_sign 11 = .ok (.ifCond .eq 7, 3) := by decide +kernel
theorem dX7_sign_14 : decode cX7_sign 14 = .ok (.aload_n 3, 1) := by decide +kernel
theorem dX7_sign_15 : decode cX7_sign 15 = .ok (.ifnonnull 6, 3) := by decide +kernel
theorem dX7_sign_18 : decode cX7_sign 18 = .ok (.bipush (-2), 2) := by decide +kernel
theorem dX7_sign_20 : decode cX7_sign 20 = .ok (.ireturn, 1) := by decide +kernel
theorem dX7_sign_21 : decode cX7_sign 21 = .ok (.aload_n 0, 1) := by decide +kernel
theorem dX7_sign_22 : decode cX7_sign 22 = .ok (.getfield 18, 3) := by decide +kernel
theorem dX7_sign_25 : decode cX7_sign 25 = .ok (.invokevirtual 74, 3) := by decide +kernel
theorem dX7_sign_28 : decode cX7_sign 28 = .ok (.ifCond .eq 6, 3) := by decide +kernel
theorem dX7_sign_31 : decode cX7_sign 31 = .ok (.bipush (-8), 2) := by decide +kernel
theorem dX7_sign_33 : decode cX7_sign 33 = .ok (.ireturn, 1) := by decide +kernel
theorem dX7_sign_34 : decode cX7_sign 34 = .ok (.aload_n 0, 1) := by decide +kernel
theorem dX7_sign_35 : decode cX7_sign 35 = .ok (.getfield 18, 3) := by decide +kernel
theorem dX7_sign_38 : decode cX7_sign 38 = .ok (.iload_n 1, 1) := by decide +kernel
theorem dX7_sign_39 : decode cX7_sign 39 = .ok (.aload_n 3, 1) := by decide +kernel
theorem dX7_sign_40 : decode cX7_sign 40 = .ok (.invokevirtual 78, 3) := by decide +kernel
theorem dX7_sign_43 : decode cX7_sign 43 = .ok (.ifCond .eq 6, 3) := by decide +kernel
theorem dX7_sign_46 : decode cX7_sign 46 = .ok (.bipush (-4), 2) := by decide +kernel
theorem dX7_sign_48 : decode cX7_sign 48 = .ok (.ireturn, 1) := by decide +kernel
theorem dX7_sign_49 : decode cX7_sign 49 = .ok (.aload_n 0, 1) := by decide +kernel
theorem dX7_sign_50 : decode cX7_sign 50 = .ok (.getfield 18, 3) := by decide +kernel
theorem dX7_sign_53 : decode cX7_sign 53 = .ok (.iconst 0, 1) := by decide +kernel
theorem dX7_sign_54 : decode cX7_sign 54 = .ok (.iload_n 1, 1) := by decide +kernel
theorem dX7_sign_55 : decode cX7_sign 55 = .ok (.aload_n 3, 1) := by decide +kernel
theorem dX7_sign_56 : decode cX7_sign 56 = .ok (.aload_n 0, 1) := by decide +kernel
theorem dX7_sign_57 : decode cX7_sign 57 = .ok (.getfield 67, 3) := by decide +kernel
theorem dX7_sign_60 : decode cX7_sign 60 = .ok (.aload_n 0, 1) := by decide +kernel
theorem dX7_sign_61 : decode cX7_sign 61 = .ok (.getfield 67, 3) := by decide +kernel
theorem dX7_sign_64 : decode cX7_sign 64 = .ok (.invokevirtual 82, 3) := by decide +kernel
theorem dX7_sign_67 : decode cX7_sign 67 = .ok (.getfield 86, 3) := by decide +kernel
theorem dX7_sign_70 : decode cX7_sign 70 = .ok (.ireturn, 1) := by decide +kernel
theorem dX7_ratify_0 : decode cX7_ratify 0 = .ok (.aload_n 0, 1) := by decide +kernel
theorem dX7_ratify_1 : decode cX7_ratify 1 = .ok (.iload_n 2, 1) := by decide +kernel
theorem dX7_ratify_2 : decode cX7_ratify 2 = .ok (.invokevirtual 50, 3) := by decide +kernel
theorem dX7_ratify_5 : decode cX7_ratify 5 = .ok (.astore_n 3, 1) := by decide +kernel
theorem dX7_ratify_6 : decode cX7_ratify 6 = .ok (.aload_n 0, 1) := by decide +kernel
theorem dX7_ratify_7 : decode cX7_ratify 7 = .ok (.iload_n 1, 1) := by decide +kernel
theorem dX7_ratify_8 : decode cX7_ratify 8 = .ok (.invokevirtual 71, 3) := by decide +kernel
theorem dX7_ratify_11 : decode cX7_ratify 11 = .ok (.ifCond .eq 7, 3) := by decide +kernel
theorem dX7_ratify_14 : decode cX7_ratify 14 = .ok (.aload_n 3, 1) := by decide +kernel
theorem dX7_ratify_15 : decode cX7_ratify 15 = .ok (.ifnonnull 6, 3) := by decide +kernel
theorem dX7_ratify_18 : decode cX7_ratify 18 = .ok (.bipush (-2), 2) := by decide +kernel
theorem dX7_ratify_20 : decode cX7_ratify 20 = .ok (.ireturn, 1) := by decide +kernel
theorem dX7_ratify_21 : decode cX7_ratify 21 = .ok (.aload_n 0, 1) := by decide +kernel
theorem dX7_ratify_22 : decode cX7_ratify 22 = .ok (.getfield 18, 3) := by decide +kernel
theorem dX7_ratify_25 : decode cX7_ratify 25 = .ok (.invokevirtual 74, 3) := by decide +kernel
theorem dX7_ratify_28 : decode cX7_ratify 28 = .ok (.ifCond .eq 6, 3) := by decide +kernel
theorem dX7_ratify_31 : decode cX7_ratify 31 = .ok (.bipush (-8), 2) := by decide +kernel
theorem dX7_ratify_33 : decode cX7_ratify 33 = .ok (.ireturn, 1) := by decide +kernel
theorem dX7_ratify_34 : decode cX7_ratify 34 = .ok (.aload_n 0, 1) := by decide +kernel
theorem dX7_ratify_35 : decode cX7_ratify 35 = .ok (.getfield 18, 3) := by decide +kernel
theorem dX7_ratify_38 : decode cX7_ratify 38 = .ok (.iload_n 1, 1) := by decide +kernel
theorem dX7_ratify_39 : decode cX7_ratify 39 = .ok (.aload_n 3, 1) := by decide +kernel
theorem dX7_ratify_40 : decode cX7_ratify 40 = .ok (.invokevirtual 78, 3) := by decide +kernel
theorem dX7_ratify_43 : decode cX7_ratify 43 = .ok (.ifCond .ne 6, 3) := by decide +kernel
theorem dX7_ratify_46 : decode cX7_ratify 46 = .ok (.bipush (-5), 2) := by decide +kernel
theorem dX7_ratify_48 : decode cX7_ratify 48 = .ok (.ireturn, 1) := by decide +kernel
theorem dX7_ratify_49 : decode cX7_ratify 49 = .ok (.aload_n 0, 1) := by decide +kernel
theorem dX7_ratify_50 : decode cX7_ratify 50 = .ok (.getfield 18, 3) := by decide +kernel
theorem dX7_ratify_53 : decode cX7_ratify 53 = .ok (.iload_n 1, 1) := by decide +kernel
theorem dX7_ratify_54 : decode cX7_ratify 54 = .ok (.aload_n 3, 1) := by decide +kernel
theorem dX7_ratify_55 : decode cX7_ratify 55 = .ok (.invokevirtual 91, 3) := by decide +kernel
theorem dX7_ratify_58 : decode cX7_ratify 58 = .ok (.ifnull 6, 3) := by decide +kernel
theorem dX7_ratify_61 : decode cX7_ratify 61 = .ok (.bipush (-4), 2) := by decide +kernel
theorem dX7_ratify_63 : decode cX7_ratify 63 = .ok (.ireturn, 1) := by decide +kernel
theorem dX7_ratify_64 : decode cX7_ratify 64 = .ok (.aload_n 0, 1) := by decide +kernel
theorem dX7_ratify_65 : decode cX7_ratify 65 = .ok (.getfield 18, 3) := by decide +kernel
theorem dX7_ratify_68 : decode cX7_ratify 68 = .ok (.iconst 1, 1) := by decide +kernel
theorem dX7_ratify_69 : decode cX7_ratify 69 = .ok (.iload_n 1, 1) := by decide +kernel
theorem dX7_ratify_70 : decode cX7_ratify 70 = .ok (.aload_n 3, 1) := by decide +kernel
theorem dX7_ratify_71 : decode cX7_ratify 71 = .ok (.aload_n 0, 1) := by decide +kernel
theorem dX7_ratify_72 : decode cX7_ratify 72 = .ok (.getfield 67, 3) := by decide +kernel
theorem dX7_ratify_75 : decode cX7_ratify 75 = .ok (.aload_n 0, 1) := by decide +kernel
theorem dX7_ratify_76 : decode cX7_ratify 76 = .ok (.getfield 67, 3) := by decide +kernel
theorem dX7_ratify_79 : decode cX7_ratify 79 = .ok (.aload_n 3, 1) := by decide +kernel
theorem dX7_ratify_80 : decode cX7_ratify 80 = .ok (.getfield 95, 3) := by decide +kernel
theorem dX7_ratify_83 : decode cX7_ratify 83 = .ok (.iadd, 1) := by decide +kernel
theorem dX7_ratify_84 : decode cX7_ratify 84 = .ok (.invokevirtual 82, 3) := by decide +kernel
theorem dX7_ratify_87 : decode cX7_ratify 87 = .ok (.getfield 86, 3) := by decide +kernel
theorem dX7_ratify_90 : decode cX7_ratify 90 = .ok (.ireturn, 1) := by decide +kernel
theorem dX7_join_0 : decode cX7_join 0 = .ok (.aload_n 0, 1) := by decide +kernel
theorem dX7_join_1 : decode cX7_join 1 = .ok (.iload_n 2, 1) := by decide +kernel
theorem dX7_join_2 : decode cX7_join 2 = .ok (.invokevirtual 50, 3) := by decide +kernel
theorem dX7_join_5 : decode cX7_join 5 = .ok (.astore_n 3, 1) := by decide +kernel
theorem dX7_join_6 : decode cX7_join 6 = .ok (.aload_n 0, 1) := by decide +kernel
theorem dX7_join_7 : decode cX7_join 7 = .ok (.iload_n 1, 1) := by decide +kernel
theorem dX7_join_8 : decode cX7_join 8 = .ok (.invokevirtual 71, 3) := by decide +kernel
theorem dX7_join_11 : decode cX7_join 11 = .ok (.ifCond .eq 7, 3) := by decide +kernel
theorem dX7_join_14 : decode cX7_join 14 = .ok (.aload_n 3, 1) := by decide +kernel
theorem dX7_join_15 : decode cX7_join 15 = .ok (.ifnonnull 6, 3) := by decide +kernel
theorem dX7_join_18 : decode cX7_join 18 = .ok (.bipush (-2), 2) := by decide +kernel
theorem dX7_join_20 : decode cX7_join 20 = .ok (.ireturn, 1) := by decide +kernel
theorem dX7_join_21 : decode cX7_join 21 = .ok (.aload_n 0, 1) := by decide +kernel
theorem dX7_join_22 : decode cX7_join 22 = .ok (.getfield 18, 3) := by decide +kernel
theorem dX7_join_25 : decode cX7_join 25 = .ok (.invokevirtual 74, 3) := by decide +kernel
theorem dX7_join_28 : decode cX7_join 28 = .ok (.ifCond .eq 6, 3) := by decide +kernel
theorem dX7_join_31 : decode cX7_join 31 = .ok (.bipush (-8), 2) := by decide +kernel
theorem dX7_join_33 : decode cX7_join 33 = .ok (.ireturn, 1) := by decide +kernel
theorem dX7_join_34 : decode cX7_join 34 = .ok (.aload_n 0, 1) := by decide +kernel
theorem dX7_join_35 : decode cX7_join 35 = .ok (.getfield 18, 3) := by decide +kernel
theorem dX7_join_38 : decode cX7_join 38 = .ok (.iload_n 1, 1) := by decide +kernel
theorem dX7_join_39 : decode cX7_join 39 = .ok (.aload_n 3, 1) := by decide +kernel
theorem dX7_join_40 : decode cX7_join 40 = .ok (.invokevirtual 91, 3) := by decide +kernel
theorem dX7_join_43 : decode cX7_join 43 = .ok (.ifnull 6, 3) := by decide +kernel
theorem dX7_join_46 : decode cX7_join 46 = .ok (.bipush (-4), 2) := by decide +kernel
theorem dX7_join_48 : decode cX7_join 48 = .ok (.ireturn, 1) := by decide +kernel
theorem dX7_join_49 : decode cX7_join 49 = .ok (.aload_n 0, 1) := by decide +kernel
theorem dX7_join_50 : decode cX7_join 50 = .ok (.getfield 18, 3) := by decide +kernel
theorem dX7_join_53 : decode cX7_join 53 = .ok (.iconst 2, 1) := by decide +kernel
theorem dX7_join_54 : decode cX7_join 54 = .ok (.iload_n 1, 1) := by decide +kernel
theorem dX7_join_55 : decode cX7_join 55 = .ok (.aload_n 3, 1) := by decide +kernel
theorem dX7_join_56 : decode cX7_join 56 = .ok (.aload_n 0, 1) := by decide +kernel
theorem dX7_join_57 : decode cX7_join 57 = .ok (.getfield 67, 3) := by decide +kernel
theorem dX7_join_60 : decode cX7_join 60 = .ok (.aload_n 0, 1) := by decide +kernel
theorem dX7_join_61 : decode cX7_join 61 = .ok (.getfield 67, 3) := by decide +kernel
theorem dX7_join_64 : decode cX7_join 64 = .ok (.aload_n 3, 1) := by decide +kernel
theorem dX7_join_65 : decode cX7_join 65 = .ok (.getfield 95, 3) := by decide +kernel
theorem dX7_join_68 : decode cX7_join 68 = .ok (.iadd, 1) := by decide +kernel
theorem dX7_join_69 : decode cX7_join 69 = .ok (.invokevirtual 82, 3) := by decide +kernel
theorem dX7_join_72 : decode cX7_join 72 = .ok (.getfield 86, 3) := by decide +kernel
theorem dX7_join_75 : decode cX7_join 75 = .ok (.ireturn, 1) := by decide +kernel
theorem dX7_reserve_0 : decode cX7_reserve 0 = .ok (.aload_n 0, 1) := by decide +kernel
theorem dX7_reserve_1 : decode cX7_reserve 1 = .ok (.iload_n 2, 1) := by decide +kernel
theorem dX7_reserve_2 : decode cX7_reserve 2 = .ok (.invokevirtual 50, 3) := by decide +kernel
theorem dX7_reserve_5 : decode cX7_reserve 5 = .ok (.astore 5, 2) := by decide +kernel
theorem dX7_reserve_7 : decode cX7_reserve 7 = .ok (.aload_n 0, 1) := by decide +kernel
theorem dX7_reserve_8 : decode cX7_reserve 8 = .ok (.iload_n 1, 1) := by decide +kernel
theorem dX7_reserve_9 : decode cX7_reserve 9 = .ok (.invokevirtual 71, 3) := by decide +kernel
theorem dX7_reserve_12 : decode cX7_reserve 12 = .ok (.ifCond .eq 28, 3) := by decide +kernel
theorem dX7_reserve_15 : decode cX7_reserve 15 = .ok (.aload 5, 2) := by decide +kernel
theorem dX7_reserve_17 : decode cX7_reserve 17 = .ok (.ifnull 23, 3) := by decide +kernel
theorem dX7_reserve_20 : decode cX7_reserve 20 = .ok (.aload 5, 2) := by decide +kernel
theorem dX7_reserve_22 : decode cX7_reserve 22 = .ok (.iload_n 3, 1) := by decide +kernel
theorem dX7_reserve_23 : decode cX7_reserve 23 = .ok (.invokevirtual 54, 3) := by decide +kernel
theorem dX7_reserve_26 : decode cX7_reserve 26 = .ok (.ifCond .eq 14, 3) := by decide +kernel
theorem dX7_reserve_29 : decode cX7_reserve 29 = .ok (.iconst 0, 1) := by decide +kernel
theorem dX7_reserve_30 : decode cX7_reserve 30 = .ok (.ldc 58, 2) := by decide +kernel
theorem dX7_reserve_32 : decode cX7_reserve 32 = .ok (.iload 4, 2) := by decide +kernel
theorem dX7_reserve_34 : decode cX7_reserve 34 = .ok (.invokestatic 43, 3) := by decide +kernel
theorem dX7_reserve_37 : decode cX7_reserve 37 = .ok (.ifCond .ne 6, 3) := by decide +kernel
theorem dX7_reserve_40 : decode cX7_reserve 40 = .ok (.bipush (-2), 2) := by decide +kernel
theorem dX7_reserve_42 : decode cX7_reserve 42 = .ok (.ireturn, 1) := by decide +kernel
theorem dX7_reserve_43 : decode cX7_reserve 43 = .ok (.aload_n 0, 1) := by decide +kernel
theorem dX7_reserve_44 : decode cX7_reserve 44 = .ok (.getfield 18, 3) := by decide +kernel
theorem dX7_reserve_47 : decode cX7_reserve 47 = .ok (.invokevirtual 74, 3) := by decide +kernel
theorem dX7_reserve_50 : decode cX7_reserve 50 = .ok (.ifCond .eq 6, 3) := by decide +kernel
theorem dX7_reserve_53 : decode cX7_reserve 53 = .ok (.bipush (-8), 2) := by decide +kernel
theorem dX7_reserve_55 : decode cX7_reserve 55 = .ok (.ireturn, 1) := by decide +kernel
theorem dX7_reserve_56 : decode cX7_reserve 56 = .ok (.aload_n 0, 1) := by decide +kernel
theorem dX7_reserve_57 : decode cX7_reserve 57 = .ok (.getfield 18, 3) := by decide +kernel
theorem dX7_reserve_60 : decode cX7_reserve 60 = .ok (.iload_n 1, 1) := by decide +kernel
theorem dX7_reserve_61 : decode cX7_reserve 61 = .ok (.aload 5, 2) := by decide +kernel
theorem dX7_reserve_63 : decode cX7_reserve 63 = .ok (.invokevirtual 91, 3) := by decide +kernel
theorem dX7_reserve_66 : decode cX7_reserve 66 = .ok (.astore 6, 2) := by decide +kernel
theorem dX7_reserve_68 : decode cX7_reserve 68 = .ok (.aload 6, 2) := by decide +kernel
theorem dX7_reserve_70 : decode cX7_reserve 70 = .ok (.ifnonnull 6, 3) := by decide +kernel
theorem dX7_reserve_73 : decode cX7_reserve 73 = .ok (.bipush (-6), 2) := by decide +kernel
theorem dX7_reserve_75 : decode cX7_reserve 75 = .ok (.ireturn, 1) := by decide +kernel
theorem dX7_reserve_76 : decode cX7_reserve 76 = .ok (.aload_n 0, 1) := by decide +kernel
theorem dX7_reserve_77 : decode cX7_reserve 77 = .ok (.getfield 18, 3) := by decide +kernel
theorem dX7_reserve_80 : decode cX7_reserve 80 = .ok (.iconst 3, 1) := by decide +kernel
theorem dX7_reserve_81 : decode cX7_reserve 81 = .ok (.iload_n 1, 1) := by decide +kernel
theorem dX7_reserve_82 : decode cX7_reserve 82 = .ok (.aload 5, 2) := by decide +kernel
theorem dX7_reserve_84 : decode cX7_reserve 84 = .ok (.aload_n 0, 1) := by decide +kernel
theorem dX7_reserve_85 : decode cX7_reserve 85 = .ok (.getfield 67, 3) := by decide +kernel
theorem dX7_reserve_88 : decode cX7_reserve 88 = .ok (.aload_n 0, 1) := by decide +kernel
theorem dX7_reserve_89 : decode cX7_reserve 89 = .ok (.getfield 67, 3) := by decide +kernel
theorem dX7_reserve_92 : decode cX7_reserve 92 = .ok (.aload 5, 2) := by decide +kernel
theorem dX7_reserve_94 : decode cX7_reserve 94 = .ok (.getfield 95, 3) := by decide +kernel
theorem dX7_reserve_97 : decode cX7_reserve 97 = .ok (.iadd, 1) := by decide +kernel
theorem dX7_reserve_98 : decode cX7_reserve 98 = .ok (.invokevirtual 82, 3) := by decide +kernel
theorem dX7_reserve_101 : decode cX7_reserve 101 = .ok (.astore 7, 2) := by decide +kernel
theorem dX7_reserve_103 : decode cX7_reserve 103 = .ok (.aload 7, 2) := by decide +kernel
theorem dX7_reserve_105 : decode cX7_reserve 105 = .ok (.aload 6, 2) := by decide +kernel
theorem dX7_reserve_107 : decode cX7_reserve 107 = .ok (.putfield 98, 3) := by decide +kernel
theorem dX7_reserve_110 : decode cX7_reserve 110 = .ok (.aload 7, 2) := by decide +kernel
theorem dX7_reserve_112 : decode cX7_reserve 112 = .ok (.iload_n 3, 1) := by decide +kernel
theorem dX7_reserve_113 : decode cX7_reserve 113 = .ok (.putfield 102, 3) := by decide +kernel
theorem dX7_reserve_116 : decode cX7_reserve 116 = .ok (.aload 7, 2) := by decide +kernel
theorem dX7_reserve_118 : decode cX7_reserve 118 = .ok (.iload 4, 2) := by decide +kernel
theorem dX7_reserve_120 : decode cX7_reserve 120 = .ok (.putfield 105, 3) := by decide +kernel
theorem dX7_reserve_123 : decode cX7_reserve 123 = .ok (.aload 7, 2) := by decide +kernel
theorem dX7_reserve_125 : decode cX7_reserve 125 = .ok (.getfield 86, 3) := by decide +kernel
theorem dX7_reserve_128 : decode cX7_reserve 128 = .ok (.ireturn, 1) := by decide +kernel
theorem dX7_object_0 : decode cX7_object 0 = .ok (.aload_n 0, 1) := by decide +kernel
theorem dX7_object_1 : decode cX7_object 1 = .ok (.getfield 18, 3) := by decide +kernel
theorem dX7_object_4 : decode cX7_object 4 = .ok (.iload_n 2, 1) := by decide +kernel
theorem dX7_object_5 : decode cX7_object 5 = .ok (.invokevirtual 108, 3) := by decide +kernel
theorem dX7_object_8 : decode cX7_object 8 = .ok (.astore 4, 2) := by decide +kernel
theorem dX7_object_10 : decode cX7_object 10 = .ok (.aload_n 0, 1) := by decide +kernel
theorem dX7_object_11 : decode cX7_object 11 = .ok (.iload_n 1, 1) := by decide +kernel
theorem dX7_object_12 : decode cX7_object 12 = .ok (.invokevirtual 71, 3) := by decide +kernel
theorem dX7_object_15 : decode cX7_object 15 = .ok (.ifCond .eq 25, 3) := by decide +kernel
theorem dX7_object_18 : decode cX7_object 18 = .ok (.aload 4, 2) := by decide +kernel
theorem dX7_object_20 : decode cX7_object 20 = .ok (.ifnull 20, 3) := by decide +kernel
theorem dX7_object_23 : decode cX7_object 23 = .ok (.aload 4, 2) := by decide +kernel
theorem dX7_object_25 : decode cX7_object 25 = .ok (.getfield 112, 3) := by decide +kernel
theorem dX7_object_28 : decode cX7_object 28 = .ok (.iconst 3, 1) := by decide +kernel
theorem dX7_object_29 : decode cX7_object 29 = .ok (.if_icmp .ne 11, 3) := by decide +kernel
theorem dX7_object_32 : decode cX7_object 32 = .ok (.aload 4, 2) := by decide +kernel
theorem dX7_object_34 : decode cX7_object 34 = .ok (.getfield 115, 3) := by decide +kernel
theorem dX7_object_37 : decode cX7_object 37 = .ok (.ifnonnull 6, 3) := by decide +kernel
theorem dX7_object_40 : decode cX7_object 40 = .ok (.bipush (-2), 2) := by decide +kernel
theorem dX7_object_42 : decode cX7_object 42 = .ok (.ireturn, 1) := by decide +kernel
theorem dX7_object_43 : decode cX7_object 43 = .ok (.aload_n 0, 1) := by decide +kernel
theorem dX7_object_44 : decode cX7_object 44 = .ok (.getfield 18, 3) := by decide +kernel
theorem dX7_object_47 : decode cX7_object 47 = .ok (.invokevirtual 74, 3) := by decide +kernel
theorem dX7_object_50 : decode cX7_object 50 = .ok (.ifCond .eq 6, 3) := by decide +kernel
theorem dX7_object_53 : decode cX7_object 53 = .ok (.bipush (-8), 2) := by decide +kernel
theorem dX7_object_55 : decode cX7_object 55 = .ok (.ireturn, 1) := by decide +kernel
theorem dX7_object_56 : decode cX7_object 56 = .ok (.aload_n 0, 1) := by decide +kernel
theorem dX7_object_57 : decode cX7_object 57 = .ok (.getfield 18, 3) := by decide +kernel
theorem dX7_object_60 : decode cX7_object 60 = .ok (.iload_n 1, 1) := by decide +kernel
theorem dX7_object_61 : decode cX7_object 61 = .ok (.aload 4, 2) := by decide +kernel
theorem dX7_object_63 : decode cX7_object 63 = .ok (.getfield 115, 3) := by decide +kernel
theorem dX7_object_66 : decode cX7_object 66 = .ok (.invokevirtual 91, 3) := by decide +kernel
theorem dX7_object_69 : decode cX7_object 69 = .ok (.astore 5, 2) := by decide +kernel
theorem dX7_object_71 : decode cX7_object 71 = .ok (.aload 5, 2) := by decide +kernel
theorem dX7_object_73 : decode cX7_object 73 = .ok (.ifnonnull 6, 3) := by decide +kernel
theorem dX7_object_76 : decode cX7_object 76 = .ok (.bipush (-6), 2) := by decide +kernel
theorem dX7_object_78 : decode cX7_object 78 = .ok (.ireturn, 1) := by decide +kernel
theorem dX7_object_79 : decode cX7_object 79 = .ok (.aload 4, 2) := by decide +kernel
theorem dX7_object_81 : decode cX7_object 81 = .ok (.aload 5, 2) := by decide +kernel
theorem dX7_object_83 : decode cX7_object 83 = .ok (.aload_n 0, 1) := by decide +kernel
theorem dX7_object_84 : decode cX7_object 84 = .ok (.getfield 67, 3) := by decide +kernel
theorem dX7_object_87 : decode cX7_object 87 = .ok (.invokevirtual 119, 3) := by decide +kernel
theorem dX7_object_90 : decode cX7_object 90 = .ok (.ifCond .eq 6, 3) := by decide +kernel
theorem dX7_object_93 : decode cX7_object 93 = .ok (.bipush (-7), 2) := by decide +kernel
theorem dX7_object_95 : decode cX7_object 95 = .ok (.ireturn, 1) := by decide +kernel
theorem dX7_object_96 : decode cX7_object 96 = .ok (.aload_n 0, 1) := by decide +kernel
theorem dX7_object_97 : decode cX7_object 97 = .ok (.getfield 67, 3) := by decide +kernel
theorem dX7_object_100 : decode cX7_object 100 = .ok (.aload 4, 2) := by decide +kernel
theorem dX7_object_102 : decode cX7_object 102 = .ok (.getfield 123, 3) := by decide +kernel
theorem dX7_object_105 : decode cX7_object 105 = .ok (.isub, 1) := by decide +kernel
theorem dX7_object_106 : decode cX7_object 106 = .ok (.aload 4, 2) := by decide +kernel
theorem dX7_object_108 : decode cX7_object 108 = .ok (.getfield 115, 3) := by decide +kernel
theorem dX7_object_111 : decode cX7_object 111 = .ok (.getfield 126, 3) := by decide +kernel
theorem dX7_object_114 : decode cX7_object 114 = .ok (.if_icmp .le 6, 3) := by decide +kernel
theorem dX7_object_117 : decode cX7_object 117 = .ok (.bipush (-3), 2) := by decide +kernel
theorem dX7_object_119 : decode cX7_object 119 = .ok (.ireturn, 1) := by decide +kernel
theorem dX7_object_120 : decode cX7_object 120 = .ok (.aload 4, 2) := by decide +kernel
theorem dX7_object_122 : decode cX7_object 122 = .ok (.aload 5, 2) := by decide +kernel
theorem dX7_object_124 : decode cX7_object 124 = .ok (.invokevirtual 129, 3) := by decide +kernel
theorem dX7_object_127 : decode cX7_object 127 = .ok (.ifCond .eq 6, 3) := by decide +kernel
theorem dX7_object_130 : decode cX7_object 130 = .ok (.bipush (-4), 2) := by decide +kernel
theorem dX7_object_132 : decode cX7_object 132 = .ok (.ireturn, 1) := by decide +kernel
theorem dX7_object_133 : decode cX7_object 133 = .ok (.aload_n 0, 1) := by decide +kernel
theorem dX7_object_134 : decode cX7_object 134 = .ok (.getfield 18, 3) := by decide +kernel
theorem dX7_object_137 : decode cX7_object 137 = .ok (.iconst 4, 1) := by decide +kernel
theorem dX7_object_138 : decode cX7_object 138 = .ok (.iload_n 1, 1) := by decide +kernel
theorem dX7_object_139 : decode cX7_object 139 = .ok (.aload 4, 2) := by decide +kernel
theorem dX7_object_141 : decode cX7_object 141 = .ok (.getfield 115, 3) := by decide +kernel
theorem dX7_object_144 : decode cX7_object 144 = .ok (.aload_n 0, 1) := by decide +kernel
theorem dX7_object_145 : decode cX7_object 145 = .ok (.getfield 67, 3) := by decide +kernel
theorem dX7_object_148 : decode cX7_object 148 = .ok (.aload_n 0, 1) := by decide +kernel
theorem dX7_object_149 : decode cX7_object 149 = .ok (.getfield 67, 3) := by decide +kernel
theorem dX7_object_152 : decode cX7_object 152 = .ok (.invokevirtual 82, 3) := by decide +kernel
theorem dX7_object_155 : decode cX7_object 155 = .ok (.astore 6, 2) := by decide +kernel
theorem dX7_object_157 : decode cX7_object 157 = .ok (.aload 6, 2) := by decide +kernel
theorem dX7_object_159 : decode cX7_object 159 = .ok (.aload 5, 2) := by decide +kernel
theorem dX7_object_161 : decode cX7_object 161 = .ok (.putfield 98, 3) := by decide +kernel
theorem dX7_object_164 : decode cX7_object 164 = .ok (.aload 6, 2) := by decide +kernel
theorem dX7_object_166 : decode cX7_object 166 = .ok (.iload_n 3, 1) := by decide +kernel
theorem dX7_object_167 : decode cX7_object 167 = .ok (.putfield 133, 3) := by decide +kernel
theorem dX7_object_170 : decode cX7_object 170 = .ok (.aload 6, 2) := by decide +kernel
theorem dX7_object_172 : decode cX7_object 172 = .ok (.aload 4, 2) := by decide +kernel
theorem dX7_object_174 : decode cX7_object 174 = .ok (.invokevirtual 137, 3) := by decide +kernel
theorem dX7_object_177 : decode cX7_object 177 = .ok (.aload 6, 2) := by decide +kernel
theorem dX7_object_179 : decode cX7_object 179 = .ok (.getfield 86, 3) := by decide +kernel
theorem dX7_object_182 : decode cX7_object 182 = .ok (.ireturn, 1) := by decide +kernel
theorem dX7_withdraw_0 : decode cX7_withdraw 0 = .ok (.aload_n 0, 1) := by decide +kernel
theorem dX7_withdraw_1 : decode cX7_withdraw 1 = .ok (.getfield 18, 3) := by decide +kernel
theorem dX7_withdraw_4 : decode cX7_withdraw 4 = .ok (.iload_n 2, 1) := by decide +kernel
theorem dX7_withdraw_5 : decode cX7_withdraw 5 = .ok (.invokevirtual 108, 3) := by decide +kernel
theorem dX7_withdraw_8 : decode cX7_withdraw 8 = .ok (.astore_n 3, 1) := by decide +kernel
theorem dX7_withdraw_9 : decode cX7_withdraw 9 = .ok (.aload_n 0, 1) := by decide +kernel
theorem dX7_withdraw_10 : decode cX7_withdraw 10 = .ok (.iload_n 1, 1) := by decide +kernel
theorem dX7_withdraw_11 : decode cX7_withdraw 11 = .ok (.invokevirtual 71, 3) := by decide +kernel
theorem dX7_withdraw_14 : decode cX7_withdraw 14 = .ok (.ifCond .eq 21, 3) := by decide +kernel
theorem dX7_withdraw_17 : decode cX7_withdraw 17 = .ok (.aload_n 3, 1) := by decide +kernel
theorem dX7_withdraw_18 : decode cX7_withdraw 18 = .ok (.ifnull 17, 3) := by decide +kernel
theorem dX7_withdraw_21 : decode cX7_withdraw 21 = .ok (.aload_n 3, 1) := by decide +kernel
theorem dX7_withdraw_22 : decode cX7_withdraw 22 = .ok (.invokevirtual 141, 3) := by decide +kernel
theorem dX7_withdraw_25 : decode cX7_withdraw 25 = .ok (.ifCond .eq 10, 3) := by decide +kernel
theorem dX7_withdraw_28 : decode cX7_withdraw 28 = .ok (.aload_n 3, 1) := by decide +kernel
theorem dX7_withdraw_29 : decode cX7_withdraw 29 = .ok (.getfield 115, 3) := by decide +kernel
theorem dX7_withdraw_32 : decode cX7_withdraw 32 = .ok (.ifnonnull 6, 3) := by decide +kernel
theorem dX7_withdraw_35 : decode cX7_withdraw 35 = .ok (.bipush (-2), 2) := by decide +kernel
theorem dX7_withdraw_37 : decode cX7_withdraw 37 = .ok (.ireturn, 1) := by decide +kernel
theorem dX7_withdraw_38 : decode cX7_withdraw 38 = .ok (.aload_n 0, 1) := by decide +kernel
theorem dX7_withdraw_39 : decode cX7_withdraw 39 = .ok (.getfield 18, 3) := by decide +kernel
theorem dX7_withdraw_42 : decode cX7_withdraw 42 = .ok (.invokevirtual 74, 3) := by decide +kernel
theorem dX7_withdraw_45 : decode cX7_withdraw 45 = .ok (.ifCond .eq 6, 3) := by decide +kernel
theorem dX7_withdraw_48 : decode cX7_withdraw 48 = .ok (.bipush (-8), 2) := by decide +kernel
theorem dX7_withdraw_50 : decode cX7_withdraw 50 = .ok (.ireturn, 1) := by decide +kernel
theorem dX7_withdraw_51 : decode cX7_withdraw 51 = .ok (.aload_n 0, 1) := by decide +kernel
theorem dX7_withdraw_52 : decode cX7_withdraw 52 = .ok (.getfield 18, 3) := by decide +kernel
theorem dX7_withdraw_55 : decode cX7_withdraw 55 = .ok (.iload_n 1, 1) := by decide +kernel
theorem dX7_withdraw_56 : decode cX7_withdraw 56 = .ok (.aload_n 3, 1) := by decide +kernel
theorem dX7_withdraw_57 : decode cX7_withdraw 57 = .ok (.getfield 115, 3) := by decide +kernel
theorem dX7_withdraw_60 : decode cX7_withdraw 60 = .ok (.invokevirtual 91, 3) := by decide +kernel
theorem dX7_withdraw_63 : decode cX7_withdraw 63 = .ok (.astore 4, 2) := by decide +kernel
theorem dX7_withdraw_65 : decode cX7_withdraw 65 = .ok (.aload 4, 2) := by decide +kernel
theorem dX7_withdraw_67 : decode cX7_withdraw 67 = .ok (.ifnonnull 6, 3) := by decide +kernel
theorem dX7_withdraw_70 : decode cX7_withdraw 70 = .ok (.bipush (-6), 2) := by decide +kernel
theorem dX7_withdraw_72 : decode cX7_withdraw 72 = .ok (.ireturn, 1) := by decide +kernel
theorem dX7_withdraw_73 : decode cX7_withdraw 73 = .ok (.aload_n 3, 1) := by decide +kernel
theorem dX7_withdraw_74 : decode cX7_withdraw 74 = .ok (.aload 4, 2) := by decide +kernel
theorem dX7_withdraw_76 : decode cX7_withdraw 76 = .ok (.if_acmp .eq 19, 3) := by decide +kernel
theorem dX7_withdraw_79 : decode cX7_withdraw 79 = .ok (.aload_n 3, 1) := by decide +kernel
theorem dX7_withdraw_80 : decode cX7_withdraw 80 = .ok (.aload 4, 2) := by decide +kernel
theorem dX7_withdraw_82 : decode cX7_withdraw 82 = .ok (.aload_n 0, 1) := by decide +kernel
theorem dX7_withdraw_83 : decode cX7_withdraw 83 = .ok (.getfield 67, 3) := by decide +kernel
theorem dX7_withdraw_86 : decode cX7_withdraw 86 = .ok (.invokevirtual 119, 3) := by decide +kernel
theorem dX7_withdraw_89 : decode cX7_withdraw 89 = .ok (.ifCond .ne 6, 3) := by decide +kernel
theorem dX7_withdraw_92 : decode cX7_withdraw 92 = .ok (.bipush (-7), 2) := by decide +kernel
theorem dX7_withdraw_94 : decode cX7_withdraw 94 = .ok (.ireturn, 1) := by decide +kernel
theorem dX7_withdraw_95 : decode cX7_withdraw 95 = .ok (.aload_n 3, 1) := by decide +kernel
theorem dX7_withdraw_96 : decode cX7_withdraw 96 = .ok (.getfield 144, 3) := by decide +kernel
theorem dX7_withdraw_99 : decode cX7_withdraw 99 = .ok (.ifnull 6, 3) := by decide +kernel
theorem dX7_withdraw_102 : decode cX7_withdraw 102 = .ok (.bipush (-4), 2) := by decide +kernel
theorem dX7_withdraw_104 : decode cX7_withdraw 104 = .ok (.ireturn, 1) := by decide +kernel
theorem dX7_withdraw_105 : decode cX7_withdraw 105 = .ok (.aload_n 0, 1) := by decide +kernel
theorem dX7_withdraw_106 : decode cX7_withdraw 106 = .ok (.getfield 18, 3) := by decide +kernel
theorem dX7_withdraw_109 : decode cX7_withdraw 109 = .ok (.iconst 5, 1) := by decide +kernel
theorem dX7_withdraw_110 : decode cX7_withdraw 110 = .ok (.iload_n 1, 1) := by decide +kernel
theorem dX7_withdraw_111 : decode cX7_withdraw 111 = .ok (.aload_n 3, 1) := by decide +kernel
theorem dX7_withdraw_112 : decode cX7_withdraw 112 = .ok (.getfield 115, 3) := by decide +kernel
theorem dX7_withdraw_115 : decode cX7_withdraw 115 = .ok (.aload_n 0, 1) := by decide +kernel
theorem dX7_withdraw_116 : decode cX7_withdraw 116 = .ok (.getfield 67, 3) := by decide +kernel
theorem dX7_withdraw_119 : decode cX7_withdraw 119 = .ok (.aload_n 0, 1) := by decide +kernel
theorem dX7_withdraw_120 : decode cX7_withdraw 120 = .ok (.getfield 67, 3) := by decide +kernel
theorem dX7_withdraw_123 : decode cX7_withdraw 123 = .ok (.aload_n 3, 1) := by decide +kernel
theorem dX7_withdraw_124 : decode cX7_withdraw 124 = .ok (.getfield 115, 3) := by decide +kernel
theorem dX7_withdraw_127 : decode cX7_withdraw 127 = .ok (.getfield 95, 3) := by decide +kernel
theorem dX7_withdraw_130 : decode cX7_withdraw 130 = .ok (.iadd, 1) := by decide +kernel
theorem dX7_withdraw_131 : decode cX7_withdraw 131 = .ok (.invokevirtual 82, 3) := by decide +kernel
theorem dX7_withdraw_134 : decode cX7_withdraw 134 = .ok (.astore 5, 2) := by decide +kernel
theorem dX7_withdraw_136 : decode cX7_withdraw 136 = .ok (.aload 5, 2) := by decide +kernel
theorem dX7_withdraw_138 : decode cX7_withdraw 138 = .ok (.aload_n 3, 1) := by decide +kernel
theorem dX7_withdraw_139 : decode cX7_withdraw 139 = .ok (.invokevirtual 147, 3) := by decide +kernel
theorem dX7_withdraw_142 : decode cX7_withdraw 142 = .ok (.aload 5, 2) := by decide +kernel
theorem dX7_withdraw_144 : decode cX7_withdraw 144 = .ok (.getfield 86, 3) := by decide +kernel
theorem dX7_withdraw_147 : decode cX7_withdraw 147 = .ok (.ireturn, 1) := by decide +kernel
theorem dX7_change_0 : decode cX7_change 0 = .ok (.aload_n 0, 1) := by decide +kernel
theorem dX7_change_1 : decode cX7_change 1 = .ok (.iload_n 2, 1) := by decide +kernel
theorem dX7_change_2 : decode cX7_change 2 = .ok (.invokevirtual 50, 3) := by decide +kernel
theorem dX7_change_5 : decode cX7_change 5 = .ok (.astore 5, 2) := by decide +kernel
theorem dX7_change_7 : decode cX7_change 7 = .ok (.aload_n 0, 1) := by decide +kernel
theorem dX7_change_8 : decode cX7_change 8 = .ok (.iload_n 1, 1) := by decide +kernel
theorem dX7_change_9 : decode cX7_change 9 = .ok (.invokevirtual 71, 3) := by decide +kernel
theorem dX7_change_12 : decode cX7_change 12 = .ok (.ifCond .eq 28, 3) := by decide +kernel
theorem dX7_change_15 : decode cX7_change 15 = .ok (.aload 5, 2) := by decide +kernel
theorem dX7_change_17 : decode cX7_change 17 = .ok (.ifnull 23, 3) := by decide +kernel
theorem dX7_change_20 : decode cX7_change 20 = .ok (.aload 5, 2) := by decide +kernel
theorem dX7_change_22 : decode cX7_change 22 = .ok (.iload_n 3, 1) := by decide +kernel
theorem dX7_change_23 : decode cX7_change 23 = .ok (.invokevirtual 54, 3) := by decide +kernel
theorem dX7_change_26 : decode cX7_change 26 = .ok (.ifCond .eq 14, 3) := by decide +kernel
theorem dX7_change_29 : decode cX7_change 29 = .ok (.iconst 1, 1) := by decide +kernel
theorem dX7_change_30 : decode cX7_change 30 = .ok (.ldc 58, 2) := by decide +kernel
theorem dX7_change_32 : decode cX7_change 32 = .ok (.iload 4, 2) := by decide +kernel
theorem dX7_change_34 : decode cX7_change 34 = .ok (.invokestatic 43, 3) := by decide +kernel
theorem dX7_change_37 : decode cX7_change 37 = .ok (.ifCond .ne 6, 3) := by decide +kernel
theorem dX7_change_40 : decode cX7_change 40 = .ok (.bipush (-2), 2) := by decide +kernel
theorem dX7_change_42 : decode cX7_change 42 = .ok (.ireturn, 1) := by decide +kernel
theorem dX7_change_43 : decode cX7_change 43 = .ok (.aload_n 0, 1) := by decide +kernel
theorem dX7_change_44 : decode cX7_change 44 = .ok (.getfield 18, 3) := by decide +kernel
theorem dX7_change_47 : decode cX7_change 47 = .ok (.invokevirtual 74, 3) := by decide +kernel
theorem dX7_change_50 : decode cX7_change 50 = .ok (.ifCond .eq 6, 3) := by decide +kernel
theorem dX7_change_53 : decode cX7_change 53 = .ok (.bipush (-8), 2) := by decide +kernel
theorem dX7_change_55 : decode cX7_change 55 = .ok (.ireturn, 1) := by decide +kernel
theorem dX7_change_56 : decode cX7_change 56 = .ok (.aload_n 0, 1) := by decide +kernel
theorem dX7_change_57 : decode cX7_change 57 = .ok (.getfield 18, 3) := by decide +kernel
theorem dX7_change_60 : decode cX7_change 60 = .ok (.iload_n 1, 1) := by decide +kernel
theorem dX7_change_61 : decode cX7_change 61 = .ok (.aload 5, 2) := by decide +kernel
theorem dX7_change_63 : decode cX7_change 63 = .ok (.invokevirtual 91, 3) := by decide +kernel
theorem dX7_change_66 : decode cX7_change 66 = .ok (.astore 6, 2) := by decide +kernel
theorem dX7_change_68 : decode cX7_change 68 = .ok (.aload 6, 2) := by decide +kernel
theorem dX7_change_70 : decode cX7_change 70 = .ok (.ifnonnull 6, 3) := by decide +kernel
theorem dX7_change_73 : decode cX7_change 73 = .ok (.bipush (-6), 2) := by decide +kernel
theorem dX7_change_75 : decode cX7_change 75 = .ok (.ireturn, 1) := by decide +kernel
theorem dX7_change_76 : decode cX7_change 76 = .ok (.aload_n 0, 1) := by decide +kernel
theorem dX7_change_77 : decode cX7_change 77 = .ok (.getfield 18, 3) := by decide +kernel
theorem dX7_change_80 : decode cX7_change 80 = .ok (.bipush 6, 2) := by decide +kernel
theorem dX7_change_82 : decode cX7_change 82 = .ok (.iload_n 1, 1) := by decide +kernel
theorem dX7_change_83 : decode cX7_change 83 = .ok (.aload 5, 2) := by decide +kernel
theorem dX7_change_85 : decode cX7_change 85 = .ok (.aload_n 0, 1) := by decide +kernel
theorem dX7_change_86 : decode cX7_change 86 = .ok (.getfield 67, 3) := by decide +kernel
theorem dX7_change_89 : decode cX7_change 89 = .ok (.aload_n 0, 1) := by decide +kernel
theorem dX7_change_90 : decode cX7_change 90 = .ok (.getfield 67, 3) := by decide +kernel
theorem dX7_change_93 : decode cX7_change 93 = .ok (.invokevirtual 82, 3) := by decide +kernel
theorem dX7_change_96 : decode cX7_change 96 = .ok (.astore 7, 2) := by decide +kernel
theorem dX7_change_98 : decode cX7_change 98 = .ok (.aload 7, 2) := by decide +kernel
theorem dX7_change_100 : decode cX7_change 100 = .ok (.aload 6, 2) := by decide +kernel
theorem dX7_change_102 : decode cX7_change 102 = .ok (.putfield 98, 3) := by decide +kernel
theorem dX7_change_105 : decode cX7_change 105 = .ok (.aload 7, 2) := by decide +kernel
theorem dX7_change_107 : decode cX7_change 107 = .ok (.iload_n 3, 1) := by decide +kernel
theorem dX7_change_108 : decode cX7_change 108 = .ok (.putfield 102, 3) := by decide +kernel
theorem dX7_change_111 : decode cX7_change 111 = .ok (.aload 7, 2) := by decide +kernel
theorem dX7_change_113 : decode cX7_change 113 = .ok (.iload 4, 2) := by decide +kernel
theorem dX7_change_115 : decode cX7_change 115 = .ok (.putfield 105, 3) := by decide +kernel
theorem dX7_change_118 : decode cX7_change 118 = .ok (.aload 7, 2) := by decide +kernel
theorem dX7_change_120 : decode cX7_change 120 = .ok (.getfield 86, 3) := by decide +kernel
theorem dX7_change_123 : decode cX7_change 123 = .ok (.ireturn, 1) := by decide +kernel
theorem dX7_consent_0 : decode cX7_consent 0 = .ok (.aload_n 0, 1) := by decide +kernel
theorem dX7_consent_1 : decode cX7_consent 1 = .ok (.getfield 18, 3) := by decide +kernel
theorem dX7_consent_4 : decode cX7_consent 4 = .ok (.iload_n 2, 1) := by decide +kernel
theorem dX7_consent_5 : decode cX7_consent 5 = .ok (.invokevirtual 108, 3) := by decide +kernel
theorem dX7_consent_8 : decode cX7_consent 8 = .ok (.astore_n 3, 1) := by decide +kernel
theorem dX7_consent_9 : decode cX7_consent 9 = .ok (.aload_n 0, 1) := by decide +kernel
theorem dX7_consent_10 : decode cX7_consent 10 = .ok (.iload_n 1, 1) := by decide +kernel
theorem dX7_consent_11 : decode cX7_consent 11 = .ok (.invokevirtual 71, 3) := by decide +kernel
theorem dX7_consent_14 : decode cX7_consent 14 = .ok (.ifCond .eq 23, 3) := by decide +kernel
theorem dX7_consent_17 : decode cX7_consent 17 = .ok (.aload_n 3, 1) := by decide +kernel
theorem dX7_consent_18 : decode cX7_consent 18 = .ok (.ifnull 19, 3) := by decide +kernel
theorem dX7_consent_21 : decode cX7_consent 21 = .ok (.aload_n 3, 1) := by decide +kernel
theorem dX7_consent_22 : decode cX7_consent 22 = .ok (.getfield 112, 3) := by decide +kernel
theorem dX7_consent_25 : decode cX7_consent 25 = .ok (.bipush 6, 2) := by decide +kernel
theorem dX7_consent_27 : decode cX7_consent 27 = .ok (.if_icmp .ne 10, 3) := by decide +kernel
theorem dX7_consent_30 : decode cX7_consent 30 = .ok (.aload_n 3, 1) := by decide +kernel
theorem dX7_consent_31 : decode cX7_consent 31 = .ok (.getfield 115, 3) := by decide +kernel
theorem dX7_consent_34 : decode cX7_consent 34 = .ok (.ifnonnull 6, 3) := by decide +kernel
theorem dX7_consent_37 : decode cX7_consent 37 = .ok (.bipush (-2), 2) := by decide +kernel
theorem dX7_consent_39 : decode cX7_consent 39 = .ok (.ireturn, 1) := by decide +kernel
theorem dX7_consent_40 : decode cX7_consent 40 = .ok (.aload_n 0, 1) := by decide +kernel
theorem dX7_consent_41 : decode cX7_consent 41 = .ok (.getfield 18, 3) := by decide +kernel
theorem dX7_consent_44 : decode cX7_consent 44 = .ok (.invokevirtual 74, 3) := by decide +kernel
theorem dX7_consent_47 : decode cX7_consent 47 = .ok (.ifCond .eq 6, 3) := by decide +kernel
theorem dX7_consent_50 : decode cX7_consent 50 = .ok (.bipush (-8), 2) := by decide +kernel
theorem dX7_consent_52 : decode cX7_consent 52 = .ok (.ireturn, 1) := by decide +kernel
theorem dX7_consent_53 : decode cX7_consent 53 = .ok (.aload_n 0, 1) := by decide +kernel
theorem dX7_consent_54 : decode cX7_consent 54 = .ok (.getfield 18, 3) := by decide +kernel
theorem dX7_consent_57 : decode cX7_consent 57 = .ok (.iload_n 1, 1) := by decide +kernel
theorem dX7_consent_58 : decode cX7_consent 58 = .ok (.aload_n 3, 1) := by decide +kernel
theorem dX7_consent_59 : decode cX7_consent 59 = .ok (.getfield 115, 3) := by decide +kernel
theorem dX7_consent_62 : decode cX7_consent 62 = .ok (.invokevirtual 91, 3) := by decide +kernel
theorem dX7_consent_65 : decode cX7_consent 65 = .ok (.astore 4, 2) := by decide +kernel
theorem dX7_consent_67 : decode cX7_consent 67 = .ok (.aload 4, 2) := by decide +kernel
theorem dX7_consent_69 : decode cX7_consent 69 = .ok (.ifnonnull 6, 3) := by decide +kernel
theorem dX7_consent_72 : decode cX7_consent 72 = .ok (.bipush (-6), 2) := by decide +kernel
theorem dX7_consent_74 : decode cX7_consent 74 = .ok (.ireturn, 1) := by decide +kernel
theorem dX7_consent_75 : decode cX7_consent 75 = .ok (.aload_n 3, 1) := by decide +kernel
theorem dX7_consent_76 : decode cX7_consent 76 = .ok (.aload 4, 2) := by decide +kernel
theorem dX7_consent_78 : decode cX7_consent 78 = .ok (.invokevirtual 129, 3) := by decide +kernel
theorem dX7_consent_81 : decode cX7_consent 81 = .ok (.ifCond .eq 6, 3) := by decide +kernel
theorem dX7_consent_84 : decode cX7_consent 84 = .ok (.bipush (-4), 2) := by decide +kernel
theorem dX7_consent_86 : decode cX7_consent 86 = .ok (.ireturn, 1) := by decide +kernel
theorem dX7_consent_87 : decode cX7_consent 87 = .ok (.aload_n 0, 1) := by decide +kernel
theorem dX7_consent_88 : decode cX7_consent 88 = .ok (.getfield 18, 3) := by decide +kernel
theorem dX7_consent_91 : decode cX7_consent 91 = .ok (.bipush 7, 2) := by decide +kernel
theorem dX7_consent_93 : decode cX7_consent 93 = .ok (.iload_n 1, 1) := by decide +kernel
theorem dX7_consent_94 : decode cX7_consent 94 = .ok (.aload_n 3, 1) := by decide +kernel
theorem dX7_consent_95 : decode cX7_consent 95 = .ok (.getfield 115, 3) := by decide +kernel
theorem dX7_consent_98 : decode cX7_consent 98 = .ok (.aload_n 0, 1) := by decide +kernel
theorem dX7_consent_99 : decode cX7_consent 99 = .ok (.getfield 67, 3) := by decide +kernel
theorem dX7_consent_102 : decode cX7_consent 102 = .ok (.aload_n 0, 1) := by decide +kernel
theorem dX7_consent_103 : decode cX7_consent 103 = .ok (.getfield 67, 3) := by decide +kernel
theorem dX7_consent_106 : decode cX7_consent 106 = .ok (.aload_n 3, 1) := by decide +kernel
theorem dX7_consent_107 : decode cX7_consent 107 = .ok (.getfield 115, 3) := by decide +kernel
theorem dX7_consent_110 : decode cX7_consent 110 = .ok (.getfield 95, 3) := by decide +kernel
theorem dX7_consent_113 : decode cX7_consent 113 = .ok (.iadd, 1) := by decide +kernel
theorem dX7_consent_114 : decode cX7_consent 114 = .ok (.invokevirtual 82, 3) := by decide +kernel
theorem dX7_consent_117 : decode cX7_consent 117 = .ok (.astore 5, 2) := by decide +kernel
theorem dX7_consent_119 : decode cX7_consent 119 = .ok (.aload 5, 2) := by decide +kernel
theorem dX7_consent_121 : decode cX7_consent 121 = .ok (.aload 4, 2) := by decide +kernel
theorem dX7_consent_123 : decode cX7_consent 123 = .ok (.putfield 98, 3) := by decide +kernel
theorem dX7_consent_126 : decode cX7_consent 126 = .ok (.aload 5, 2) := by decide +kernel
theorem dX7_consent_128 : decode cX7_consent 128 = .ok (.aload_n 3, 1) := by decide +kernel
theorem dX7_consent_129 : decode cX7_consent 129 = .ok (.invokevirtual 137, 3) := by decide +kernel
theorem dX7_consent_132 : decode cX7_consent 132 = .ok (.aload 5, 2) := by decide +kernel
theorem dX7_consent_134 : decode cX7_consent 134 = .ok (.getfield 86, 3) := by decide +kernel
theorem dX7_consent_137 : decode cX7_consent 137 = .ok (.ireturn, 1) := by decide +kernel
theorem dX7_follow_0 : decode cX7_follow 0 = .ok (.aload_n 0, 1) := by decide +kernel
theorem dX7_follow_1 : decode cX7_follow 1 = .ok (.iload_n 3, 1) := by decide +kernel
theorem dX7_follow_2 : decode cX7_follow 2 = .ok (.invokevirtual 50, 3) := by decide +kernel
theorem dX7_follow_5 : decode cX7_follow 5 = .ok (.astore 5, 2) := by decide +kernel
theorem dX7_follow_7 : decode cX7_follow 7 = .ok (.aload_n 0, 1) := by decide +kernel
theorem dX7_follow_8 : decode cX7_follow 8 = .ok (.iload_n 1, 1) := by decide +kernel
theorem dX7_follow_9 : decode cX7_follow 9 = .ok (.invokevirtual 71, 3) := by decide +kernel
theorem dX7_follow_12 : decode cX7_follow 12 = .ok (.ifCond .eq 16, 3) := by decide +kernel
theorem dX7_follow_15 : decode cX7_follow 15 = .ok (.aload_n 0, 1) := by decide +kernel
theorem dX7_follow_16 : decode cX7_follow 16 = .ok (.iload_n 2, 1) := by decide +kernel
theorem dX7_follow_17 : decode cX7_follow 17 = .ok (.invokevirtual 71, 3) := by decide +kernel
theorem dX7_follow_20 : decode cX7_follow 20 = .ok (.ifCond .eq 8, 3) := by decide +kernel
theorem dX7_follow_23 : decode cX7_follow 23 = .ok (.aload 5, 2) := by decide +kernel
theorem dX7_follow_25 : decode cX7_follow 25 = .ok (.ifnonnull 6, 3) := by decide +kernel
theorem dX7_follow_28 : decode cX7_follow 28 = .ok (.bipush (-2), 2) := by decide +kernel
theorem dX7_follow_30 : decode cX7_follow 30 = .ok (.ireturn, 1) := by decide +kernel
theorem dX7_follow_31 : decode cX7_follow 31 = .ok (.aload_n 0, 1) := by decide +kernel
theorem dX7_follow_32 : decode cX7_follow 32 = .ok (.getfield 18, 3) := by decide +kernel
theorem dX7_follow_35 : decode cX7_follow 35 = .ok (.invokevirtual 74, 3) := by decide +kernel
theorem dX7_follow_38 : decode cX7_follow 38 = .ok (.ifCond .eq 6, 3) := by decide +kernel
theorem dX7_follow_41 : decode cX7_follow 41 = .ok (.bipush (-8), 2) := by decide +kernel
theorem dX7_follow_43 : decode cX7_follow 43 = .ok (.ireturn, 1) := by decide +kernel
theorem dX7_follow_44 : decode cX7_follow 44 = .ok (.iload_n 1, 1) := by decide +kernel
theorem dX7_follow_45 : decode cX7_follow 45 = .ok (.iload_n 2, 1) := by decide +kernel
theorem dX7_follow_46 : decode cX7_follow 46 = .ok (.if_icmp .eq 16, 3) := by decide +kernel
theorem dX7_follow_49 : decode cX7_follow 49 = .ok (.aload_n 0, 1) := by decide +kernel
theorem dX7_follow_50 : decode cX7_follow 50 = .ok (.getfield 18, 3) := by decide +kernel
theorem dX7_follow_53 : decode cX7_follow 53 = .ok (.iload_n 1, 1) := by decide +kernel
theorem dX7_follow_54 : decode cX7_follow 54 = .ok (.aload 5, 2) := by decide +kernel
theorem dX7_follow_56 : decode cX7_follow 56 = .ok (.invokevirtual 91, 3) := by decide +kernel
theorem dX7_follow_59 : decode cX7_follow 59 = .ok (.ifnull 6, 3) := by decide +kernel
theorem dX7_follow_62 : decode cX7_follow 62 = .ok (.bipush (-4), 2) := by decide +kernel
theorem dX7_follow_64 : decode cX7_follow 64 = .ok (.ireturn, 1) := by decide +kernel
theorem dX7_follow_65 : decode cX7_follow 65 = .ok (.aload_n 0, 1) := by decide +kernel
theorem dX7_follow_66 : decode cX7_follow 66 = .ok (.getfield 18, 3) := by decide +kernel
theorem dX7_follow_69 : decode cX7_follow 69 = .ok (.iload_n 2, 1) := by decide +kernel
theorem dX7_follow_70 : decode cX7_follow 70 = .ok (.aload 5, 2) := by decide +kernel
theorem dX7_follow_72 : decode cX7_follow 72 = .ok (.invokevirtual 91, 3) := by decide +kernel
theorem dX7_follow_75 : decode cX7_follow 75 = .ok (.astore 6, 2) := by decide +kernel
theorem dX7_follow_77 : decode cX7_follow 77 = .ok (.aload 6, 2) := by decide +kernel
theorem dX7_follow_79 : decode cX7_follow 79 = .ok (.ifnonnull 6, 3) := by decide +kernel
theorem dX7_follow_82 : decode cX7_follow 82 = .ok (.bipush (-6), 2) := by decide +kernel
theorem dX7_follow_84 : decode cX7_follow 84 = .ok (.ireturn, 1) := by decide +kernel
theorem dX7_follow_85 : decode cX7_follow 85 = .ok (.aload_n 0, 1) := by decide +kernel
theorem dX7_follow_86 : decode cX7_follow 86 = .ok (.getfield 18, 3) := by decide +kernel
theorem dX7_follow_89 : decode cX7_follow 89 = .ok (.bipush 8, 2) := by decide +kernel
theorem dX7_follow_91 : decode cX7_follow 91 = .ok (.iload_n 1, 1) := by decide +kernel
theorem dX7_follow_92 : decode cX7_follow 92 = .ok (.aload 5, 2) := by decide +kernel
theorem dX7_follow_94 : decode cX7_follow 94 = .ok (.aload_n 0, 1) := by decide +kernel
theorem dX7_follow_95 : decode cX7_follow 95 = .ok (.getfield 67, 3) := by decide +kernel
theorem dX7_follow_98 : decode cX7_follow 98 = .ok (.aload_n 0, 1) := by decide +kernel
theorem dX7_follow_99 : decode cX7_follow 99 = .ok (.getfield 67, 3) := by decide +kernel
theorem dX7_follow_102 : decode cX7_follow 102 = .ok (.aload 5, 2) := by decide +kernel
theorem dX7_follow_104 : decode cX7_follow 104 = .ok (.getfield 95, 3) := by decide +kernel
theorem dX7_follow_107 : decode cX7_follow 107 = .ok (.iadd, 1) := by decide +kernel
theorem dX7_follow_108 : decode cX7_follow 108 = .ok (.invokevirtual 82, 3) := by decide +kernel
theorem dX7_follow_111 : decode cX7_follow 111 = .ok (.astore 7, 2) := by decide +kernel
theorem dX7_follow_113 : decode cX7_follow 113 = .ok (.aload 7, 2) := by decide +kernel
theorem dX7_follow_115 : decode cX7_follow 115 = .ok (.iload 4, 2) := by decide +kernel
theorem dX7_follow_117 : decode cX7_follow 117 = .ok (.putfield 133, 3) := by decide +kernel
theorem dX7_follow_120 : decode cX7_follow 120 = .ok (.aload 7, 2) := by decide +kernel
theorem dX7_follow_122 : decode cX7_follow 122 = .ok (.aload 6, 2) := by decide +kernel
theorem dX7_follow_124 : decode cX7_follow 124 = .ok (.invokevirtual 147, 3) := by decide +kernel
theorem dX7_follow_127 : decode cX7_follow 127 = .ok (.aload 7, 2) := by decide +kernel
theorem dX7_follow_129 : decode cX7_follow 129 = .ok (.getfield 86, 3) := by decide +kernel
theorem dX7_follow_132 : decode cX7_follow 132 = .ok (.ireturn, 1) := by decide +kernel
