theorem dX2_citeSources_0 : decode cX2_citeSources 0 = .ok (.aload_n 0, 1) := by decide +kernel
theorem dX2_citeSources_1 : decode cX2_citeSources 1 = .ok (.getfield 28, 3) := by decide +kernel
theorem dX2_citeSources_4 : decode cX2_citeSources 4 = .ok (.arraylength, 1) := by decide +kernel
theorem dX2_citeSources_5 : decode cX2_citeSources 5 = .ok (.iconst 1, 1) := by decide +kernel
theorem dX2_citeSources_6 : decode cX2_citeSources 6 = .ok (.isub, 1) := by decide +kernel
theorem dX2_citeSources_7 : decode cX2_citeSources 7 = .ok (.istore_n 2, 1) := by decide +kernel
theorem dX2_citeSources_8 : decode cX2_citeSources 8 = .ok (.iload_n 2, 1) := by decide +kernel
theorem dX2_citeSources_9 : decode cX2_citeSources 9 = .ok (.ifCond .lt 61, 3) := by decide +kernel
theorem dX2_citeSources_12 : decode cX2_citeSources 12 = .ok (.aload_n 0, 1) := by decide +kernel
theorem dX2_citeSources_13 : decode cX2_citeSources 13 = .ok (.getfield 28, 3) := by decide +kernel
theorem dX2_citeSources_16 : decode cX2_citeSources 16 = .ok (.iload_n 2, 1) := by decide +kernel
theorem dX2_citeSources_17 : decode cX2_citeSources 17 = .ok (.baload, 1) := by decide +kernel
theorem dX2_citeSources_18 : decode cX2_citeSources 18 = .ok (.ifCond .eq 11, 3) := by decide +kernel
theorem dX2_citeSources_21 : decode cX2_citeSources 21 = .ok (.aload_n 1, 1) := by decide +kernel
theorem dX2_citeSources_22 : decode cX2_citeSources 22 = .ok (.iload_n 2, 1) := by decide +kernel
theorem dX2_citeSources_23 : decode cX2_citeSources 23 = .ok (.invokevirtual 105, 3) := by decide +kernel
theorem dX2_citeSources_26 : decode cX2_citeSources 26 = .ok (.goto 4, 3) := by decide +kernel
theorem dX2_citeSources_29 : decode cX2_citeSources 29 = .ok (.aconst_null, 1) := by decide +kernel
theorem dX2_citeSources_30 : decode cX2_citeSources 30 = .ok (.astore_n 3, 1) := by decide +kernel
theorem dX2_citeSources_31 : decode cX2_citeSources 31 = .ok (.aload_n 3, 1) := by decide +kernel
theorem dX2_citeSources_32 : decode cX2_citeSources 32 = .ok (.ifnull 32, 3) := by decide +kernel
theorem dX2_citeSources_35 : decode cX2_citeSources 35 = .ok (.aload_n 0, 1) := by decide +kernel
theorem dX2_citeSources_36 : decode cX2_citeSources 36 = .ok (.aload_n 3, 1) := by decide +kernel
theorem dX2_citeSources_37 : decode cX2_citeSources 37 = .ok (.getfield 160, 3) := by decide +kernel
theorem dX2_citeSources_40 : decode cX2_citeSources 40 = .ok (.invokevirtual 145, 3) := by decide +kernel
theorem dX2_citeSources_43 : decode cX2_citeSources 43 = .ok (.aload_n 0, 1) := by decide +kernel
theorem dX2_citeSources_44 : decode cX2_citeSources 44 = .ok (.aload_n 3, 1) := by decide +kernel
theorem dX2_citeSources_45 : decode cX2_citeSources 45 = .ok (.getfield 106, 3) := by decide +kernel
theorem dX2_citeSources_48 : decode cX2_citeSources 48 = .ok (.bipush 8, 2) := by decide +kernel
theorem dX2_citeSources_50 : decode cX2_citeSources 50 = .ok (.if_icmp .ne 10, 3) := by decide +kernel
theorem dX2_citeSources_53 : decode cX2_citeSources 53 = .ok (.aload_n 3, 1) := by decide +kernel
theorem dX2_citeSources_54 : decode cX2_citeSources 54 = .ok (.getfield 64, 3) := by decide +kernel
theorem dX2_citeSources_57 : decode cX2_citeSources 57 = .ok (.goto 4, 3) := by decide +kernel
theorem dX2_citeSources_60 : decode cX2_citeSources 60 = .ok (.aconst_null, 1) := by decide +kernel
theorem dX2_citeSources_61 : decode cX2_citeSources 61 = .ok (.invokevirtual 145, 3) := by decide +kernel
theorem dX2_citeSources_64 : decode cX2_citeSources 64 = .ok (.iinc 2 (-1), 3) := by decide +kernel
theorem dX2_citeSources_67 : decode cX2_citeSources 67 = .ok (.goto (-59), 3) := by decide +kernel
theorem dX2_citeSources_70 : decode cX2_citeSources 70 = .ok (.return_, 1) := by decide +kernel
theorem dX2_nthCited_0 : decode cX2_nthCited 0 = .ok (.iload_n 1, 1) := by decide +kernel
theorem dX2_nthCited_1 : decode cX2_nthCited 1 = .ok (.istore_n 2, 1) := by decide +kernel
theorem dX2_nthCited_2 : decode cX2_nthCited 2 = .ok (.iconst 0, 1) := by decide +kernel
theorem dX2_nthCited_3 : decode cX2_nthCited 3 = .ok (.istore_n 3, 1) := by decide +kernel
theorem dX2_nthCited_4 : decode cX2_nthCited 4 = .ok (.iload_n 3, 1) := by decide +kernel
theorem dX2_nthCited_5 : decode cX2_nthCited 5 = .ok (.aload_n 0, 1) := by decide +kernel
theorem dX2_nthCited_6 : decode cX2_nthCited 6 = .ok (.getfield 28, 3) := by decide +kernel
theorem dX2_nthCited_9 : decode cX2_nthCited 9 = .ok (.arraylength, 1) := by decide +kernel
theorem dX2_nthCited_10 : decode cX2_nthCited 10 = .ok (.if_icmp .ge 31, 3) := by decide +kernel
theorem dX2_nthCited_13 : decode cX2_nthCited 13 = .ok (.iload_n 2, 1) := by decide +kernel
theorem dX2_nthCited_14 : decode cX2_nthCited 14 = .ok (.ifCond .lt 27, 3) := by decide +kernel
theorem dX2_nthCited_17 : decode cX2_nthCited 17 = .ok (.aload_n 0, 1) := by decide +kernel
theorem dX2_nthCited_18 : decode cX2_nthCited 18 = .ok (.getfield 28, 3) := by decide +kernel
theorem dX2_nthCited_21 : decode cX2_nthCited 21 = .ok (.iload_n 3, 1) := by decide +kernel
theorem dX2_nthCited_22 : decode cX2_nthCited 22 = .ok (.baload, 1) := by decide +kernel
theorem dX2_nthCited_23 : decode cX2_nthCited 23 = .ok (.ifCond .eq 12, 3) := by decide +kernel
theorem dX2_nthCited_26 : decode cX2_nthCited 26 = .ok (.iload_n 2, 1) := by decide +kernel
theorem dX2_nthCited_27 : decode cX2_nthCited 27 = .ok (.ifCond .ne 5, 3) := by decide +kernel
theorem dX2_nthCited_30 : decode cX2_nthCited 30 = .ok (.iload_n 3, 1) := by decide +kernel
theorem dX2_nthCited_31 : decode cX2_nthCited 31 = .ok (.ireturn, 1) := by decide +kernel
theorem dX2_nthCited_32 : decode cX2_nthCited 32 = .ok (.iinc 2 (-1), 3) := by decide +kernel
theorem dX2_nthCited_35 : decode cX2_nthCited 35 = .ok (.iinc 3 1, 3) := by decide +kernel
theorem dX2_nthCited_38 : decode cX2_nthCited 38 = .ok (.goto (-34), 3) := by decide +kernel
theorem dX2_nthCited_41 : decode cX2_nthCited 41 = .ok (.iconst (-1), 1) := by decide +kernel
theorem dX2_nthCited_42 : decode cX2_nthCited 42 = .ok (.ireturn, 1) := by decide +kernel
theorem dX3_init_0 : decode cX3_init 0 = .ok (.aload_n 0, 1) := by decide +kernel
theorem dX3_init_1 : decode cX3_init 1 = .ok (.invokespecial 3, 3) := by decide +kernel
theorem dX3_init_4 : decode cX3_init 4 = .ok (.aload_n 0, 1) := by decide +kernel
theorem dX3_init_5 : decode cX3_init 5 = .ok (.iconst (-1), 1) := by decide +kernel
theorem dX3_init_6 : decode cX3_init 6 = .ok (.putfield 9, 3) := by decide +kernel
theorem dX3_init_9 : decode cX3_init 9 = .ok (.aload_n 0, 1) := by decide +kernel
theorem dX3_init_10 : decode cX3_init 10 = .ok (.iconst (-1), 1) := by decide +kernel
theorem dX3_init_11 : decode cX3_init 11 = .ok (.putfield 15, 3) := by decide +kernel
theorem dX3_init_14 : decode cX3_init 14 = .ok (.aload_n 0, 1) := by decide +kernel
theorem dX3_init_15 : decode cX3_init 15 = .ok (.iload_n 1, 1) := by decide +kernel
theorem dX3_init_16 : decode cX3_init 16 = .ok (.putfield 18, 3) := by decide +kernel
theorem dX3_init_19 : decode cX3_init 19 = .ok (.aload_n 0, 1) := by decide +kernel
theorem dX3_init_20 : decode cX3_init 20 = .ok (.iload_n 2, 1) := by decide +kernel
theorem dX3_init_21 : decode cX3_init 21 = .ok (.putfield 21, 3) := by decide +kernel
theorem dX3_init_24 : decode cX3_init 24 = .ok (.aload_n 0, 1) := by decide +kernel
theorem dX3_init_25 : decode cX3_init 25 = .ok (.iload_n 3, 1) := by decide +kernel
theorem dX3_init_26 : decode cX3_init 26 = .ok (.putfield 24, 3) := by decide +kernel
theorem dX3_init_29 : decode cX3_init 29 = .ok (.aload_n 0, 1) := by decide +kernel
theorem dX3_init_30 : decode cX3_init 30 = .ok (.aload 4, 2) := by decide +kernel
theorem dX3_init_32 : decode cX3_init 32 = .ok (.putfield 27, 3) := by decide +kernel
theorem dX3_init_35 : decode cX3_init 35 = .ok (.aload_n 0, 1) := by decide +kernel
theorem dX3_init_36 : decode cX3_init 36 = .ok (.iload 5, 2) := by decide +kernel
theorem dX3_init_38 : decode cX3_init 38 = .ok (.putfield 31, 3) := by decide +kernel
theorem dX3_init_41 : decode cX3_init 41 = .ok (.aload_n 0, 1) := by decide +kernel
theorem dX3_init_42 : decode cX3_init 42 = .ok (.iload 6, 2) := by decide +kernel
theorem dX3_init_44 : decode cX3_init 44 = .ok (.putfield 34, 3) := by decide +kernel
theorem dX3_init_47 : decode cX3_init 47 = .ok (.return_, 1) := by decide +kernel
theorem dX3_isMembership_0 : decode cX3_isMembership 0 = .ok (.aload_n 0, 1) := by decide +kernel
theorem dX3_isMembership_1 : decode cX3_isMembership 1 = .ok (.getfield 21, 3) := by decide +kernel
theorem dX3_isMembership_4 : decode cX3_isMembership 4 = .ok (.iconst 1, 1) := by decide +kernel
theorem dX3_isMembership_5 : decode cX3_isMembership 5 = .ok (.if_icmp .eq 20, 3) := by decide +kernel
theorem dX3_isMembership_8 : decode cX3_isMembership 8 = .ok (.aload_n 0, 1) := by decide +kernel
theorem dX3_isMembership_9 : decode cX3_isMembership 9 = .ok (.getfield 21, 3) := by decide +kernel
theorem dX3_isMembership_12 : decode cX3_isMembership 12 = .ok (.iconst 2, 1) := by decide +kernel
theorem dX3_isMembership_13 : decode cX3_isMembership 13 = .ok (.if_icmp .eq 12, 3) := by decide +kernel
theorem dX3_isMembership_16 : decode cX3_isMembership 16 = .ok (.aload_n 0, 1) := by decide +kernel
theorem dX3_isMembership_17 : decode cX3_isMembership 17 = .ok (.getfield 21, 3) := by decide +kernel
theorem dX3_isMembership_20 : decode cX3_isMembership 20 = .ok (.bipush 8, 2) := by decide +kernel
theorem dX3_isMembership_22 : decode cX3_isMembership 22 = .ok (.if_icmp .ne 7, 3) := by decide +kernel
theorem dX3_isMembership_25 : decode cX3_isMembership 25 = .ok (.iconst 1, 1) := by decide +kernel
theorem dX3_isMembership_26 : decode cX3_isMembership 26 = .ok (.goto 4, 3) := by decide +kernel
theorem dX3_isMembership_29 : decode cX3_isMembership 29 = .ok (.iconst 0, 1) := by decide +kernel
theorem dX3_isMembership_30 : decode cX3_isMembership 30 = .ok (.ireturn, 1) := by decide +kernel
theorem dX3_isWithdrawable_0 : decode cX3_isWithdrawable 0 = .ok (.aload_n 0, 1) := by decide +kernel
theorem dX3_isWithdrawable_1 : decode cX3_isWithdrawable 1 = .ok (.invokevirtual 37, 3) := by decide +kernel
theorem dX3_isWithdrawable_4 : decode cX3_isWithdrawable 4 = .ok (.ifCond .ne 28, 3) := by decide +kernel
theorem dX3_isWithdrawable_7 : decode cX3_isWithdrawable 7 = .ok (.aload_n 0, 1) := by decide +kernel
theorem dX3_isWithdrawable_8 : decode cX3_isWithdrawable 8 = .ok (.getfield 21, 3) := by decide +kernel
theorem dX3_isWithdrawable_11 : decode cX3_isWithdrawable 11 = .ok (.iconst 3, 1) := by decide +kernel
theorem dX3_isWithdrawable_12 : decode cX3_isWithdrawable 12 = .ok (.if_icmp .eq 20, 3) := by decide +kernel
theorem dX3_isWithdrawable_15 : decode cX3_isWithdrawable 15 = .ok (.aload_n 0, 1) := by decide +kernel
theorem dX3_isWithdrawable_16 : decode cX3_isWithdrawable 16 = .ok (.getfield 21, 3) := by decide +kernel
theorem dX3_isWithdrawable_19 : decode cX3_isWithdrawable 19 = .ok (.iconst 4, 1) := by decide +kernel
theorem dX3_isWithdrawable_20 : decode cX3_isWithdrawable 20 = .ok (.if_icmp .eq 12, 3) := by decide +kernel
theorem dX3_isWithdrawable_23 : decode cX3_isWithdrawable 23 = .ok (.aload_n 0, 1) := by decide +kernel
theorem dX3_isWithdrawable_24 : decode cX3_isWithdrawable 24 = .ok (.getfield 21, 3) := by decide +kernel
theorem dX3_isWithdrawable_27 : decode cX3_isWithdrawable 27 = .ok (.bipush 7, 2) := by decide +kernel
theorem dX3_isWithdrawable_29 : decode cX3_isWithdrawable 29 = .ok (.if_icmp .ne 7, 3) := by decide +kernel
theorem dX3_isWithdrawable_32 : decode cX3_isWithdrawable 32 = .ok (.iconst 1, 1) := by decide +kernel
theorem dX3_isWithdrawable_33 : decode cX3_isWithdrawable 33 = .ok (.goto 4, 3) := by decide +kernel
theorem dX3_isWithdrawable_36 : decode cX3_isWithdrawable 36 = .ok (.iconst 0, 1) := by decide +kernel
theorem dX3_isWithdrawable_37 : decode cX3_isWithdrawable 37 = .ok (.ireturn, 1) := by decide +kernel
theorem dX3_end_0 : decode cX3_end 0 = .ok (.aload_n 0, 1) := by decide +kernel
theorem dX3_end_1 : decode cX3_end 1 = .ok (.aload_n 1, 1) := by decide +kernel
theorem dX3_end_2 : decode cX3_end 2 = .ok (.putfield 41, 3) := by decide +kernel
theorem dX3_end_5 : decode cX3_end 5 = .ok (.aload_n 1, 1) := by decide +kernel
theorem dX3_end_6 : decode cX3_end 6 = .ok (.aload_n 0, 1) := by decide +kernel
theorem dX3_end_7 : decode cX3_end 7 = .ok (.putfield 45, 3) := by decide +kernel
theorem dX3_end_10 : decode cX3_end 10 = .ok (.return_, 1) := by decide +kernel
theorem dX3_answer_0 : decode cX3_answer 0 = .ok (.aload_n 0, 1) := by decide +kernel
theorem dX3_answer_1 : decode cX3_answer 1 = .ok (.aload_n 1, 1) := by decide +kernel
theorem dX3_answer_2 : decode cX3_answer 2 = .ok (.putfield 41, 3) := by decide +kernel
theorem dX3_answer_5 : decode cX3_answer 5 = .ok (.aload_n 0, 1) := by decide +kernel
theorem dX3_answer_6 : decode cX3_answer 6 = .ok (.aload_n 1, 1) := by decide +kernel
theorem dX3_answer_7 : decode cX3_answer 7 = .ok (.getfield 48, 3) := by decide +kernel
theorem dX3_answer_10 : decode cX3_answer 10 = .ok (.putfield 51, 3) := by decide +kernel
theorem dX3_answer_13 : decode cX3_answer 13 = .ok (.aload_n 1, 1) := by decide +kernel
theorem dX3_answer_14 : decode cX3_answer 14 = .ok (.aload_n 0, 1) := by decide +kernel
theorem dX3_answer_15 : decode cX3_answer 15 = .ok (.putfield 48, 3) := by decide +kernel
theorem dX3_answer_18 : decode cX3_answer 18 = .ok (.return_, 1) := by decide +kernel
theorem dX3_release_0 : decode cX3_release 0 = .ok (.aload_n 0, 1) := by decide +kernel
theorem dX3_release_1 : decode cX3_release 1 = .ok (.getfield 41, 3) := by decide +kernel
theorem dX3_release_4 : decode cX3_release 4 = .ok (.ifnonnull 4, 3) := by decide +kernel
theorem dX3_release_7 : decode cX3_release 7 = .ok (.return_, 1) := by decide +kernel
theorem dX3_release_8 : decode cX3_release 8 = .ok (.aload_n 0, 1) := by decide +kernel
theorem dX3_release_9 : decode cX3_release 9 = .ok (.getfield 41, 3) := by decide +kernel
theorem dX3_release_12 : decode cX3_release 12 = .ok (.getfield 45, 3) := by decide +kernel
theorem dX3_release_15 : decode cX3_release 15 = .ok (.aload_n 0, 1) := by decide +kernel
theorem dX3_release_16 : decode cX3_release 16 = .ok (.if_acmp .ne 11, 3) := by decide +kernel
theorem dX3_release_19 : decode cX3_release 19 = .ok (.aload_n 0, 1) := by decide +kernel
theorem dX3_release_20 : decode cX3_release 20 = .ok (.getfield 41, 3) := by decide +kernel
theorem dX3_release_23 : decode cX3_release 23 = .ok (.aconst_null, 1) := by decide +kernel
theorem dX3_release_24 : decode cX3_release 24 = .ok (.putfield 45, 3) := by decide +kernel
theorem dX3_release_27 : decode cX3_release 27 = .ok (.aload_n 0, 1) := by decide +kernel
theorem dX3_release_28 : decode cX3_release 28 = .ok (.getfield 41, 3) := by decide +kernel
theorem dX3_release_31 : decode cX3_release 31 = .ok (.getfield 48, 3) := by decide +kernel
theorem dX3_release_34 : decode cX3_release 34 = .ok (.aload_n 0, 1) := by decide +kernel
theorem dX3_release_35 : decode cX3_release 35 = .ok (.if_acmp .ne 14, 3) := by decide +kernel
theorem dX3_release_38 : decode cX3_release 38 = .ok (.aload_n 0, 1) := by decide +kernel
theorem dX3_release_39 : decode cX3_release 39 = .ok (.getfield 41, 3) := by decide +kernel
theorem dX3_release_42 : decode cX3_release 42 = .ok (.aload_n 0, 1) := by decide +kernel
theorem dX3_release_43 : decode cX3_release 43 = .ok (.getfield 51, 3) := by decide +kernel
theorem dX3_release_46 : decode cX3_release 46 = .ok (.putfield 48, 3) := by decide +kernel
theorem dX3_release_49 : decode cX3_release 49 = .ok (.return_, 1) := by decide +kernel
theorem dX3_isAnsweredBy_0 : decode cX3_isAnsweredBy 0 = .ok (.aload_n 0, 1) := by decide +kernel
theorem dX3_isAnsweredBy_1 : decode cX3_isAnsweredBy 1 = .ok (.getfield 48, 3) := by decide +kernel
theorem dX3_isAnsweredBy_4 : decode cX3_isAnsweredBy 4 = .ok (.astore_n 2, 1) := by decide +kernel
theorem dX3_isAnsweredBy_5 : decode cX3_isAnsweredBy 5 = .ok (.aload_n 2, 1) := by decide +kernel
theorem dX3_isAnsweredBy_6 : decode cX3_isAnsweredBy 6 = .ok (.ifnull 28, 3) := by decide +kernel
theorem dX3_isAnsweredBy_9 : decode cX3_isAnsweredBy 9 = .ok (.aload_n 2, 1) := by decide +kernel
theorem dX3_isAnsweredBy_10 : decode cX3_isAnsweredBy 10 = .ok (.getfield 54, 3) := by decide +kernel
theorem dX3_isAnsweredBy_13 : decode cX3_isAnsweredBy 13 = .ok (.aload_n 1, 1) := by decide +kernel
theorem dX3_isAnsweredBy_14 : decode cX3_isAnsweredBy 14 = .ok (.if_acmp .ne 12, 3) := by decide +kernel
theorem dX3_isAnsweredBy_17 : decode cX3_isAnsweredBy 17 = .ok (.aload_n 2, 1) := by decide +kernel
theorem dX3_isAnsweredBy_18 : decode cX3_isAnsweredBy 18 = .ok (.getfield 45, 3) := by decide +kernel
theorem dX3_isAnsweredBy_21 : decode cX3_isAnsweredBy 21 = .ok (.ifnonnull 5, 3) := by decide +kernel
theorem dX3_isAnsweredBy_24 : decode cX3_isAnsweredBy 24 = .ok (.iconst 1, 1) := by decide +kernel
theorem dX3_isAnsweredBy_25 : decode cX3_isAnsweredBy 25 = .ok (.ireturn, 1) := by decide +kernel
theorem dX3_isAnsweredBy_26 : decode cX3_isAnsweredBy 26 = .ok (.aload_n 2, 1) := by decide +kernel
theorem dX3_isAnsweredBy_27 : decode cX3_isAnsweredBy 27 = .ok (.getfield 51, 3) := by decide +kernel
theorem dX3_isAnsweredBy_30 : decode cX3_isAnsweredBy 30 = .ok (.astore_n 2, 1) := by decide +kernel
theorem dX3_isAnsweredBy_31 : decode cX3_isAnsweredBy 31 = .ok (.goto (-26), 3) := by decide +kernel
theorem dX3_isAnsweredBy_34 : decode cX3_isAnsweredBy 34 = .ok (.iconst 0, 1) := by decide +kernel
theorem dX3_isAnsweredBy_35 : decode cX3_isAnsweredBy 35 = .ok (.ireturn, 1) := by decide +kernel
theorem dX3_stands_0 : decode cX3_stands 0 = .ok (.aload_n 0, 1) := by decide +kernel
theorem dX3_stands_1 : decode cX3_stands 1 = .ok (.getfield 31, 3) := by decide +kernel
theorem dX3_stands_4 : decode cX3_stands 4 = .ok (.iload_n 2, 1) := by decide +kernel
theorem dX3_stands_5 : decode cX3_stands 5 = .ok (.if_icmp .gt 11, 3) := by decide +kernel
theorem dX3_stands_8 : decode cX3_stands 8 = .ok (.aload_n 0, 1) := by decide +kernel
theorem dX3_stands_9 : decode cX3_stands 9 = .ok (.getfield 34, 3) := by decide +kernel
theorem dX3_stands_12 : decode cX3_stands 12 = .ok (.iload_n 1, 1) := by decide +kernel
theorem dX3_stands_13 : decode cX3_stands 13 = .ok (.if_icmp .le 5, 3) := by decide +kernel
theorem dX3_stands_16 : decode cX3_stands 16 = .ok (.iconst 0, 1) := by decide +kernel
theorem dX3_stands_17 : decode cX3_stands 17 = .ok (.ireturn, 1) := by decide +kernel
theorem dX3_stands_18 : decode cX3_stands 18 = .ok (.aload_n 0, 1) := by decide +kernel
theorem dX3_stands_19 : decode cX3_stands 19 = .ok (.getfield 45, 3) := by decide +kernel
theorem dX3_stands_22 : decode cX3_stands 22 = .ok (.ifnull 25, 3) := by decide +kernel
theorem dX3_stands_25 : decode cX3_stands 25 = .ok (.aload_n 0, 1) := by decide +kernel
theorem dX3_stands_26 : decode cX3_stands 26 = .ok (.getfield 45, 3) := by decide +kernel
theorem dX3_stands_29 : decode cX3_stands 29 = .ok (.getfield 31, 3) := by decide +kernel
theorem dX3_stands_32 : decode cX3_stands 32 = .ok (.iload_n 2, 1) := by decide +kernel
theorem dX3_stands_33 : decode cX3_stands 33 = .ok (.if_icmp .gt 14, 3) := by decide +kernel
theorem dX3_stands_36 : decode cX3_stands 36 = .ok (.aload_n 0, 1) := by decide +kernel
theorem dX3_stands_37 : decode cX3_stands 37 = .ok (.getfield 45, 3) := by decide +kernel
theorem dX3_stands_40 : decode cX3_stands 40 = .ok (.getfield 34, 3) := by decide +kernel
theorem dX3_stands_43 : decode cX3_stands 43 = .ok (.iload_n 1, 1) := by decide +kernel
theorem dX3_stands_44 : decode cX3_stands 44 = .ok (.if_icmp .le 7, 3) := by decide +kernel
theorem dX3_stands_47 : decode cX3_stands 47 = .ok (.iconst 1, 1) := by decide +kernel
theorem dX3_stands_48 : decode cX3_stands 48 = .ok (.goto 4, 3) := by decide +kernel
theorem dX3_stands_51 : decode cX3_stands 51 = .ok (.iconst 0, 1) := by decide +kernel
theorem dX3_stands_52 : decode cX3_stands 52 = .ok (.ireturn, 1) := by decide +kernel
theorem dX3_isHeldBy_0 : decode cX3_isHeldBy 0 = .ok (.aload_n 0, 1) := by decide +kernel
theorem dX3_isHeldBy_1 : decode cX3_isHeldBy 1 = .ok (.getfield 54, 3) := by decide +kernel
theorem dX3_isHeldBy_4 : decode cX3_isHeldBy 4 = .ok (.ifnonnull 5, 3) := by decide +kernel
theorem dX3_isHeldBy_7 : decode cX3_isHeldBy 7 = .ok (.iconst 0, 1) := by decide +kernel
theorem dX3_isHeldBy_8 : decode cX3_isHeldBy 8 = .ok (.ireturn, 1) := by decide +kernel
theorem dX3_isHeldBy_9 : decode cX3_isHeldBy 9 = .ok (.aload_n 1, 1) := by decide +kernel
theorem dX3_isHeldBy_10 : decode cX3_isHeldBy 10 = .ok (.astore_n 3, 1) := by decide +kernel
theorem dX3_isHeldBy_11 : decode cX3_isHeldBy 11 = .ok (.aload_n 3, 1) := by decide +kernel
theorem dX3_isHeldBy_12 : decode cX3_isHeldBy 12 = .ok (.ifnull 51, 3) := by decide +kernel
theorem dX3_isHeldBy_15 : decode cX3_isHeldBy 15 = .ok (.aload_n 3, 1) := by decide +kernel
theorem dX3_isHeldBy_16 : decode cX3_isHeldBy 16 = .ok (.aload_n 0, 1) := by decide +kernel
theorem dX3_isHeldBy_17 : decode cX3_isHeldBy 17 = .ok (.getfield 54, 3) := by decide +kernel
theorem dX3_isHeldBy_20 : decode cX3_isHeldBy 20 = .ok (.if_acmp .eq 43, 3) := by decide +kernel
theorem dX3_isHeldBy_23 : decode cX3_isHeldBy 23 = .ok (.aload_n 3, 1) := by decide +kernel
theorem dX3_isHeldBy_24 : decode cX3_isHeldBy 24 = .ok (.getfield 21, 3) := by decide +kernel
theorem dX3_isHeldBy_27 : decode cX3_isHeldBy 27 = .ok (.bipush 8, 2) := by decide +kernel
theorem dX3_isHeldBy_29 : decode cX3_isHeldBy 29 = .ok (.if_icmp .ne 24, 3) := by decide +kernel
theorem dX3_isHeldBy_32 : decode cX3_isHeldBy 32 = .ok (.aload_n 3, 1) := by decide +kernel
theorem dX3_isHeldBy_33 : decode cX3_isHeldBy 33 = .ok (.getfield 57, 3) := by decide +kernel
theorem dX3_isHeldBy_36 : decode cX3_isHeldBy 36 = .ok (.ifCond .eq 17, 3) := by decide +kernel
theorem dX3_isHeldBy_39 : decode cX3_isHeldBy 39 = .ok (.aload_n 0, 1) := by decide +kernel
theorem dX3_isHeldBy_40 : decode cX3_isHeldBy 40 = .ok (.aload_n 3, 1) := by decide +kernel
theorem dX3_isHeldBy_41 : decode cX3_isHeldBy 41 = .ok (.getfield 34, 3) := by decide +kernel
theorem dX3_isHeldBy_44 : decode cX3_isHeldBy 44 = .ok (.iconst 1, 1) := by decide +kernel
theorem dX3_isHeldBy_45 : decode cX3_isHeldBy 45 = .ok (.isub, 1) := by decide +kernel
theorem dX3_isHeldBy_46 : decode cX3_isHeldBy 46 = .ok (.iload_n 2, 1) := by decide +kernel
theorem dX3_isHeldBy_47 : decode cX3_isHeldBy 47 = .ok (.invokevirtual 61, 3) := by decide +kernel
theorem dX3_isHeldBy_50 : decode cX3_isHeldBy 50 = .ok (.ifCond .ne 5, 3) := by decide +kernel
theorem dX3_isHeldBy_53 : decode cX3_isHeldBy 53 = .ok (.iconst 0, 1) := by decide +kernel
theorem dX3_isHeldBy_54 : decode cX3_isHeldBy 54 = .ok (.ireturn, 1) := by decide +kernel
theorem dX3_isHeldBy_55 : decode cX3_isHeldBy 55 = .ok (.aload_n 3, 1) := by decide +kernel
theorem dX3_isHeldBy_56 : decode cX3_isHeldBy 56 = .ok (.getfield 41, 3) := by decide +kernel
theorem dX3_isHeldBy_59 : decode cX3_isHeldBy 59 = .ok (.astore_n 3, 1) := by decide +kernel
theorem dX3_isHeldBy_60 : decode cX3_isHeldBy 60 = .ok (.goto (-49), 3) := by decide +kernel
theorem dX3_isHeldBy_63 : decode cX3_isHeldBy 63 = .ok (.aload_n 3, 1) := by decide +kernel
theorem dX3_isHeldBy_64 : decode cX3_isHeldBy 64 = .ok (.ifnull 7, 3) := by decide +kernel
theorem dX3_isHeldBy_67 : decode cX3_isHeldBy 67 = .ok (.iconst 1, 1) := by decide +kernel
theorem dX3_isHeldBy_68 : decode cX3_isHeldBy 68 = .ok (.goto 4, 3) := by decide +kernel
theorem dX3_isHeldBy_71 : decode cX3_isHeldBy 71 = .ok (.iconst 0, 1) := by decide +kernel
theorem dX3_isHeldBy_72 : decode cX3_isHeldBy 72 = .ok (.ireturn, 1) := by decide +kernel
theorem dX3_detail_0 : decode cX3_detail 0 = .ok (.iload_n 1, 1) := by decide +kernel
theorem dX3_detail_1 : decode cX3_detail 1 = .ok (.tableswitch 133 0 9 #[55, 60, 65, 84, 89, 94, 102, 110, 115, 120], 55) := by decide +kernel
theorem dX3_detail_56 : decode cX3_detail 56 = .ok (.aload_n 0, 1) := by decide +kernel
theorem dX3_detail_57 : decode cX3_detail 57 = .ok (.getfield 21, 3) := by decide +kernel
theorem dX3_detail_60 : decode cX3_detail 60 = .ok (.ireturn, 1) := by decide +kernel
theorem dX3_detail_61 : decode cX3_detail 61 = .ok (.aload_n 0, 1) := by decide +kernel
theorem dX3_detail_62 : decode cX3_detail 62 = .ok (.getfield 24, 3) := by decide +kernel
theorem dX3_detail_65 : decode cX3_detail 65 = .ok (.ireturn, 1) := by decide +kernel
theorem dX3_detail_66 : decode cX3_detail 66 = .ok (.aload_n 0, 1) := by decide +kernel
theorem dX3_detail_67 : decode cX3_detail 67 = .ok (.getfield 27, 3) := by decide +kernel
theorem dX3_detail_70 : decode cX3_detail 70 = .ok (.ifnonnull 7, 3) := by decide +kernel
theorem dX3_detail_73 : decode cX3_detail 73 = .ok (.iconst (-1), 1) := by decide +kernel
theorem dX3_detail_74 : decode cX3_detail 74 = .ok (.goto 10, 3) := by decide +kernel
theorem dX3_detail_77 : decode cX3_detail 77 = .ok (.aload_n 0, 1) := by decide +kernel
theorem dX3_detail_78 : decode cX3_detail 78 = .ok (.getfield 27, 3) := by decide +kernel
theorem dX3_detail_81 : decode cX3_detail 81 = .ok (.getfield 65, 3) := by decide +kernel
theorem dX3_detail_84 : decode cX3_detail 84 = .ok (.ireturn, 1) := by decide +kernel
theorem dX3_detail_85 : decode cX3_detail 85 = .ok (.aload_n 0, 1) := by decide +kernel
theorem dX3_detail_86 : decode cX3_detail 86 = .ok (.getfield 31, 3) := by decide +kernel
theorem dX3_detail_89 : decode cX3_detail 89 = .ok (.ireturn, 1) := by decide +kernel
theorem dX3_detail_90 : decode cX3_detail 90 = .ok (.aload_n 0, 1) := by decide +kernel
theorem dX3_detail_91 : decode cX3_detail 91 = .ok (.getfield 34, 3) := by decide +kernel
theorem dX3_detail_94 : decode cX3_detail 94 = .ok (.ireturn, 1) := by decide +kernel
theorem dX3_detail_95 : decode cX3_detail 95 = .ok (.aload_n 0, 1) := by decide +kernel
theorem dX3_detail_96 : decode cX3_detail 96 = .ok (.getfield 41, 3) := by decide +kernel
theorem dX3_detail_99 : decode cX3_detail 99 = .ok (.invokestatic 68, 3) := by decide +kernel
theorem dX3_detail_102 : decode cX3_detail 102 = .ok (.ireturn, 1) := by decide +kernel
theorem dX3_detail_103 : decode cX3_detail 103 = .ok (.aload_n 0, 1) := by decide +kernel
theorem dX3_detail_104 : decode cX3_detail 104 = .ok (.getfield 54, 3) := by decide +kernel
theorem dX3_detail_107 : decode cX3_detail 107 = .ok (.invokestatic 68, 3) := by decide +kernel
theorem dX3_detail_110 : decode cX3_detail 110 = .ok (.ireturn, 1) := by decide +kernel
theorem dX3_detail_111 : decode cX3_detail 111 = .ok (.aload_n 0, 1) := by decide +kernel
theorem dX3_detail_112 : decode cX3_detail 112 = .ok (.getfield 9, 3) := by decide +kernel
theorem dX3_detail_115 : decode cX3_detail 115 = .ok (.ireturn, 1) := by decide +kernel
theorem dX3_detail_116 : decode cX3_detail 116 = .ok (.aload_n 0, 1) := by decide +kernel
theorem dX3_detail_117 : decode cX3_detail 117 = .ok (.getfield 15, 3) := by decide +kernel
theorem dX3_detail_120 : decode cX3_detail 120 = .ok (.ireturn, 1) := by decide +kernel
theorem dX3_detail_121 : decode cX3_detail 121 = .ok (.aload_n 0, 1) := by decide +kernel
theorem dX3_detail_122 : decode cX3_detail 122 = .ok (.getfield 57, 3) := by decide +kernel
theorem dX3_detail_125 : decode cX3_detail 125 = .ok (.ifCond .eq 7, 3) := by decide +kernel
theorem dX3_detail_128 : decode cX3_detail 128 = .ok (.iconst 1, 1) := by decide +kernel
theorem dX3_detail_129 : decode cX3_detail 129 = .ok (.goto 4, 3) := by decide +kernel
theorem dX3_detail_132 : decode cX3_detail 132 = .ok (.iconst 0, 1) := by decide +kernel
theorem dX3_detail_133 : decode cX3_detail 133 = .ok (.ireturn, 1) := by decide +kernel
theorem dX3_detail_134 : decode cX3_detail 134 = .ok (.iconst (-1), 1) := by decide +kernel
theorem dX3_detail_135 : decode cX3_detail 135 = .ok (.ireturn, 1) := by decide +kernel
theorem dX4_init_0 : decode cX4_init 0 = .ok (.aload_n 0, 1) := by decide +kernel
theorem dX4_init_1 : decode cX4_init 1 = .ok (.invokespecial 3, 3) := by decide +kernel
theorem dX4_init_4 : decode cX4_init 4 = .ok (.aload_n 0, 1) := by decide +kernel
theorem dX4_init_5 : decode cX4_init 5 = .ok (.sipush 400, 3) := by decide +kernel
theorem dX4_init_8 : decode cX4_init 8 = .ok (.anewarray 9, 3) := by decide +kernel
theorem dX4_init_11 : decode cX4_init 11 = .ok (.putfield 11, 3) := by decide +kernel
theorem dX4_init_14 : decode cX4_init 14 = .ok (.return_, 1) := by decide +kernel
theorem dX4_isFull_0 : decode cX4_isFull 0 = .ok (.aload_n 0, 1) := by decide +kernel
theorem dX4_isFull_1 : decode cX4_isFull 1 = .ok (.getfield 17, 3) := by decide +kernel
theorem dX4_isFull_4 : decode cX4_isFull 4 = .ok (.aload_n 0, 1) := by decide +kernel
theorem dX4_isFull_5 : decode cX4_isFull 5 = .ok (.getfield 11, 3) := by decide +kernel
theorem dX4_isFull_8 : decode cX4_isFull 8 = .ok (.arraylength, 1) := by decide +kernel
theorem dX4_isFull_9 : decode cX4_isFull 9 = .ok (.if_icmp .lt 7, 3) := by decide +kernel
theorem dX4_isFull_12 : decode cX4_isFull 12 = .ok (.iconst 1, 1) := by decide +kernel
theorem dX4_isFull_13 : decode cX4_isFull 13 = .ok (.goto 4, 3) := by decide +kernel
theorem dX4_isFull_16 : decode cX4_isFull 16 = .ok (.iconst 0, 1) := by decide +kernel
theorem dX4_isFull_17 : decode cX4_isFull 17 = .ok (.ireturn, 1) := by decide +kernel
theorem dX4_at_0 : decode cX4_at 0 = .ok (.iload_n 1, 1) := by decide +kernel
theorem dX4_at_1 : decode cX4_at 1 = .ok (.ifCond .lt 29, 3) := by decide +kernel
theorem dX4_at_4 : decode cX4_at 4 = .ok (.iload_n 1, 1) := by decide +kernel
theorem dX4_at_5 : decode cX4_at 5 = .ok (.aload_n 0, 1) := by decide +kernel
theorem dX4_at_6 : decode cX4_at 6 = .ok (.getfield 17, 3) := by decide +kernel
theorem dX4_at_9 : decode cX4_at 9 = .ok (.if_icmp .ge 21, 3) := by decide +kernel
theorem dX4_at_12 : decode cX4_at 12 = .ok (.iload_n 1, 1) := by decide +kernel
theorem dX4_at_13 : decode cX4_at 13 = .ok (.aload_n 0, 1) := by decide +kernel
theorem dX4_at_14 : decode cX4_at 14 = .ok (.getfield 11, 3) := by decide +kernel
theorem dX4_at_17 : decode cX4_at 17 = .ok (.arraylength, 1) := by decide +kernel
theorem dX4_at_18 : decode cX4_at 18 = .ok (.if_icmp .ge 12, 3) := by decide +kernel
theorem dX4_at_21 : decode cX4_at 21 = .ok (.aload_n 0, 1) := by decide +kernel
theorem dX4_at_22 : decode cX4_at 22 = .ok (.getfield 11, 3) := by decide +kernel
theorem dX4_at_25 : decode cX4_at 25 = .ok (.iload_n 1, 1) := by decide +kernel
theorem dX4_at_26 : decode cX4_at 26 = .ok (.aaload, 1) := by decide +kernel
theorem dX4_at_27 : decode cX4_at 27 = .ok (.goto 4, 3) := by decide +kernel
theorem dX4_at_30 : decode cX4_at 30 = .ok (.aconst_null, 1) := by decide +kernel
theorem dX4_at_31 : decode cX4_at 31 = .ok (.areturn, 1) := by decide +kernel
theorem dX4_lodge_0 : decode cX4_lodge 0 = .ok (.new 9, 3) := by decide +kernel
theorem dX4_lodge_3 : decode cX4_lodge 3 = .ok (.dup, 1) := by decide +kernel
theorem dX4_lodge_4 : decode cX4_lodge 4 = .ok (.aload_n 0, 1) := by decide +kernel
theorem dX4_lodge_5 : decode cX4_lodge 5 = .ok (.getfield 17, 3) := by decide +kernel
theorem dX4_lodge_8 : decode cX4_lodge 8 = .ok (.iload_n 1, 1) := by decide +kernel
theorem dX4_lodge_9 : decode cX4_lodge 9 = .ok (.iload_n 2, 1) := by decide +kernel
theorem dX4_lodge_10 : decode cX4_lodge 10 = .ok (.aload_n 3, 1) := by decide +kernel
theorem dX4_lodge_11 : decode cX4_lodge 11 = .ok (.iload 4, 2) := by decide +kernel
theorem dX4_lodge_13 : decode cX4_lodge 13 = .ok (.iload 5, 2) := by decide +kernel
theorem dX4_lodge_15 : decode cX4_lodge 15 = .ok (.invokespecial 21, 3) := by decide +kernel
theorem dX4_lodge_18 : decode cX4_lodge 18 = .ok (.astore 6, 2) := by decide +kernel
theorem dX4_lodge_20 : decode cX4_lodge 20 = .ok (.aload_n 0, 1) := by decide +kernel
theorem dX4_lodge_21 : decode cX4_lodge 21 = .ok (.getfield 17, 3) := by decide +kernel
theorem dX4_lodge_24 : decode cX4_lodge 24 = .ok (.ifCond .lt 36, 3) := by decide +kernel
theorem dX4_lodge_27 : decode cX4_lodge 27 = .ok (.aload_n 0, 1) := by decide +kernel
theorem dX4_lodge_28 : decode cX4_lodge 28 = .ok (.getfield 17, 3) := by decide +kernel
theorem dX4_lodge_31 : decode cX4_lodge 31 = .ok (.aload_n 0, 1) := by decide +kernel
theorem dX4_lodge_32 : decode cX4_lodge 32 = .ok (.getfield 11, 3) := by decide +kernel
theorem dX4_lodge_35 : decode cX4_lodge 35 = .ok (.arraylength, 1) := by decide +kernel
theorem dX4_lodge_36 : decode cX4_lodge 36 = .ok (.if_icmp .ge 24, 3) := by decide +kernel
theorem dX4_lodge_39 : decode cX4_lodge 39 = .ok (.aload_n 0, 1) := by decide +kernel
theorem dX4_lodge_40 : decode cX4_lodge 40 = .ok (.getfield 11, 3) := by decide +kernel
theorem dX4_lodge_43 : decode cX4_lodge 43 = .ok (.aload_n 0, 1) := by decide +kernel
theorem dX4_lodge_44 : decode cX4_lodge 44 = .ok (.getfield 17, 3) := by decide +kernel
theorem dX4_lodge_47 : decode cX4_lodge 47 = .ok (.aload 6, 2) := by decide +kernel
theorem dX4_lodge_49 : decode cX4_lodge 49 = .ok (.aastore, 1) := by decide +kernel
theorem dX4_lodge_50 : decode cX4_lodge 50 = .ok (.aload_n 0, 1) := by decide +kernel
theorem dX4_lodge_51 : decode cX4_lodge 51 = .ok (.dup, 1) := by decide +kernel
theorem dX4_lodge_52 : decode cX4_lodge 52 = .ok (.getfield 17, 3) := by decide +kernel
theorem dX4_lodge_55 : decode cX4_lodge 55 = .ok (.iconst 1, 1) := by decide +kernel
theorem dX4_lodge_56 : decode cX4_lodge 56 = .ok (.iadd, 1) := by decide +kernel
theorem dX4_lodge_57 : decode cX4_lodge 57 = .ok (.putfield 17, 3) := by decide +kernel
theorem dX4_lodge_60 : decode cX4_lodge 60 = .ok (.aload 6, 2) := by decide +kernel
theorem dX4_lodge_62 : decode cX4_lodge 62 = .ok (.areturn, 1) := by decide +kernel
theorem dX4_dropLatest_0 : decode cX4_dropLatest 0 = .ok (.aload_n 0, 1) := by decide +kernel
theorem dX4_dropLatest_1 : decode cX4_dropLatest 1 = .ok (.getfield 17, 3) := by decide +kernel
theorem dX4_dropLatest_4 : decode cX4_dropLatest 4 = .ok (.ifCond .le 35, 3) := by decide +kernel
theorem dX4_dropLatest_7 : decode cX4_dropLatest 7 = .ok (.aload_n 0, 1) := by decide +kernel
theorem dX4_dropLatest_8 : decode cX4_dropLatest 8 = .ok (.getfield 17, 3) := by decide +kernel
theorem dX4_dropLatest_11 : decode cX4_dropLatest 11 = .ok (.aload_n 0, 1) := by decide +kernel
theorem dX4_dropLatest_12 : decode cX4_dropLatest 12 = .ok (.getfield 11, 3) := by decide +kernel
theorem dX4_dropLatest_15 : decode cX4_dropLatest 15 = .ok (.arraylength, 1) := by decide +kernel
theorem dX4_dropLatest_16 : decode cX4_dropLatest 16 = .ok (.if_icmp .gt 23, 3) := by decide +kernel
theorem dX4_dropLatest_19 : decode cX4_dropLatest 19 = .ok (.aload_n 0, 1) := by decide +kernel
theorem dX4_dropLatest_20 : decode cX4_dropLatest 20 = .ok (.dup, 1) := by decide +kernel
theorem dX4_dropLatest_21 : decode cX4_dropLatest 21 = .ok (.getfield 17, 3) := by decide +kernel
theorem dX4_dropLatest_24 : decode cX4_dropLatest 24 = .ok (.iconst 1, 1) := by decide +kernel
theorem dX4_dropLatest_25 : decode cX4_dropLatest 25 = .ok (.isub, 1) := by decide +kernel
theorem dX4_dropLatest_26 : decode cX4_dropLatest 26 = .ok (.putfield 17, 3) := by decide +kernel
theorem dX4_dropLatest_29 : decode cX4_dropLatest 29 = .ok (.aload_n 0, 1) := by decide +kernel
theorem dX4_dropLatest_30 : decode cX4_dropLatest 30 = .ok (.getfield 11, 3) := by decide +kernel
theorem dX4_dropLatest_33 : decode cX4_dropLatest 33 = .ok (.aload_n 0, 1) := by decide +kernel
theorem dX4_dropLatest_34 : decode cX4_dropLatest 34 = .ok (.getfield 17, 3) := by decide +kernel
theorem dX4_dropLatest_37 : decode cX4_dropLatest 37 = .ok (.aconst_null, 1) := by decide +kernel
theorem dX4_dropLatest_38 : decode cX4_dropLatest 38 = .ok (.aastore, 1) := by decide +kernel
theorem dX4_dropLatest_39 : decode cX4_dropLatest 39 = .ok (.return_, 1) := by decide +kernel
theorem dX4_hasAny_0 : decode cX4_hasAny 0 = .ok (.iconst 0, 1) := by decide +kernel
theorem dX4_hasAny_1 : decode cX4_hasAny 1 = .ok (.istore_n 2, 1) := by decide +kernel
theorem dX4_hasAny_2 : decode cX4_hasAny 2 = .ok (.iload_n 2, 1) := by decide +kernel
theorem dX4_hasAny_3 : decode cX4_hasAny 3 = .ok (.aload_n 0, 1) := by decide +kernel
theorem dX4_hasAny_4 : decode cX4_hasAny 4 = .ok (.getfield 17, 3) := by decide +kernel
theorem dX4_hasAny_7 : decode cX4_hasAny 7 = .ok (.if_icmp .ge 29, 3) := by decide +kernel
theorem dX4_hasAny_10 : decode cX4_hasAny 10 = .ok (.aload_n 0, 1) := by decide +kernel
theorem dX4_hasAny_11 : decode cX4_hasAny 11 = .ok (.iload_n 2, 1) := by decide +kernel
theorem dX4_hasAny_12 : decode cX4_hasAny 12 = .ok (.invokevirtual 24, 3) := by decide +kernel
theorem dX4_hasAny_15 : decode cX4_hasAny 15 = .ok (.astore_n 3, 1) := by decide +kernel
theorem dX4_hasAny_16 : decode cX4_hasAny 16 = .ok (.aload_n 3, 1) := by decide +kernel
theorem dX4_hasAny_17 : decode cX4_hasAny 17 = .ok (.ifnull 13, 3) := by decide +kernel
theorem dX4_hasAny_20 : decode cX4_hasAny 20 = .ok (.aload_n 3, 1) := by decide +kernel
theorem dX4_hasAny_21 : decode cX4_hasAny 21 = .ok (.getfield 28, 3) := by decide +kernel
theorem dX4_hasAny_24 : decode cX4_hasAny 24 = .ok (.aload_n 1, 1) := by decide +kernel
theorem dX4_hasAny_25 : decode cX4_hasAny 25 = .ok (.if_acmp .ne 5, 3) := by decide +kernel
theorem dX4_hasAny_28 : decode cX4_hasAny 28 = .ok (.iconst 1, 1) := by decide +kernel
theorem dX4_hasAny_29 : decode cX4_hasAny 29 = .ok (.ireturn, 1) := by decide +kernel
theorem dX4_hasAny_30 : decode cX4_hasAny 30 = .ok (.iinc 2 1, 3) := by decide +kernel
theorem dX4_hasAny_33 : decode cX4_hasAny 33 = .ok (.goto (-31), 3) := by decide +kernel
theorem dX4_hasAny_36 : decode cX4_hasAny 36 = .ok (.iconst 0, 1) := by decide +kernel
theorem dX4_hasAny_37 : decode cX4_hasAny 37 = .ok (.ireturn, 1) := by decide +kernel
theorem dX4_hasSign_0 : decode cX4_hasSign 0 = .ok (.iconst 0, 1) := by decide +kernel
theorem dX4_hasSign_1 : decode cX4_hasSign 1 = .ok (.istore_n 3, 1) := by decide +kernel
theorem dX4_hasSign_2 : decode cX4_hasSign 2 = .ok (.iload_n 3, 1) := by decide +kernel
theorem dX4_hasSign_3 : decode cX4_hasSign 3 = .ok (.aload_n 0, 1) := by decide +kernel
theorem dX4_hasSign_4 : decode cX4_hasSign 4 = .ok (.getfield 17, 3) := by decide +kernel
theorem dX4_hasSign_7 : decode cX4_hasSign 7 = .ok (.if_icmp .ge 49, 3) := by decide +kernel
theorem dX4_hasSign_10 : decode cX4_hasSign 10 = .ok (.aload_n 0, 1) := by decide +kernel
theorem dX4_hasSign_11 : decode cX4_hasSign 11 = .ok (.iload_n 3, 1) := by decide +kernel
theorem dX4_hasSign_12 : decode cX4_hasSign 12 = .ok (.invokevirtual 24, 3) := by decide +kernel
theorem dX4_hasSign_15 : decode cX4_hasSign 15 = .ok (.astore 4, 2) := by decide +kernel
theorem dX4_hasSign_17 : decode cX4_hasSign 17 = .ok (.aload 4, 2) := by decide +kernel
theorem dX4_hasSign_19 : decode cX4_hasSign 19 = .ok (.ifnull 31, 3) := by decide +kernel
theorem dX4_hasSign_22 : decode cX4_hasSign 22 = .ok (.aload 4, 2) := by decide +kernel
theorem dX4_hasSign_24 : decode cX4_hasSign 24 = .ok (.getfield 32, 3) := by decide +kernel
theorem dX4_hasSign_27 : decode cX4_hasSign 27 = .ok (.ifCond .ne 23, 3) := by decide +kernel
theorem dX4_hasSign_30 : decode cX4_hasSign 30 = .ok (.aload 4, 2) := by decide +kernel
theorem dX4_hasSign_32 : decode cX4_hasSign 32 = .ok (.getfield 35, 3) := by decide +kernel
theorem dX4_hasSign_35 : decode cX4_hasSign 35 = .ok (.iload_n 1, 1) := by decide +kernel
theorem dX4_hasSign_36 : decode cX4_hasSign 36 = .ok (.if_icmp .ne 14, 3) := by decide +kernel
theorem dX4_hasSign_39 : decode cX4_hasSign 39 = .ok (.aload 4, 2) := by decide +kernel
theorem dX4_hasSign_41 : decode cX4_hasSign 41 = .ok (.getfield 28, 3) := by decide +kernel
theorem dX4_hasSign_44 : decode cX4_hasSign 44 = .ok (.aload_n 2, 1) := by decide +kernel
theorem dX4_hasSign_45 : decode cX4_hasSign 45 = .ok (.if_acmp .ne 5, 3) := by decide +kernel
theorem dX4_hasSign_48 : decode cX4_hasSign 48 = .ok (.iconst 1, 1) := by decide +kernel
theorem dX4_hasSign_49 : decode cX4_hasSign 49 = .ok (.ireturn, 1) := by decide +kernel
theorem dX4_hasSign_50 : decode cX4_hasSign 50 = .ok (.iinc 3 1, 3) := by decide +kernel
theorem dX4_hasSign_53 : decode cX4_hasSign 53 = .ok (.goto (-51), 3) := by decide +kernel
theorem dX4_hasSign_56 : decode cX4_hasSign 56 = .ok (.iconst 0, 1) := by decide +kernel
theorem dX4_hasSign_57 : decode cX4_hasSign 57 = .ok (.ireturn, 1) := by decide +kernel
theorem dX4_belonging_0 : decode cX4_belonging 0 = .ok (.aload_n 0, 1) := by decide +kernel
theorem dX4_belonging_1 : decode cX4_belonging 1 = .ok (.getfield 17, 3) := by decide +kernel
theorem dX4_belonging_4 : decode cX4_belonging 4 = .ok (.iconst 1, 1) := by decide +kernel
theorem dX4_belonging_5 : decode cX4_belonging 5 = .ok (.isub, 1) := by decide +kernel
theorem dX4_belonging_6 : decode cX4_belonging 6 = .ok (.istore_n 3, 1) := by decide +kernel
theorem dX4_belonging_7 : decode cX4_belonging 7 = .ok (.iload_n 3, 1) := by decide +kernel
theorem dX4_belonging_8 : decode cX4_belonging 8 = .ok (.ifCond .lt 58, 3) := by decide +kernel
theorem dX4_belonging_11 : decode cX4_belonging 11 = .ok (.aload_n 0, 1) := by decide +kernel
theorem dX4_belonging_12 : decode cX4_belonging 12 = .ok (.iload_n 3, 1) := by decide +kernel
theorem dX4_belonging_13 : decode cX4_belonging 13 = .ok (.invokevirtual 24, 3) := by decide +kernel
theorem dX4_belonging_16 : decode cX4_belonging 16 = .ok (.astore 4, 2) := by decide +kernel
theorem dX4_belonging_18 : decode cX4_belonging 18 = .ok (.aload 4, 2) := by decide +kernel
theorem dX4_belonging_20 : decode cX4_belonging 20 = .ok (.ifnull 40, 3) := by decide +kernel
theorem dX4_belonging_23 : decode cX4_belonging 23 = .ok (.aload 4, 2) := by decide +kernel
theorem dX4_belonging_25 : decode cX4_belonging 25 = .ok (.getfield 35, 3) := by decide +kernel
theorem dX4_belonging_28 : decode cX4_belonging 28 = .ok (.iload_n 1, 1) := by decide +kernel
theorem dX4_belonging_29 : decode cX4_belonging 29 = .ok (.if_icmp .ne 31, 3) := by decide +kernel
theorem dX4_belonging_32 : decode cX4_belonging 32 = .ok (.aload 4, 2) := by decide +kernel
theorem dX4_belonging_34 : decode cX4_belonging 34 = .ok (.getfield 28, 3) := by decide +kernel
theorem dX4_belonging_37 : decode cX4_belonging 37 = .ok (.aload_n 2, 1) := by decide +kernel
theorem dX4_belonging_38 : decode cX4_belonging 38 = .ok (.if_acmp .ne 22, 3) := by decide +kernel
theorem dX4_belonging_41 : decode cX4_belonging 41 = .ok (.aload 4, 2) := by decide +kernel
theorem dX4_belonging_43 : decode cX4_belonging 43 = .ok (.invokevirtual 38, 3) := by decide +kernel
theorem dX4_belonging_46 : decode cX4_belonging 46 = .ok (.ifCond .eq 14, 3) := by decide +kernel
theorem dX4_belonging_49 : decode cX4_belonging 49 = .ok (.aload 4, 2) := by decide +kernel
theorem dX4_belonging_51 : decode cX4_belonging 51 = .ok (.getfield 42, 3) := by decide +kernel
theorem dX4_belonging_54 : decode cX4_belonging 54 = .ok (.ifnonnull 6, 3) := by decide +kernel
theorem dX4_belonging_57 : decode cX4_belonging 57 = .ok (.aload 4, 2) := by decide +kernel
theorem dX4_belonging_59 : decode cX4_belonging 59 = .ok (.areturn, 1) := by decide +kernel
theorem dX4_belonging_60 : decode cX4_belonging 60 = .ok (.iinc 3 (-1), 3) := by decide +kernel
theorem dX4_belonging_63 : decode cX4_belonging 63 = .ok (.goto (-56), 3) := by decide +kernel
theorem dX4_belonging_66 : decode cX4_belonging 66 = .ok (.aconst_null, 1) := by decide +kernel
theorem dX4_belonging_67 : decode cX4_belonging 67 = .ok (.areturn, 1) := by decide +kernel
theorem dX4_latestEffect_0 : decode cX4_latestEffect 0 = .ok (.iconst 0, 1) := by decide +kernel
theorem dX4_latestEffect_1 : decode cX4_latestEffect 1 = .ok (.istore_n 3, 1) := by decide +kernel
theorem dX4_latestEffect_2 : decode cX4_latestEffect 2 = .ok (.iconst 0, 1) := by decide +kernel
theorem dX4_latestEffect_3 : decode cX4_latestEffect 3 = .ok (.istore 4, 2) := by decide +kernel
theorem dX4_latestEffect_5 : decode cX4_latestEffect 5 = .ok (.iload 4, 2) := by decide +kernel
theorem dX4_latestEffect_7 : decode cX4_latestEffect 7 = .ok (.aload_n 0, 1) := by decide +kernel
theorem dX4_latestEffect_8 : decode cX4_latestEffect 8 = .ok (.getfield 17, 3) := by decide +kernel
theorem dX4_latestEffect_11 : decode cX4_latestEffect 11 = .ok (.if_icmp .ge 55, 3) := by decide +kernel
theorem dX4_latestEffect_14 : decode cX4_latestEffect 14 = .ok (.aload_n 0, 1) := by decide +kernel
theorem dX4_latestEffect_15 : decode cX4_latestEffect 15 = .ok (.iload 4, 2) := by decide +kernel
theorem dX4_latestEffect_17 : decode cX4_latestEffect 17 = .ok (.invokevirtual 24, 3) := by decide +kernel
theorem dX4_latestEffect_20 : decode cX4_latestEffect 20 = .ok (.astore 5, 2) := by decide +kernel
theorem dX4_latestEffect_22 : decode cX4_latestEffect 22 = .ok (.aload 5, 2) := by decide +kernel
theorem dX4_latestEffect_24 : decode cX4_latestEffect 24 = .ok (.ifnull 36, 3) := by decide +kernel
theorem dX4_latestEffect_27 : decode cX4_latestEffect 27 = .ok (.aload 5, 2) := by decide +kernel
theorem dX4_latestEffect_29 : decode cX4_latestEffect 29 = .ok (.getfield 28, 3) := by decide +kernel
theorem dX4_latestEffect_32 : decode cX4_latestEffect 32 = .ok (.aload_n 1, 1) := by decide +kernel
theorem dX4_latestEffect_33 : decode cX4_latestEffect 33 = .ok (.if_acmp .ne 27, 3) := by decide +kernel
theorem dX4_latestEffect_36 : decode cX4_latestEffect 36 = .ok (.aload 5, 2) := by decide +kernel
theorem dX4_latestEffect_38 : decode cX4_latestEffect 38 = .ok (.getfield 46, 3) := by decide +kernel
theorem dX4_latestEffect_41 : decode cX4_latestEffect 41 = .ok (.iload_n 2, 1) := by decide +kernel
theorem dX4_latestEffect_42 : decode cX4_latestEffect 42 = .ok (.if_icmp .gt 18, 3) := by decide +kernel
theorem dX4_latestEffect_45 : decode cX4_latestEffect 45 = .ok (.aload 5, 2) := by decide +kernel
theorem dX4_latestEffect_47 : decode cX4_latestEffect 47 = .ok (.getfield 46, 3) := by decide +kernel
theorem dX4_latestEffect_50 : decode cX4_latestEffect 50 = .ok (.iload_n 3, 1) := by decide +kernel
theorem dX4_latestEffect_51 : decode cX4_latestEffect 51 = .ok (.if_icmp .le 9, 3) := by decide +kernel
theorem dX4_latestEffect_54 : decode cX4_latestEffect 54 = .ok (.aload 5, 2) := by decide +kernel
theorem dX4_latestEffect_56 : decode cX4_latestEffect 56 = .ok (.getfield 46, 3) := by decide +kernel
theorem dX4_latestEffect_59 : decode cX4_latestEffect 59 = .ok (.istore_n 3, 1) := by decide +kernel
theorem dX4_latestEffect_60 : decode cX4_latestEffect 60 = .ok (.iinc 4 1, 3) := by decide +kernel
theorem dX4_latestEffect_63 : decode cX4_latestEffect 63 = .ok (.goto (-58), 3) := by decide +kernel
theorem dX4_latestEffect_66 : decode cX4_latestEffect 66 = .ok (.iload_n 3, 1) := by decide +kernel
theorem dX4_latestEffect_67 : decode cX4_latestEffect 67 = .ok (.ireturn, 1) := by decide +kernel
theorem dX4_nthOfMember_0 : decode cX4_nthOfMember 0 = .ok (.iload 4, 2) := by decide +kernel
theorem dX4_nthOfMember_2 : decode cX4_nthOfMember 2 = .ok (.istore 5, 2) := by decide +kernel
theorem dX4_nthOfMember_4 : decode cX4_nthOfMember 4 = .ok (.iconst 0, 1) := by decide +kernel
theorem dX4_nthOfMember_5 : decode cX4_nthOfMember 5 = .ok (.istore 6, 2) := by decide +kernel
theorem dX4_nthOfMember_7 : decode cX4_nthOfMember 7 = .ok (.iload 6, 2) := by decide +kernel
theorem dX4_nthOfMember_9 : decode cX4_nthOfMember 9 = .ok (.aload_n 0, 1) := by decide +kernel
theorem dX4_nthOfMember_10 : decode cX4_nthOfMember 10 = .ok (.getfield 17, 3) := by decide +kernel
theorem dX4_nthOfMember_13 : decode cX4_nthOfMember 13 = .ok (.if_icmp .ge 58, 3) := by decide +kernel
theorem dX4_nthOfMember_16 : decode cX4_nthOfMember 16 = .ok (.iload 5, 2) := by decide +kernel
theorem dX4_nthOfMember_18 : decode cX4_nthOfMember 18 = .ok (.ifCond .lt 53, 3) := by decide +kernel
theorem dX4_nthOfMember_21 : decode cX4_nthOfMember 21 = .ok (.aload_n 0, 1) := by decide +kernel
theorem dX4_nthOfMember_22 : decode cX4_nthOfMember 22 = .ok (.iload 6, 2) := by decide +kernel
theorem dX4_nthOfMember_24 : decode cX4_nthOfMember 24 = .ok (.invokevirtual 24, 3) := by decide +kernel
theorem dX4_nthOfMember_27 : decode cX4_nthOfMember 27 = .ok (.astore 7, 2) := by decide +kernel
theorem dX4_nthOfMember_29 : decode cX4_nthOfMember 29 = .ok (.aload 7, 2) := by decide +kernel
theorem dX4_nthOfMember_31 : decode cX4_nthOfMember 31 = .ok (.ifnull 34, 3) := by decide +kernel
theorem dX4_nthOfMember_34 : decode cX4_nthOfMember 34 = .ok (.aload 7, 2) := by decide +kernel
theorem dX4_nthOfMember_36 : decode cX4_nthOfMember 36 = .ok (.iload_n 2, 1) := by decide +kernel
theorem dX4_nthOfMember_37 : decode cX4_nthOfMember 37 = .ok (.iload_n 3, 1) := by decide +kernel
theorem dX4_nthOfMember_38 : decode cX4_nthOfMember 38 = .ok (.invokevirtual 49, 3) := by decide +kernel
theorem dX4_nthOfMember_41 : decode cX4_nthOfMember 41 = .ok (.ifCond .eq 24, 3) := by decide +kernel
theorem dX4_nthOfMember_44 : decode cX4_nthOfMember 44 = .ok (.aload 7, 2) := by decide +kernel
theorem dX4_nthOfMember_46 : decode cX4_nthOfMember 46 = .ok (.aload_n 1, 1) := by decide +kernel
theorem dX4_nthOfMember_47 : decode cX4_nthOfMember 47 = .ok (.iload_n 3, 1) := by decide +kernel
theorem dX4_nthOfMember_48 : decode cX4_nthOfMember 48 = .ok (.invokevirtual 53, 3) := by decide +kernel
theorem dX4_nthOfMember_51 : decode cX4_nthOfMember 51 = .ok (.ifCond .eq 14, 3) := by decide +kernel
theorem dX4_nthOfMember_54 : decode cX4_nthOfMember 54 = .ok (.iload 5, 2) := by decide +kernel
theorem dX4_nthOfMember_56 : decode cX4_nthOfMember 56 = .ok (.ifCond .ne 6, 3) := by decide +kernel
theorem dX4_nthOfMember_59 : decode cX4_nthOfMember 59 = .ok (.aload 7, 2) := by decide +kernel
theorem dX4_nthOfMember_61 : decode cX4_nthOfMember 61 = .ok (.areturn, 1) := by decide +kernel
theorem dX4_nthOfMember_62 : decode cX4_nthOfMember 62 = .ok (.iinc 5 (-1), 3) := by decide +kernel
theorem dX4_nthOfMember_65 : decode cX4_nthOfMember 65 = .ok (.iinc 6 1, 3) := by decide +kernel
theorem dX4_nthOfMember_68 : decode cX4_nthOfMember 68 = .ok (.goto (-61), 3) := by decide +kernel
theorem dX4_nthOfMember_71 : decode cX4_nthOfMember 71 = .ok (.aconst_null, 1) := by decide +kernel
theorem dX4_nthOfMember_72 : decode cX4_nthOfMember 72 = .ok (.areturn, 1) := by decide +kernel
theorem dX5_init_0 : decode cX5_init 0 = .ok (.aload_n 0, 1) := by decide +kernel
theorem dX5_init_1 : decode cX5_init 1 = .ok (.invokespecial 3, 3) := by decide +kernel
theorem dX5_init_4 : decode cX5_init 4 = .ok (.aload_n 0, 1) := by decide +kernel
theorem dX5_init_5 : decode cX5_init 5 = .ok (.bipush 30, 2) := by decide +kernel
theorem dX5_init_7 : decode cX5_init 7 = .ok (.anewarray 9, 3) := by decide +kernel
theorem dX5_init_10 : decode cX5_init 10 = .ok (.putfield 11, 3) := by decide +kernel
theorem dX5_init_13 : decode cX5_init 13 = .ok (.return_, 1) := by decide +kernel
theorem dX5_fill_0 : decode cX5_fill 0 = .ok (.aload_n 0, 1) := by decide +kernel
theorem dX5_fill_1 : decode cX5_fill 1 = .ok (.iconst 0, 1) := by decide +kernel
theorem dX5_fill_2 : decode cX5_fill 2 = .ok (.putfield 17, 3) := by decide +kernel
theorem dX5_fill_5 : decode cX5_fill 5 = .ok (.iconst 0, 1) := by decide +kernel
theorem dX5_fill_6 : decode cX5_fill 6 = .ok (.istore 5, 2) := by decide +kernel
theorem dX5_fill_8 : decode cX5_fill 8 = .ok (.iload 5, 2) := by decide +kernel
theorem dX5_fill_10 : decode cX5_fill 10 = .ok (.aload_n 0, 1) := by decide +kernel
theorem dX5_fill_11 : decode cX5_fill 11 = .ok (.getfield 11, 3) := by decide +kernel
theorem dX5_fill_14 : decode cX5_fill 14 = .ok (.arraylength, 1) := by decide +kernel
theorem dX5_fill_15 : decode cX5_fill 15 = .ok (.if_icmp .ge 17, 3) := by decide +kernel
theorem dX5_fill_18 : decode cX5_fill 18 = .ok (.aload_n 0, 1) := by decide +kernel
theorem dX5_fill_19 : decode cX5_fill 19 = .ok (.getfield 11, 3) := by decide +kernel
theorem dX5_fill_22 : decode cX5_fill 22 = .ok (.iload 5, 2) := by decide +kernel
theorem dX5_fill_24 : decode cX5_fill 24 = .ok (.aconst_null, 1) := by decide +kernel
theorem dX5_fill_25 : decode cX5_fill 25 = .ok (.aastore, 1) := by decide +kernel
theorem dX5_fill_26 : decode cX5_fill 26 = .ok (.iinc 5 1, 3) := by decide +kernel
theorem dX5_fill_29 : decode cX5_fill 29 = .ok (.goto (-21), 3) := by decide +kernel
theorem dX5_fill_32 : decode cX5_fill 32 = .ok (.iconst 0, 1) := by decide +kernel
theorem dX5_fill_33 : decode cX5_fill 33 = .ok (.istore 5, 2) := by decide +kernel
theorem dX5_fill_35 : decode cX5_fill 35 = .ok (.iload 5, 2) := by decide +kernel
theorem dX5_fill_37 : decode cX5_fill 37 = .ok (.aload_n 1, 1) := by decide +kernel
theorem dX5_fill_38 : decode cX5_fill 38 = .ok (.getfield 21, 3) := by decide +kernel
theorem dX5_fill_41 : decode cX5_fill 41 = .ok (.if_icmp .ge 56, 3) := by decide +kernel
theorem dX5_fill_44 : decode cX5_fill 44 = .ok (.aload_n 1, 1) := by decide +kernel
theorem dX5_fill_45 : decode cX5_fill 45 = .ok (.iload 5, 2) := by decide +kernel
theorem dX5_fill_47 : decode cX5_fill 47 = .ok (.invokevirtual 24, 3) := by decide +kernel
theorem dX5_fill_50 : decode cX5_fill 50 = .ok (.astore 6, 2) := by decide +kernel
theorem dX5_fill_52 : decode cX5_fill 52 = .ok (.aload 6, 2) := by decide +kernel
theorem dX5_fill_54 : decode cX5_fill 54 = .ok (.ifnull 37, 3) := by decide +kernel
theorem dX5_fill_57 : decode cX5_fill 57 = .ok (.aload 6, 2) := by decide +kernel
theorem dX5_fill_59 : decode cX5_fill 59 = .ok (.getfield 28, 3) := by decide +kernel
theorem dX5_fill_62 : decode cX5_fill 62 = .ok (.aload_n 2, 1) := by decide +kernel
theorem dX5_fill_63 : decode cX5_fill 63 = .ok (.if_acmp .ne 28, 3) := by decide +kernel
theorem dX5_fill_66 : decode cX5_fill 66 = .ok (.aload 6, 2) := by decide +kernel
theorem dX5_fill_68 : decode cX5_fill 68 = .ok (.invokevirtual 32, 3) := by decide +kernel
theorem dX5_fill_71 : decode cX5_fill 71 = .ok (.ifCond .eq 20, 3) := by decide +kernel
theorem dX5_fill_74 : decode cX5_fill 74 = .ok (.aload 6, 2) := by decide +kernel
theorem dX5_fill_76 : decode cX5_fill 76 = .ok (.iload_n 3, 1) := by decide +kernel
theorem dX5_fill_77 : decode cX5_fill 77 = .ok (.iload 4, 2) := by decide +kernel
theorem dX5_fill_79 : decode cX5_fill 79 = .ok (.invokevirtual 36, 3) := by decide +kernel
theorem dX5_fill_82 : decode cX5_fill 82 = .ok (.ifCond .eq 9, 3) := by decide +kernel
theorem dX5_fill_85 : decode cX5_fill 85 = .ok (.aload_n 0, 1) := by decide +kernel
theorem dX5_fill_86 : decode cX5_fill 86 = .ok (.aload 6, 2) := by decide +kernel
theorem dX5_fill_88 : decode cX5_fill 88 = .ok (.invokevirtual 40, 3) := by decide +kernel
theorem dX5_fill_91 : decode cX5_fill 91 = .ok (.iinc 5 1, 3) := by decide +kernel
theorem dX5_fill_94 : decode cX5_fill 94 = .ok (.goto (-59), 3) := by decide +kernel
theorem dX5_fill_97 : decode cX5_fill 97 = .ok (.return_, 1) := by decide +kernel
theorem dX5_enter_0 : decode cX5_enter 0 = .ok (.aload_n 1, 1) := by decide +kernel
theorem dX5_enter_1 : decode cX5_enter 1 = .ok (.getfield 44, 3) := by decide +kernel
theorem dX5_enter_4 : decode cX5_enter 4 = .ok (.istore_n 2, 1) := by decide +kernel
theorem dX5_enter_5 : decode cX5_enter 5 = .ok (.iload_n 2, 1) := by decide +kernel
theorem dX5_enter_6 : decode cX5_enter 6 = .ok (.ifCond .lt 29, 3) := by decide +kernel
theorem dX5_enter_9 : decode cX5_enter 9 = .ok (.iload_n 2, 1) := by decide +kernel
theorem dX5_enter_10 : decode cX5_enter 10 = .ok (.aload_n 0, 1) := by decide +kernel
theorem dX5_enter_11 : decode cX5_enter 11 = .ok (.getfield 11, 3) := by decide +kernel
theorem dX5_enter_14 : decode cX5_enter 14 = .ok (.arraylength, 1) := by decide +kernel
theorem dX5_enter_15 : decode cX5_enter 15 = .ok (.if_icmp .ge 20, 3) := by decide +kernel
theorem dX5_enter_18 : decode cX5_enter 18 = .ok (.aload_n 0, 1) := by decide +kernel
theorem dX5_enter_19 : decode cX5_enter 19 = .ok (.getfield 11, 3) := by decide +kernel
theorem dX5_enter_22 : decode cX5_enter 22 = .ok (.iload_n 2, 1) := by decide +kernel
theorem dX5_enter_23 : decode cX5_enter 23 = .ok (.aload_n 1, 1) := by decide +kernel
theorem dX5_enter_24 : decode cX5_enter 24 = .ok (.aastore, 1) := by decide +kernel
theorem dX5_enter_25 : decode cX5_enter 25 = .ok (.aload_n 0, 1) := by decide +kernel
theorem dX5_enter_26 : decode cX5_enter 26 = .ok (.dup, 1) := by decide +kernel
theorem dX5_enter_27 : decode cX5_enter 27 = .ok (.getfield 17, 3) := by decide +kernel
theorem dX5_enter_30 : decode cX5_enter 30 = .ok (.iconst 1, 1) := by decide +kernel
theorem dX5_enter_31 : decode cX5_enter 31 = .ok (.iadd, 1) := by decide +kernel
theorem dX5_enter_32 : decode cX5_enter 32 = .ok (.putfield 17, 3) := by decide +kernel
theorem dX5_enter_35 : decode cX5_enter 35 = .ok (.return_, 1) := by decide +kernel
theorem dX5_at_0 : decode cX5_at 0 = .ok (.iload_n 1, 1) := by decide +kernel
theorem dX5_at_1 : decode cX5_at 1 = .ok (.ifCond .lt 21, 3) := by decide +kernel
theorem dX5_at_4 : decode cX5_at 4 = .ok (.iload_n 1, 1) := by decide +kernel
theorem dX5_at_5 : decode cX5_at 5 = .ok (.aload_n 0, 1) := by decide +kernel
theorem dX5_at_6 : decode cX5_at 6 = .ok (.getfield 11, 3) := by decide +kernel
theorem dX5_at_9 : decode cX5_at 9 = .ok (.arraylength, 1) := by decide +kernel
theorem dX5_at_10 : decode cX5_at 10 = .ok (.if_icmp .ge 12, 3) := by decide +kernel
theorem dX5_at_13 : decode cX5_at 13 = .ok (.aload_n 0, 1) := by decide +kernel
theorem dX5_at_14 : decode cX5_at 14 = .ok (.getfield 11, 3) := by decide +kernel
theorem dX5_at_17 : decode cX5_at 17 = .ok (.iload_n 1, 1) := by decide +kernel
theorem dX5_at_18 : decode cX5_at 18 = .ok (.aaload, 1) := by decide +kernel
theorem dX5_at_19 : decode cX5_at 19 = .ok (.goto 4, 3) := by decide +kernel
theorem dX5_at_22 : decode cX5_at 22 = .ok (.aconst_null, 1) := by decide +kernel
theorem dX5_at_23 : decode cX5_at 23 = .ok (.areturn, 1) := by decide +kernel
theorem dX6_init_0 : decode cX6_init 0 = .ok (.aload_n 0, 1) := by decide +kernel
theorem dX6_init_1 : decode cX6_init 1 = .ok (.invokespecial 3, 3) := by decide +kernel
theorem dX6_init_4 : decode cX6_init 4 = .ok (.aload_n 0, 1) := by decide +kernel
theorem dX6_init_5 : decode cX6_init 5 = .ok (.sipush 400, 3) := by decide +kernel
theorem dX6_init_8 : decode cX6_init 8 = .ok (.newarray .boolean, 2) := by decide +kernel
theorem dX6_init_10 : decode cX6_init 10 = .ok (.putfield 9, 3) := by decide +kernel
theorem dX6_init_13 : decode cX6_init 13 = .ok (.return_, 1) := by decide +kernel
theorem dX6_fill_0 : decode cX6_fill 0 = .ok (.aload_n 0, 1) := by decide +kernel
theorem dX6_fill_1 : decode cX6_fill 1 = .ok (.aload_n 2, 1) := by decide +kernel
theorem dX6_fill_2 : decode cX6_fill 2 = .ok (.putfield 15, 3) := by decide +kernel
theorem dX6_fill_5 : decode cX6_fill 5 = .ok (.iconst 0, 1) := by decide +kernel
theorem dX6_fill_6 : decode cX6_fill 6 = .ok (.istore 5, 2) := by decide +kernel
theorem dX6_fill_8 : decode cX6_fill 8 = .ok (.iload 5, 2) := by decide +kernel
theorem dX6_fill_10 : decode cX6_fill 10 = .ok (.aload_n 1, 1) := by decide +kernel
theorem dX6_fill_11 : decode cX6_fill 11 = .ok (.getfield 19, 3) := by decide +kernel
theorem dX6_fill_14 : decode cX6_fill 14 = .ok (.if_icmp .ge 66, 3) := by decide +kernel
theorem dX6_fill_17 : decode cX6_fill 17 = .ok (.iload 5, 2) := by decide +kernel
theorem dX6_fill_19 : decode cX6_fill 19 = .ok (.aload_n 0, 1) := by decide +kernel
theorem dX6_fill_20 : decode cX6_fill 20 = .ok (.getfield 9, 3) := by decide +kernel
theorem dX6_fill_23 : decode cX6_fill 23 = .ok (.arraylength, 1) := by decide +kernel
theorem dX6_fill_24 : decode cX6_fill 24 = .ok (.if_icmp .ge 56, 3) := by decide +kernel
theorem dX6_fill_27 : decode cX6_fill 27 = .ok (.aload_n 1, 1) := by decide +kernel
theorem dX6_fill_28 : decode cX6_fill 28 = .ok (.iload 5, 2) := by decide +kernel
theorem dX6_fill_30 : decode cX6_fill 30 = .ok (.invokevirtual 25, 3) := by decide +kernel
theorem dX6_fill_33 : decode cX6_fill 33 = .ok (.astore 6, 2) := by decide +kernel
theorem dX6_fill_35 : decode cX6_fill 35 = .ok (.aload_n 0, 1) := by decide +kernel
theorem dX6_fill_36 : decode cX6_fill 36 = .ok (.getfield 9, 3) := by decide +kernel
theorem dX6_fill_39 : decode cX6_fill 39 = .ok (.iload 5, 2) := by decide +kernel
theorem dX6_fill_41 : decode cX6_fill 41 = .ok (.aload 6, 2) := by decide +kernel
theorem dX6_fill_43 : decode cX6_fill 43 = .ok (.ifnull 29, 3) := by decide +kernel
theorem dX6_fill_46 : decode cX6_fill 46 = .ok (.aload 6, 2) := by decide +kernel
theorem dX6_fill_48 : decode cX6_fill 48 = .ok (.iload_n 3, 1) := by decide +kernel
theorem dX6_fill_49 : decode cX6_fill 49 = .ok (.iload 4, 2) := by decide +kernel
theorem dX6_fill_51 : decode cX6_fill 51 = .ok (.invokevirtual 29, 3) := by decide +kernel
theorem dX6_fill_54 : decode cX6_fill 54 = .ok (.ifCond .eq 18, 3) := by decide +kernel
theorem dX6_fill_57 : decode cX6_fill 57 = .ok (.aload 6, 2) := by decide +kernel
theorem dX6_fill_59 : decode cX6_fill 59 = .ok (.aload_n 2, 1) := by decide +kernel
theorem dX6_fill_60 : decode cX6_fill 60 = .ok (.iload 4, 2) := by decide +kernel
theorem dX6_fill_62 : decode cX6_fill 62 = .ok (.invokevirtual 35, 3) := by decide +kernel
theorem dX6_fill_65 : decode cX6_fill 65 = .ok (.ifCond .eq 7, 3) := by decide +kernel
theorem dX6_fill_68 : decode cX6_fill 68 = .ok (.iconst 1, 1) := by decide +kernel
theorem dX6_fill_69 : decode cX6_fill 69 = .ok (.goto 4, 3) := by decide +kernel
theorem dX6_fill_72 : decode cX6_fill 72 = .ok (.iconst 0, 1) := by decide +kernel
theorem dX6_fill_73 : decode cX6_fill 73 = .ok (.bastore, 1) := by decide +kernel
theorem dX6_fill_74 : decode cX6_fill 74 = .ok (.iinc 5 1, 3) := by decide +kernel
theorem dX6_fill_77 : decode cX6_fill 77 = .ok (.goto (-69), 3) := by decide +kernel
theorem dX6_fill_80 : decode cX6_fill 80 = .ok (.return_, 1) := by decide +kernel
theorem dX6_hasPaper_0 : decode cX6_hasPaper 0 = .ok (.aload_n 1, 1) := by decide +kernel
theorem dX6_hasPaper_1 : decode cX6_hasPaper 1 = .ok (.ifnull 38, 3) := by decide +kernel
theorem dX6_hasPaper_4 : decode cX6_hasPaper 4 = .ok (.aload_n 1, 1) := by decide +kernel
theorem dX6_hasPaper_5 : decode cX6_hasPaper 5 = .ok (.getfield 39, 3) := by decide +kernel
theorem dX6_hasPaper_8 : decode cX6_hasPaper 8 = .ok (.ifCond .lt 31, 3) := by decide +kernel
theorem dX6_hasPaper_11 : decode cX6_hasPaper 11 = .ok (.aload_n 1, 1) := by decide +kernel
theorem dX6_hasPaper_12 : decode cX6_hasPaper 12 = .ok (.getfield 39, 3) := by decide +kernel
theorem dX6_hasPaper_15 : decode cX6_hasPaper 15 = .ok (.aload_n 0, 1) := by decide +kernel
theorem dX6_hasPaper_16 : decode cX6_hasPaper 16 = .ok (.getfield 9, 3) := by decide +kernel
theorem dX6_hasPaper_19 : decode cX6_hasPaper 19 = .ok (.arraylength, 1) := by decide +kernel
theorem dX6_hasPaper_20 : decode cX6_hasPaper 20 = .ok (.if_icmp .ge 19, 3) := by decide +kernel
theorem dX6_hasPaper_23 : decode cX6_hasPaper 23 = .ok (.aload_n 0, 1) := by decide +kernel
theorem dX6_hasPaper_24 : decode cX6_hasPaper 24 = .ok (.getfield 9, 3) := by decide +kernel
theorem dX6_hasPaper_27 : decode cX6_hasPaper 27 = .ok (.aload_n 1, 1) := by decide +kernel
theorem dX6_hasPaper_28 : decode cX6_hasPaper 28 = .ok (.getfield 39, 3) := by decide +kernel
theorem dX6_hasPaper_31 : decode cX6_hasPaper 31 = .ok (.baload, 1) := by decide +kernel
theorem dX6_hasPaper_32 : decode cX6_hasPaper 32 = .ok (.ifCond .eq 7, 3) := by decide +kernel
theorem dX6_hasPaper_35 : decode cX6_hasPaper 35 = .ok (.iconst 1, 1) := by decide +kernel
theorem dX6_hasPaper_36 : decode cX6_hasPaper 36 = .ok (.goto 4, 3) := by decide +kernel
theorem dX6_hasPaper_39 : decode cX6_hasPaper 39 = .ok (.iconst 0, 1) := by decide +kernel
theorem dX6_hasPaper_40 : decode cX6_hasPaper 40 = .ok (.ireturn, 1) := by decide +kernel
