theorem dX0_init_0 : decode cX0_init 0 = .ok (.aload_n 0, 1) := by decide +kernel
theorem dX0_init_1 : decode cX0_init 1 = .ok (.invokespecial 3, 3) := by decide +kernel
theorem dX0_init_4 : decode cX0_init 4 = .ok (.aload_n 0, 1) := by decide +kernel
theorem dX0_init_5 : decode cX0_init 5 = .ok (.iload_n 1, 1) := by decide +kernel
theorem dX0_init_6 : decode cX0_init 6 = .ok (.putfield 9, 3) := by decide +kernel
theorem dX0_init_9 : decode cX0_init 9 = .ok (.aload_n 0, 1) := by decide +kernel
theorem dX0_init_10 : decode cX0_init 10 = .ok (.iload_n 3, 1) := by decide +kernel
theorem dX0_init_11 : decode cX0_init 11 = .ok (.putfield 15, 3) := by decide +kernel
theorem dX0_init_14 : decode cX0_init 14 = .ok (.aload_n 0, 1) := by decide +kernel
theorem dX0_init_15 : decode cX0_init 15 = .ok (.iload 4, 2) := by decide +kernel
theorem dX0_init_17 : decode cX0_init 17 = .ok (.putfield 18, 3) := by decide +kernel
theorem dX0_init_20 : decode cX0_init 20 = .ok (.aload_n 0, 1) := by decide +kernel
theorem dX0_init_21 : decode cX0_init 21 = .ok (.iload 5, 2) := by decide +kernel
theorem dX0_init_23 : decode cX0_init 23 = .ok (.putfield 21, 3) := by decide +kernel
theorem dX0_init_26 : decode cX0_init 26 = .ok (.aload_n 0, 1) := by decide +kernel
theorem dX0_init_27 : decode cX0_init 27 = .ok (.iload_n 2, 1) := by decide +kernel
theorem dX0_init_28 : decode cX0_init 28 = .ok (.ifCond .ge 7, 3) := by decide +kernel
theorem dX0_init_31 : decode cX0_init 31 = .ok (.iconst 0, 1) := by decide +kernel
theorem dX0_init_32 : decode cX0_init 32 = .ok (.goto 4, 3) := by decide +kernel
theorem dX0_init_35 : decode cX0_init 35 = .ok (.iload_n 2, 1) := by decide +kernel
theorem dX0_init_36 : decode cX0_init 36 = .ok (.newarray .int, 2) := by decide +kernel
theorem dX0_init_38 : decode cX0_init 38 = .ok (.putfield 24, 3) := by decide +kernel
theorem dX0_init_41 : decode cX0_init 41 = .ok (.aload_n 0, 1) := by decide +kernel
theorem dX0_init_42 : decode cX0_init 42 = .ok (.bipush 8, 2) := by decide +kernel
theorem dX0_init_44 : decode cX0_init 44 = .ok (.anewarray 28, 3) := by decide +kernel
theorem dX0_init_47 : decode cX0_init 47 = .ok (.putfield 30, 3) := by decide +kernel
theorem dX0_init_50 : decode cX0_init 50 = .ok (.iconst 0, 1) := by decide +kernel
theorem dX0_init_51 : decode cX0_init 51 = .ok (.istore 6, 2) := by decide +kernel
theorem dX0_init_53 : decode cX0_init 53 = .ok (.iload 6, 2) := by decide +kernel
theorem dX0_init_55 : decode cX0_init 55 = .ok (.aload_n 0, 1) := by decide +kernel
theorem dX0_init_56 : decode cX0_init 56 = .ok (.getfield 24, 3) := by decide +kernel
theorem dX0_init_59 : decode cX0_init 59 = .ok (.arraylength, 1) := by decide +kernel
theorem dX0_init_60 : decode cX0_init 60 = .ok (.if_icmp .ge 20, 3) := by decide +kernel
theorem dX0_init_63 : decode cX0_init 63 = .ok (.aload_n 0, 1) := by decide +kernel
theorem dX0_init_64 : decode cX0_init 64 = .ok (.getfield 24, 3) := by decide +kernel
theorem dX0_init_67 : decode cX0_init 67 = .ok (.iload 6, 2) := by decide +kernel
theorem dX0_init_69 : decode cX0_init 69 = .ok (.iload 6, 2) := by decide +kernel
theorem dX0_init_71 : decode cX0_init 71 = .ok (.iconst 1, 1) := by decide +kernel
theorem dX0_init_72 : decode cX0_init 72 = .ok (.iadd, 1) := by decide +kernel
theorem dX0_init_73 : decode cX0_init 73 = .ok (.iastore, 1) := by decide +kernel
theorem dX0_init_74 : decode cX0_init 74 = .ok (.iinc 6 1, 3) := by decide +kernel
theorem dX0_init_77 : decode cX0_init 77 = .ok (.goto (-24), 3) := by decide +kernel
theorem dX0_init_80 : decode cX0_init 80 = .ok (.return_, 1) := by decide +kernel
theorem dX0_hasArticle_0 : decode cX0_hasArticle 0 = .ok (.iload_n 1, 1) := by decide +kernel
theorem dX0_hasArticle_1 : decode cX0_hasArticle 1 = .ok (.ifCond .lt 16, 3) := by decide +kernel
theorem dX0_hasArticle_4 : decode cX0_hasArticle 4 = .ok (.iload_n 1, 1) := by decide +kernel
theorem dX0_hasArticle_5 : decode cX0_hasArticle 5 = .ok (.aload_n 0, 1) := by decide +kernel
theorem dX0_hasArticle_6 : decode cX0_hasArticle 6 = .ok (.getfield 24, 3) := by decide +kernel
theorem dX0_hasArticle_9 : decode cX0_hasArticle 9 = .ok (.arraylength, 1) := by decide +kernel
theorem dX0_hasArticle_10 : decode cX0_hasArticle 10 = .ok (.if_icmp .ge 7, 3) := by decide +kernel
theorem dX0_hasArticle_13 : decode cX0_hasArticle 13 = .ok (.iconst 1, 1) := by decide +kernel
theorem dX0_hasArticle_14 : decode cX0_hasArticle 14 = .ok (.goto 4, 3) := by decide +kernel
theorem dX0_hasArticle_17 : decode cX0_hasArticle 17 = .ok (.iconst 0, 1) := by decide +kernel
theorem dX0_hasArticle_18 : decode cX0_hasArticle 18 = .ok (.ireturn, 1) := by decide +kernel
theorem dX0_wordsOf_0 : decode cX0_wordsOf 0 = .ok (.iload_n 1, 1) := by decide +kernel
theorem dX0_wordsOf_1 : decode cX0_wordsOf 1 = .ok (.ifCond .lt 21, 3) := by decide +kernel
theorem dX0_wordsOf_4 : decode cX0_wordsOf 4 = .ok (.iload_n 1, 1) := by decide +kernel
theorem dX0_wordsOf_5 : decode cX0_wordsOf 5 = .ok (.aload_n 0, 1) := by decide +kernel
theorem dX0_wordsOf_6 : decode cX0_wordsOf 6 = .ok (.getfield 24, 3) := by decide +kernel
theorem dX0_wordsOf_9 : decode cX0_wordsOf 9 = .ok (.arraylength, 1) := by decide +kernel
theorem dX0_wordsOf_10 : decode cX0_wordsOf 10 = .ok (.if_icmp .ge 12, 3) := by decide +kernel
theorem dX0_wordsOf_13 : decode cX0_wordsOf 13 = .ok (.aload_n 0, 1) := by decide +kernel
theorem dX0_wordsOf_14 : decode cX0_wordsOf 14 = .ok (.getfield 24, 3) := by decide +kernel
theorem dX0_wordsOf_17 : decode cX0_wordsOf 17 = .ok (.iload_n 1, 1) := by decide +kernel
theorem dX0_wordsOf_18 : decode cX0_wordsOf 18 = .ok (.iaload, 1) := by decide +kernel
theorem dX0_wordsOf_19 : decode cX0_wordsOf 19 = .ok (.goto 4, 3) := by decide +kernel
theorem dX0_wordsOf_22 : decode cX0_wordsOf 22 = .ok (.iconst (-1), 1) := by decide +kernel
theorem dX0_wordsOf_23 : decode cX0_wordsOf 23 = .ok (.ireturn, 1) := by decide +kernel
theorem dX0_reword_0 : decode cX0_reword 0 = .ok (.iload_n 1, 1) := by decide +kernel
theorem dX0_reword_1 : decode cX0_reword 1 = .ok (.ifCond .lt 12, 3) := by decide +kernel
theorem dX0_reword_4 : decode cX0_reword 4 = .ok (.iload_n 1, 1) := by decide +kernel
theorem dX0_reword_5 : decode cX0_reword 5 = .ok (.aload_n 0, 1) := by decide +kernel
theorem dX0_reword_6 : decode cX0_reword 6 = .ok (.getfield 24, 3) := by decide +kernel
theorem dX0_reword_9 : decode cX0_reword 9 = .ok (.arraylength, 1) := by decide +kernel
theorem dX0_reword_10 : decode cX0_reword 10 = .ok (.if_icmp .lt 5, 3) := by decide +kernel
theorem dX0_reword_13 : decode cX0_reword 13 = .ok (.iconst (-1), 1) := by decide +kernel
theorem dX0_reword_14 : decode cX0_reword 14 = .ok (.ireturn, 1) := by decide +kernel
theorem dX0_reword_15 : decode cX0_reword 15 = .ok (.aload_n 0, 1) := by decide +kernel
theorem dX0_reword_16 : decode cX0_reword 16 = .ok (.getfield 24, 3) := by decide +kernel
theorem dX0_reword_19 : decode cX0_reword 19 = .ok (.iload_n 1, 1) := by decide +kernel
theorem dX0_reword_20 : decode cX0_reword 20 = .ok (.iaload, 1) := by decide +kernel
theorem dX0_reword_21 : decode cX0_reword 21 = .ok (.istore_n 3, 1) := by decide +kernel
theorem dX0_reword_22 : decode cX0_reword 22 = .ok (.aload_n 0, 1) := by decide +kernel
theorem dX0_reword_23 : decode cX0_reword 23 = .ok (.getfield 24, 3) := by decide +kernel
theorem dX0_reword_26 : decode cX0_reword 26 = .ok (.iload_n 1, 1) := by decide +kernel
theorem dX0_reword_27 : decode cX0_reword 27 = .ok (.iload_n 2, 1) := by decide +kernel
theorem dX0_reword_28 : decode cX0_reword 28 = .ok (.iastore, 1) := by decide +kernel
theorem dX0_reword_29 : decode cX0_reword 29 = .ok (.iload_n 3, 1) := by decide +kernel
theorem dX0_reword_30 : decode cX0_reword 30 = .ok (.ireturn, 1) := by decide +kernel
theorem dX0_annexAt_0 : decode cX0_annexAt 0 = .ok (.iload_n 1, 1) := by decide +kernel
theorem dX0_annexAt_1 : decode cX0_annexAt 1 = .ok (.ifCond .lt 29, 3) := by decide +kernel
theorem dX0_annexAt_4 : decode cX0_annexAt 4 = .ok (.iload_n 1, 1) := by decide +kernel
theorem dX0_annexAt_5 : decode cX0_annexAt 5 = .ok (.aload_n 0, 1) := by decide +kernel
theorem dX0_annexAt_6 : decode cX0_annexAt 6 = .ok (.getfield 34, 3) := by decide +kernel
theorem dX0_annexAt_9 : decode cX0_annexAt 9 = .ok (.if_icmp .ge 21, 3) := by decide +kernel
theorem dX0_annexAt_12 : decode cX0_annexAt 12 = .ok (.iload_n 1, 1) := by decide +kernel
theorem dX0_annexAt_13 : decode cX0_annexAt 13 = .ok (.aload_n 0, 1) := by decide +kernel
theorem dX0_annexAt_14 : decode cX0_annexAt 14 = .ok (.getfield 30, 3) := by decide +kernel
theorem dX0_annexAt_17 : decode cX0_annexAt 17 = .ok (.arraylength, 1) := by decide +kernel
theorem dX0_annexAt_18 : decode cX0_annexAt 18 = .ok (.if_icmp .ge 12, 3) := by decide +kernel
theorem dX0_annexAt_21 : decode cX0_annexAt 21 = .ok (.aload_n 0, 1) := by decide +kernel
theorem dX0_annexAt_22 : decode cX0_annexAt 22 = .ok (.getfield 30, 3) := by decide +kernel
theorem dX0_annexAt_25 : decode cX0_annexAt 25 = .ok (.iload_n 1, 1) := by decide +kernel
theorem dX0_annexAt_26 : decode cX0_annexAt 26 = .ok (.aaload, 1) := by decide +kernel
theorem dX0_annexAt_27 : decode cX0_annexAt 27 = .ok (.goto 4, 3) := by decide +kernel
theorem dX0_annexAt_30 : decode cX0_annexAt 30 = .ok (.aconst_null, 1) := by decide +kernel
theorem dX0_annexAt_31 : decode cX0_annexAt 31 = .ok (.areturn, 1) := by decide +kernel
theorem dX0_addAnnex_0 : decode cX0_addAnnex 0 = .ok (.aload_n 0, 1) := by decide +kernel
theorem dX0_addAnnex_1 : decode cX0_addAnnex 1 = .ok (.getfield 34, 3) := by decide +kernel
theorem dX0_addAnnex_4 : decode cX0_addAnnex 4 = .ok (.ifCond .lt 15, 3) := by decide +kernel
theorem dX0_addAnnex_7 : decode cX0_addAnnex 7 = .ok (.aload_n 0, 1) := by decide +kernel
theorem dX0_addAnnex_8 : decode cX0_addAnnex 8 = .ok (.getfield 34, 3) := by decide +kernel
theorem dX0_addAnnex_11 : decode cX0_addAnnex 11 = .ok (.aload_n 0, 1) := by decide +kernel
theorem dX0_addAnnex_12 : decode cX0_addAnnex 12 = .ok (.getfield 30, 3) := by decide +kernel
theorem dX0_addAnnex_15 : decode cX0_addAnnex 15 = .ok (.arraylength, 1) := by decide +kernel
theorem dX0_addAnnex_16 : decode cX0_addAnnex 16 = .ok (.if_icmp .lt 6, 3) := by decide +kernel
theorem dX0_addAnnex_19 : decode cX0_addAnnex 19 = .ok (.bipush (-8), 2) := by decide +kernel
theorem dX0_addAnnex_21 : decode cX0_addAnnex 21 = .ok (.ireturn, 1) := by decide +kernel
theorem dX0_addAnnex_22 : decode cX0_addAnnex 22 = .ok (.aload_n 0, 1) := by decide +kernel
theorem dX0_addAnnex_23 : decode cX0_addAnnex 23 = .ok (.getfield 30, 3) := by decide +kernel
theorem dX0_addAnnex_26 : decode cX0_addAnnex 26 = .ok (.aload_n 0, 1) := by decide +kernel
theorem dX0_addAnnex_27 : decode cX0_addAnnex 27 = .ok (.getfield 34, 3) := by decide +kernel
theorem dX0_addAnnex_30 : decode cX0_addAnnex 30 = .ok (.aload_n 1, 1) := by decide +kernel
theorem dX0_addAnnex_31 : decode cX0_addAnnex 31 = .ok (.aastore, 1) := by decide +kernel
theorem dX0_addAnnex_32 : decode cX0_addAnnex 32 = .ok (.aload_n 0, 1) := by decide +kernel
theorem dX0_addAnnex_33 : decode cX0_addAnnex 33 = .ok (.dup, 1) := by decide +kernel
theorem dX0_addAnnex_34 : decode cX0_addAnnex 34 = .ok (.getfield 34, 3) := by decide +kernel
theorem dX0_addAnnex_37 : decode cX0_addAnnex 37 = .ok (.iconst 1, 1) := by decide +kernel
theorem dX0_addAnnex_38 : decode cX0_addAnnex 38 = .ok (.iadd, 1) := by decide +kernel
theorem dX0_addAnnex_39 : decode cX0_addAnnex 39 = .ok (.putfield 34, 3) := by decide +kernel
theorem dX0_addAnnex_42 : decode cX0_addAnnex 42 = .ok (.aload_n 0, 1) := by decide +kernel
theorem dX0_addAnnex_43 : decode cX0_addAnnex 43 = .ok (.getfield 34, 3) := by decide +kernel
theorem dX0_addAnnex_46 : decode cX0_addAnnex 46 = .ok (.iconst 1, 1) := by decide +kernel
theorem dX0_addAnnex_47 : decode cX0_addAnnex 47 = .ok (.isub, 1) := by decide +kernel
theorem dX0_addAnnex_48 : decode cX0_addAnnex 48 = .ok (.ireturn, 1) := by decide +kernel
theorem dX0_detail_0 : decode cX0_detail 0 = .ok (.iload_n 1, 1) := by decide +kernel
theorem dX0_detail_1 : decode cX0_detail 1 = .ok (.tableswitch 61 0 4 #[35, 41, 46, 51, 56], 35) := by decide +kernel
theorem dX0_detail_36 : decode cX0_detail 36 = .ok (.aload_n 0, 1) := by decide +kernel
theorem dX0_detail_37 : decode cX0_detail 37 = .ok (.getfield 24, 3) := by decide +kernel
theorem dX0_detail_40 : decode cX0_detail 40 = .ok (.arraylength, 1) := by decide +kernel
theorem dX0_detail_41 : decode cX0_detail 41 = .ok (.ireturn, 1) := by decide +kernel
theorem dX0_detail_42 : decode cX0_detail 42 = .ok (.aload_n 0, 1) := by decide +kernel
theorem dX0_detail_43 : decode cX0_detail 43 = .ok (.getfield 15, 3) := by decide +kernel
theorem dX0_detail_46 : decode cX0_detail 46 = .ok (.ireturn, 1) := by decide +kernel
theorem dX0_detail_47 : decode cX0_detail 47 = .ok (.aload_n 0, 1) := by decide +kernel
theorem dX0_detail_48 : decode cX0_detail 48 = .ok (.getfield 18, 3) := by decide +kernel
theorem dX0_detail_51 : decode cX0_detail 51 = .ok (.ireturn, 1) := by decide +kernel
theorem dX0_detail_52 : decode cX0_detail 52 = .ok (.aload_n 0, 1) := by decide +kernel
theorem dX0_detail_53 : decode cX0_detail 53 = .ok (.getfield 21, 3) := by decide +kernel
theorem dX0_detail_56 : decode cX0_detail 56 = .ok (.ireturn, 1) := by decide +kernel
theorem dX0_detail_57 : decode cX0_detail 57 = .ok (.aload_n 0, 1) := by decide +kernel
theorem dX0_detail_58 : decode cX0_detail 58 = .ok (.getfield 34, 3) := by decide +kernel
theorem dX0_detail_61 : decode cX0_detail 61 = .ok (.ireturn, 1) := by decide +kernel
theorem dX0_detail_62 : decode cX0_detail 62 = .ok (.iconst (-1), 1) := by decide +kernel
theorem dX0_detail_63 : decode cX0_detail 63 = .ok (.ireturn, 1) := by decide +kernel
theorem dX1_init_0 : decode cX1_init 0 = .ok (.aload_n 0, 1) := by decide +kernel
theorem dX1_init_1 : decode cX1_init 1 = .ok (.invokespecial 3, 3) := by decide +kernel
theorem dX1_init_4 : decode cX1_init 4 = .ok (.aload_n 0, 1) := by decide +kernel
theorem dX1_init_5 : decode cX1_init 5 = .ok (.iload_n 1, 1) := by decide +kernel
theorem dX1_init_6 : decode cX1_init 6 = .ok (.putfield 9, 3) := by decide +kernel
theorem dX1_init_9 : decode cX1_init 9 = .ok (.aload_n 0, 1) := by decide +kernel
theorem dX1_init_10 : decode cX1_init 10 = .ok (.iload_n 2, 1) := by decide +kernel
theorem dX1_init_11 : decode cX1_init 11 = .ok (.ifCond .ge 7, 3) := by decide +kernel
theorem dX1_init_14 : decode cX1_init 14 = .ok (.iconst 0, 1) := by decide +kernel
theorem dX1_init_15 : decode cX1_init 15 = .ok (.goto 4, 3) := by decide +kernel
theorem dX1_init_18 : decode cX1_init 18 = .ok (.iload_n 2, 1) := by decide +kernel
theorem dX1_init_19 : decode cX1_init 19 = .ok (.newarray .long, 2) := by decide +kernel
theorem dX1_init_21 : decode cX1_init 21 = .ok (.putfield 15, 3) := by decide +kernel
theorem dX1_init_24 : decode cX1_init 24 = .ok (.return_, 1) := by decide +kernel
theorem dX1_put_0 : decode cX1_put 0 = .ok (.aload_n 0, 1) := by decide +kernel
theorem dX1_put_1 : decode cX1_put 1 = .ok (.getfield 15, 3) := by decide +kernel
theorem dX1_put_4 : decode cX1_put 4 = .ok (.ifnonnull 6, 3) := by decide +kernel
theorem dX1_put_7 : decode cX1_put 7 = .ok (.bipush (-5), 2) := by decide +kernel
theorem dX1_put_9 : decode cX1_put 9 = .ok (.ireturn, 1) := by decide +kernel
theorem dX1_put_10 : decode cX1_put 10 = .ok (.iload_n 1, 1) := by decide +kernel
theorem dX1_put_11 : decode cX1_put 11 = .ok (.ifCond .lt 12, 3) := by decide +kernel
theorem dX1_put_14 : decode cX1_put 14 = .ok (.iload_n 1, 1) := by decide +kernel
theorem dX1_put_15 : decode cX1_put 15 = .ok (.aload_n 0, 1) := by decide +kernel
theorem dX1_put_16 : decode cX1_put 16 = .ok (.getfield 15, 3) := by decide +kernel
theorem dX1_put_19 : decode cX1_put 19 = .ok (.arraylength, 1) := by decide +kernel
theorem dX1_put_20 : decode cX1_put 20 = .ok (.if_icmp .lt 6, 3) := by decide +kernel
theorem dX1_put_23 : decode cX1_put 23 = .ok (.bipush (-6), 2) := by decide +kernel
theorem dX1_put_25 : decode cX1_put 25 = .ok (.ireturn, 1) := by decide +kernel
theorem dX1_put_26 : decode cX1_put 26 = .ok (.aload_n 0, 1) := by decide +kernel
theorem dX1_put_27 : decode cX1_put 27 = .ok (.getfield 15, 3) := by decide +kernel
theorem dX1_put_30 : decode cX1_put 30 = .ok (.iload_n 1, 1) := by decide +kernel
theorem dX1_put_31 : decode cX1_put 31 = .ok (.aload_n 0, 1) := by decide +kernel
theorem dX1_put_32 : decode cX1_put 32 = .ok (.lload_n 2, 1) := by decide +kernel
theorem dX1_put_33 : decode cX1_put 33 = .ok (.invokevirtual 19, 3) := by decide +kernel
theorem dX1_put_36 : decode cX1_put 36 = .ok (.lastore, 1) := by decide +kernel
theorem dX1_put_37 : decode cX1_put 37 = .ok (.iconst 0, 1) := by decide +kernel
theorem dX1_put_38 : decode cX1_put 38 = .ok (.ireturn, 1) := by decide +kernel
theorem dX1_get_0 : decode cX1_get 0 = .ok (.aload_n 0, 1) := by decide +kernel
theorem dX1_get_1 : decode cX1_get 1 = .ok (.getfield 15, 3) := by decide +kernel
theorem dX1_get_4 : decode cX1_get 4 = .ok (.ifnull 25, 3) := by decide +kernel
theorem dX1_get_7 : decode cX1_get 7 = .ok (.iload_n 1, 1) := by decide +kernel
theorem dX1_get_8 : decode cX1_get 8 = .ok (.ifCond .lt 21, 3) := by decide +kernel
theorem dX1_get_11 : decode cX1_get 11 = .ok (.iload_n 1, 1) := by decide +kernel
theorem dX1_get_12 : decode cX1_get 12 = .ok (.aload_n 0, 1) := by decide +kernel
theorem dX1_get_13 : decode cX1_get 13 = .ok (.getfield 15, 3) := by decide +kernel
theorem dX1_get_16 : decode cX1_get 16 = .ok (.arraylength, 1) := by decide +kernel
theorem dX1_get_17 : decode cX1_get 17 = .ok (.if_icmp .ge 12, 3) := by decide +kernel
theorem dX1_get_20 : decode cX1_get 20 = .ok (.aload_n 0, 1) := by decide +kernel
theorem dX1_get_21 : decode cX1_get 21 = .ok (.getfield 15, 3) := by decide +kernel
theorem dX1_get_24 : decode cX1_get 24 = .ok (.iload_n 1, 1) := by decide +kernel
theorem dX1_get_25 : decode cX1_get 25 = .ok (.laload, 1) := by decide +kernel
theorem dX1_get_26 : decode cX1_get 26 = .ok (.goto 4, 3) := by decide +kernel
theorem dX1_get_29 : decode cX1_get 29 = .ok (.lconst 0, 1) := by decide +kernel
theorem dX1_get_30 : decode cX1_get 30 = .ok (.lreturn, 1) := by decide +kernel
theorem dX1_hasRange_0 : decode cX1_hasRange 0 = .ok (.aload_n 0, 1) := by decide +kernel
theorem dX1_hasRange_1 : decode cX1_hasRange 1 = .ok (.getfield 15, 3) := by decide +kernel
theorem dX1_hasRange_4 : decode cX1_hasRange 4 = .ok (.ifnull 35, 3) := by decide +kernel
theorem dX1_hasRange_7 : decode cX1_hasRange 7 = .ok (.iload_n 1, 1) := by decide +kernel
theorem dX1_hasRange_8 : decode cX1_hasRange 8 = .ok (.ifCond .lt 31, 3) := by decide +kernel
theorem dX1_hasRange_11 : decode cX1_hasRange 11 = .ok (.iload_n 2, 1) := by decide +kernel
theorem dX1_hasRange_12 : decode cX1_hasRange 12 = .ok (.ifCond .lt 27, 3) := by decide +kernel
theorem dX1_hasRange_15 : decode cX1_hasRange 15 = .ok (.iload_n 1, 1) := by decide +kernel
theorem dX1_hasRange_16 : decode cX1_hasRange 16 = .ok (.aload_n 0, 1) := by decide +kernel
theorem dX1_hasRange_17 : decode cX1_hasRange 17 = .ok (.getfield 15, 3) := by decide +kernel
theorem dX1_hasRange_20 : decode cX1_hasRange 20 = .ok (.arraylength, 1) := by decide +kernel
theorem dX1_hasRange_21 : decode cX1_hasRange 21 = .ok (.if_icmp .gt 18, 3) := by decide +kernel
theorem dX1_hasRange_24 : decode cX1_hasRange 24 = .ok (.iload_n 2, 1) := by decide +kernel
theorem dX1_hasRange_25 : decode cX1_hasRange 25 = .ok (.aload_n 0, 1) := by decide +kernel
theorem dX1_hasRange_26 : decode cX1_hasRange 26 = .ok (.getfield 15, 3) := by decide +kernel
theorem dX1_hasRange_29 : decode cX1_hasRange 29 = .ok (.arraylength, 1) := by decide +kernel
theorem dX1_hasRange_30 : decode cX1_hasRange 30 = .ok (.iload_n 1, 1) := by decide +kernel
theorem dX1_hasRange_31 : decode cX1_hasRange 31 = .ok (.isub, 1) := by decide +kernel
theorem dX1_hasRange_32 : decode cX1_hasRange 32 = .ok (.if_icmp .gt 7, 3) := by decide +kernel
theorem dX1_hasRange_35 : decode cX1_hasRange 35 = .ok (.iconst 1, 1) := by decide +kernel
theorem dX1_hasRange_36 : decode cX1_hasRange 36 = .ok (.goto 4, 3) := by decide +kernel
theorem dX1_hasRange_39 : decode cX1_hasRange 39 = .ok (.iconst 0, 1) := by decide +kernel
theorem dX1_hasRange_40 : decode cX1_hasRange 40 = .ok (.ireturn, 1) := by decide +kernel
theorem dX1_cut_0 : decode cX1_cut 0 = .ok (.aload_n 0, 1) := by decide +kernel
theorem dX1_cut_1 : decode cX1_cut 1 = .ok (.getfield 9, 3) := by decide +kernel
theorem dX1_cut_4 : decode cX1_cut 4 = .ok (.tableswitch 42 0 2 #[28, 33, 38], 28) := by decide +kernel
theorem dX1_cut_32 : decode cX1_cut 32 = .ok (.lload_n 1, 1) := by decide +kernel
theorem dX1_cut_33 : decode cX1_cut 33 = .ok (.l2i, 1) := by decide +kernel
theorem dX1_cut_34 : decode cX1_cut 34 = .ok (.i2b, 1) := by decide +kernel
theorem dX1_cut_35 : decode cX1_cut 35 = .ok (.i2l, 1) := by decide +kernel
theorem dX1_cut_36 : decode cX1_cut 36 = .ok (.lreturn, 1) := by decide +kernel
theorem dX1_cut_37 : decode cX1_cut 37 = .ok (.lload_n 1, 1) := by decide +kernel
theorem dX1_cut_38 : decode cX1_cut 38 = .ok (.l2i, 1) := by decide +kernel
theorem dX1_cut_39 : decode cX1_cut 39 = .ok (.i2s, 1) := by decide +kernel
theorem dX1_cut_40 : decode cX1_cut 40 = .ok (.i2l, 1) := by decide +kernel
theorem dX1_cut_41 : decode cX1_cut 41 = .ok (.lreturn, 1) := by decide +kernel
theorem dX1_cut_42 : decode cX1_cut 42 = .ok (.lload_n 1, 1) := by decide +kernel
theorem dX1_cut_43 : decode cX1_cut 43 = .ok (.l2i, 1) := by decide +kernel
theorem dX1_cut_44 : decode cX1_cut 44 = .ok (.i2l, 1) := by decide +kernel
theorem dX1_cut_45 : decode cX1_cut 45 = .ok (.lreturn, 1) := by decide +kernel
theorem dX1_cut_46 : decode cX1_cut 46 = .ok (.lload_n 1, 1) := by decide +kernel
theorem dX1_cut_47 : decode cX1_cut 47 = .ok (.lreturn, 1) := by decide +kernel
theorem dX2_init_0 : decode cX2_init 0 = .ok (.aload_n 0, 1) := by decide +kernel
theorem dX2_init_1 : decode cX2_init 1 = .ok (.invokespecial 3, 3) := by decide +kernel
theorem dX2_init_4 : decode cX2_init 4 = .ok (.aload_n 0, 1) := by decide +kernel
theorem dX2_init_5 : decode cX2_init 5 = .ok (.new 9, 3) := by decide +kernel
theorem dX2_init_8 : decode cX2_init 8 = .ok (.dup, 1) := by decide +kernel
theorem dX2_init_9 : decode cX2_init 9 = .ok (.invokespecial 11, 3) := by decide +kernel
theorem dX2_init_12 : decode cX2_init 12 = .ok (.putfield 12, 3) := by decide +kernel
theorem dX2_init_15 : decode cX2_init 15 = .ok (.aload_n 0, 1) := by decide +kernel
theorem dX2_init_16 : decode cX2_init 16 = .ok (.new 18, 3) := by decide +kernel
theorem dX2_init_19 : decode cX2_init 19 = .ok (.dup, 1) := by decide +kernel
theorem dX2_init_20 : decode cX2_init 20 = .ok (.invokespecial 20, 3) := by decide +kernel
theorem dX2_init_23 : decode cX2_init 23 = .ok (.putfield 21, 3) := by decide +kernel
theorem dX2_init_26 : decode cX2_init 26 = .ok (.aload_n 0, 1) := by decide +kernel
theorem dX2_init_27 : decode cX2_init 27 = .ok (.new 18, 3) := by decide +kernel
theorem dX2_init_30 : decode cX2_init 30 = .ok (.dup, 1) := by decide +kernel
theorem dX2_init_31 : decode cX2_init 31 = .ok (.invokespecial 20, 3) := by decide +kernel
theorem dX2_init_34 : decode cX2_init 34 = .ok (.putfield 25, 3) := by decide +kernel
theorem dX2_init_37 : decode cX2_init 37 = .ok (.aload_n 0, 1) := by decide +kernel
theorem dX2_init_38 : decode cX2_init 38 = .ok (.sipush 400, 3) := by decide +kernel
theorem dX2_init_41 : decode cX2_init 41 = .ok (.newarray .boolean, 2) := by decide +kernel
theorem dX2_init_43 : decode cX2_init 43 = .ok (.putfield 28, 3) := by decide +kernel
theorem dX2_init_46 : decode cX2_init 46 = .ok (.return_, 1) := by decide +kernel
theorem dX2_settle_0 : decode cX2_settle 0 = .ok (.aload_n 0, 1) := by decide +kernel
theorem dX2_settle_1 : decode cX2_settle 1 = .ok (.invokevirtual 32, 3) := by decide +kernel
theorem dX2_settle_4 : decode cX2_settle 4 = .ok (.aload_n 0, 1) := by decide +kernel
theorem dX2_settle_5 : decode cX2_settle 5 = .ok (.getfield 12, 3) := by decide +kernel
theorem dX2_settle_8 : decode cX2_settle 8 = .ok (.aload_n 1, 1) := by decide +kernel
theorem dX2_settle_9 : decode cX2_settle 9 = .ok (.aload 4, 2) := by decide +kernel
theorem dX2_settle_11 : decode cX2_settle 11 = .ok (.iload 6, 2) := by decide +kernel
theorem dX2_settle_13 : decode cX2_settle 13 = .ok (.iload 7, 2) := by decide +kernel
theorem dX2_settle_15 : decode cX2_settle 15 = .ok (.invokevirtual 35, 3) := by decide +kernel
theorem dX2_settle_18 : decode cX2_settle 18 = .ok (.aload_n 0, 1) := by decide +kernel
theorem dX2_settle_19 : decode cX2_settle 19 = .ok (.aload 4, 2) := by decide +kernel
theorem dX2_settle_21 : decode cX2_settle 21 = .ok (.getfield 39, 3) := by decide +kernel
theorem dX2_settle_24 : decode cX2_settle 24 = .ok (.putfield 45, 3) := by decide +kernel
theorem dX2_settle_27 : decode cX2_settle 27 = .ok (.aload_n 0, 1) := by decide +kernel
theorem dX2_settle_28 : decode cX2_settle 28 = .ok (.getfield 12, 3) := by decide +kernel
theorem dX2_settle_31 : decode cX2_settle 31 = .ok (.iload_n 2, 1) := by decide +kernel
theorem dX2_settle_32 : decode cX2_settle 32 = .ok (.invokevirtual 46, 3) := by decide +kernel
theorem dX2_settle_35 : decode cX2_settle 35 = .ok (.ifnull 28, 3) := by decide +kernel
theorem dX2_settle_38 : decode cX2_settle 38 = .ok (.aload_n 0, 1) := by decide +kernel
theorem dX2_settle_39 : decode cX2_settle 39 = .ok (.getfield 12, 3) := by decide +kernel
theorem dX2_settle_42 : decode cX2_settle 42 = .ok (.iload_n 3, 1) := by decide +kernel
theorem dX2_settle_43 : decode cX2_settle 43 = .ok (.invokevirtual 46, 3) := by decide +kernel
theorem dX2_settle_46 : decode cX2_settle 46 = .ok (.ifnull 17, 3) := by decide +kernel
theorem dX2_settle_49 : decode cX2_settle 49 = .ok (.aload_n 0, 1) := by decide +kernel
theorem dX2_settle_50 : decode cX2_settle 50 = .ok (.getfield 12, 3) := by decide +kernel
theorem dX2_settle_53 : decode cX2_settle 53 = .ok (.getfield 50, 3) := by decide +kernel
theorem dX2_settle_56 : decode cX2_settle 56 = .ok (.aload_n 0, 1) := by decide +kernel
theorem dX2_settle_57 : decode cX2_settle 57 = .ok (.getfield 45, 3) := by decide +kernel
theorem dX2_settle_60 : decode cX2_settle 60 = .ok (.if_icmp .ge 4, 3) := by decide +kernel
theorem dX2_settle_63 : decode cX2_settle 63 = .ok (.return_, 1) := by decide +kernel
theorem dX2_settle_64 : decode cX2_settle 64 = .ok (.aload_n 0, 1) := by decide +kernel
theorem dX2_settle_65 : decode cX2_settle 65 = .ok (.getfield 21, 3) := by decide +kernel
theorem dX2_settle_68 : decode cX2_settle 68 = .ok (.aload_n 1, 1) := by decide +kernel
theorem dX2_settle_69 : decode cX2_settle 69 = .ok (.aload_n 0, 1) := by decide +kernel
theorem dX2_settle_70 : decode cX2_settle 70 = .ok (.getfield 12, 3) := by decide +kernel
theorem dX2_settle_73 : decode cX2_settle 73 = .ok (.iload_n 2, 1) := by decide +kernel
theorem dX2_settle_74 : decode cX2_settle 74 = .ok (.invokevirtual 46, 3) := by decide +kernel
theorem dX2_settle_77 : decode cX2_settle 77 = .ok (.iload 6, 2) := by decide +kernel
theorem dX2_settle_79 : decode cX2_settle 79 = .ok (.iload 7, 2) := by decide +kernel
theorem dX2_settle_81 : decode cX2_settle 81 = .ok (.invokevirtual 53, 3) := by decide +kernel
theorem dX2_settle_84 : decode cX2_settle 84 = .ok (.aload_n 0, 1) := by decide +kernel
theorem dX2_settle_85 : decode cX2_settle 85 = .ok (.getfield 25, 3) := by decide +kernel
theorem dX2_settle_88 : decode cX2_settle 88 = .ok (.aload_n 1, 1) := by decide +kernel
theorem dX2_settle_89 : decode cX2_settle 89 = .ok (.aload_n 0, 1) := by decide +kernel
theorem dX2_settle_90 : decode cX2_settle 90 = .ok (.getfield 12, 3) := by decide +kernel
theorem dX2_settle_93 : decode cX2_settle 93 = .ok (.iload_n 3, 1) := by decide +kernel
theorem dX2_settle_94 : decode cX2_settle 94 = .ok (.invokevirtual 46, 3) := by decide +kernel
theorem dX2_settle_97 : decode cX2_settle 97 = .ok (.iload 6, 2) := by decide +kernel
theorem dX2_settle_99 : decode cX2_settle 99 = .ok (.iload 7, 2) := by decide +kernel
theorem dX2_settle_101 : decode cX2_settle 101 = .ok (.invokevirtual 53, 3) := by decide +kernel
theorem dX2_settle_104 : decode cX2_settle 104 = .ok (.aload_n 0, 1) := by decide +kernel
theorem dX2_settle_105 : decode cX2_settle 105 = .ok (.aload_n 1, 1) := by decide +kernel
theorem dX2_settle_106 : decode cX2_settle 106 = .ok (.invokevirtual 56, 3) := by decide +kernel
theorem dX2_settle_109 : decode cX2_settle 109 = .ok (.aload_n 0, 1) := by decide +kernel
theorem dX2_settle_110 : decode cX2_settle 110 = .ok (.getfield 60, 3) := by decide +kernel
theorem dX2_settle_113 : decode cX2_settle 113 = .ok (.ifnull 15, 3) := by decide +kernel
theorem dX2_settle_116 : decode cX2_settle 116 = .ok (.aload_n 0, 1) := by decide +kernel
theorem dX2_settle_117 : decode cX2_settle 117 = .ok (.aload_n 0, 1) := by decide +kernel
theorem dX2_settle_118 : decode cX2_settle 118 = .ok (.getfield 60, 3) := by decide +kernel
theorem dX2_settle_121 : decode cX2_settle 121 = .ok (.getfield 64, 3) := by decide +kernel
theorem dX2_settle_124 : decode cX2_settle 124 = .ok (.putfield 69, 3) := by decide +kernel
theorem dX2_settle_127 : decode cX2_settle 127 = .ok (.return_, 1) := by decide +kernel
theorem dX2_settle_128 : decode cX2_settle 128 = .ok (.aload_n 0, 1) := by decide +kernel
theorem dX2_settle_129 : decode cX2_settle 129 = .ok (.aload_n 1, 1) := by decide +kernel
theorem dX2_settle_130 : decode cX2_settle 130 = .ok (.iload 5, 2) := by decide +kernel
theorem dX2_settle_132 : decode cX2_settle 132 = .ok (.invokevirtual 72, 3) := by decide +kernel
theorem dX2_settle_135 : decode cX2_settle 135 = .ok (.aload_n 0, 1) := by decide +kernel
theorem dX2_settle_136 : decode cX2_settle 136 = .ok (.getfield 69, 3) := by decide +kernel
theorem dX2_settle_139 : decode cX2_settle 139 = .ok (.ifnull 8, 3) := by decide +kernel
theorem dX2_settle_142 : decode cX2_settle 142 = .ok (.aload_n 0, 1) := by decide +kernel
theorem dX2_settle_143 : decode cX2_settle 143 = .ok (.invokevirtual 76, 3) := by decide +kernel
theorem dX2_settle_146 : decode cX2_settle 146 = .ok (.return_, 1) := by decide +kernel
theorem dX2_settle_147 : decode cX2_settle 147 = .ok (.aload_n 0, 1) := by decide +kernel
theorem dX2_settle_148 : decode cX2_settle 148 = .ok (.aload_n 1, 1) := by decide +kernel
theorem dX2_settle_149 : decode cX2_settle 149 = .ok (.aload 4, 2) := by decide +kernel
theorem dX2_settle_151 : decode cX2_settle 151 = .ok (.iload 5, 2) := by decide +kernel
theorem dX2_settle_153 : decode cX2_settle 153 = .ok (.iload 7, 2) := by decide +kernel
theorem dX2_settle_155 : decode cX2_settle 155 = .ok (.invokevirtual 79, 3) := by decide +kernel
theorem dX2_settle_158 : decode cX2_settle 158 = .ok (.aload_n 0, 1) := by decide +kernel
theorem dX2_settle_159 : decode cX2_settle 159 = .ok (.aload_n 0, 1) := by decide +kernel
theorem dX2_settle_160 : decode cX2_settle 160 = .ok (.getfield 82, 3) := by decide +kernel
theorem dX2_settle_163 : decode cX2_settle 163 = .ok (.ifnonnull 7, 3) := by decide +kernel
theorem dX2_settle_166 : decode cX2_settle 166 = .ok (.iconst 1, 1) := by decide +kernel
theorem dX2_settle_167 : decode cX2_settle 167 = .ok (.goto 4, 3) := by decide +kernel
theorem dX2_settle_170 : decode cX2_settle 170 = .ok (.iconst 4, 1) := by decide +kernel
theorem dX2_settle_171 : decode cX2_settle 171 = .ok (.putfield 85, 3) := by decide +kernel
theorem dX2_settle_174 : decode cX2_settle 174 = .ok (.aload_n 0, 1) := by decide +kernel
theorem dX2_settle_175 : decode cX2_settle 175 = .ok (.aload_n 0, 1) := by decide +kernel
theorem dX2_settle_176 : decode cX2_settle 176 = .ok (.getfield 82, 3) := by decide +kernel
theorem dX2_settle_179 : decode cX2_settle 179 = .ok (.ifnonnull 13, 3) := by decide +kernel
theorem dX2_settle_182 : decode cX2_settle 182 = .ok (.aload 4, 2) := by decide +kernel
theorem dX2_settle_184 : decode cX2_settle 184 = .ok (.iload 5, 2) := by decide +kernel
theorem dX2_settle_186 : decode cX2_settle 186 = .ok (.invokevirtual 88, 3) := by decide +kernel
theorem dX2_settle_189 : decode cX2_settle 189 = .ok (.goto 10, 3) := by decide +kernel
theorem dX2_settle_192 : decode cX2_settle 192 = .ok (.aload_n 0, 1) := by decide +kernel
theorem dX2_settle_193 : decode cX2_settle 193 = .ok (.getfield 82, 3) := by decide +kernel
theorem dX2_settle_196 : decode cX2_settle 196 = .ok (.getfield 92, 3) := by decide +kernel
theorem dX2_settle_199 : decode cX2_settle 199 = .ok (.putfield 95, 3) := by decide +kernel
theorem dX2_settle_202 : decode cX2_settle 202 = .ok (.return_, 1) := by decide +kernel
theorem dX2_forget_0 : decode cX2_forget 0 = .ok (.aload_n 0, 1) := by decide +kernel
theorem dX2_forget_1 : decode cX2_forget 1 = .ok (.iconst 0, 1) := by decide +kernel
theorem dX2_forget_2 : decode cX2_forget 2 = .ok (.putfield 85, 3) := by decide +kernel
theorem dX2_forget_5 : decode cX2_forget 5 = .ok (.aload_n 0, 1) := by decide +kernel
theorem dX2_forget_6 : decode cX2_forget 6 = .ok (.iconst 0, 1) := by decide +kernel
theorem dX2_forget_7 : decode cX2_forget 7 = .ok (.putfield 95, 3) := by decide +kernel
theorem dX2_forget_10 : decode cX2_forget 10 = .ok (.aload_n 0, 1) := by decide +kernel
theorem dX2_forget_11 : decode cX2_forget 11 = .ok (.aconst_null, 1) := by decide +kernel
theorem dX2_forget_12 : decode cX2_forget 12 = .ok (.putfield 60, 3) := by decide +kernel
theorem dX2_forget_15 : decode cX2_forget 15 = .ok (.aload_n 0, 1) := by decide +kernel
theorem dX2_forget_16 : decode cX2_forget 16 = .ok (.aconst_null, 1) := by decide +kernel
theorem dX2_forget_17 : decode cX2_forget 17 = .ok (.putfield 69, 3) := by decide +kernel
theorem dX2_forget_20 : decode cX2_forget 20 = .ok (.aload_n 0, 1) := by decide +kernel
theorem dX2_forget_21 : decode cX2_forget 21 = .ok (.aconst_null, 1) := by decide +kernel
theorem dX2_forget_22 : decode cX2_forget 22 = .ok (.putfield 82, 3) := by decide +kernel
theorem dX2_forget_25 : decode cX2_forget 25 = .ok (.aload_n 0, 1) := by decide +kernel
theorem dX2_forget_26 : decode cX2_forget 26 = .ok (.aconst_null, 1) := by decide +kernel
theorem dX2_forget_27 : decode cX2_forget 27 = .ok (.putfield 96, 3) := by decide +kernel
theorem dX2_forget_30 : decode cX2_forget 30 = .ok (.aload_n 0, 1) := by decide +kernel
theorem dX2_forget_31 : decode cX2_forget 31 = .ok (.aconst_null, 1) := by decide +kernel
theorem dX2_forget_32 : decode cX2_forget 32 = .ok (.putfield 99, 3) := by decide +kernel
theorem dX2_forget_35 : decode cX2_forget 35 = .ok (.return_, 1) := by decide +kernel
theorem dX2_findStrongObjection_0 : decode cX2_findStrongObjection 0 = .ok (.iconst 0, 1) := by decide +kernel
theorem dX2_findStrongObjection_1 : decode cX2_findStrongObjection 1 = .ok (.istore_n 2, 1) := by decide +kernel
theorem dX2_findStrongObjection_2 : decode cX2_findStrongObjection 2 = .ok (.iload_n 2, 1) := by decide +kernel
theorem dX2_findStrongObjection_3 : decode cX2_findStrongObjection 3 = .ok (.aload_n 1, 1) := by decide +kernel
theorem dX2_findStrongObjection_4 : decode cX2_findStrongObjection 4 = .ok (.getfield 102, 3) := by decide +kernel
theorem dX2_findStrongObjection_7 : decode cX2_findStrongObjection 7 = .ok (.if_icmp .ge 54, 3) := by decide +kernel
theorem dX2_findStrongObjection_10 : decode cX2_findStrongObjection 10 = .ok (.aload_n 0, 1) := by decide +kernel
theorem dX2_findStrongObjection_11 : decode cX2_findStrongObjection 11 = .ok (.getfield 60, 3) := by decide +kernel
theorem dX2_findStrongObjection_14 : decode cX2_findStrongObjection 14 = .ok (.ifnonnull 47, 3) := by decide +kernel
theorem dX2_findStrongObjection_17 : decode cX2_findStrongObjection 17 = .ok (.aload_n 1, 1) := by decide +kernel
theorem dX2_findStrongObjection_18 : decode cX2_findStrongObjection 18 = .ok (.iload_n 2, 1) := by decide +kernel
theorem dX2_findStrongObjection_19 : decode cX2_findStrongObjection 19 = .ok (.invokevirtual 105, 3) := by decide +kernel
theorem dX2_findStrongObjection_22 : decode cX2_findStrongObjection 22 = .ok (.astore_n 3, 1) := by decide +kernel
theorem dX2_findStrongObjection_23 : decode cX2_findStrongObjection 23 = .ok (.aload_n 3, 1) := by decide +kernel
theorem dX2_findStrongObjection_24 : decode cX2_findStrongObjection 24 = .ok (.ifnull 31, 3) := by decide +kernel
theorem dX2_findStrongObjection_27 : decode cX2_findStrongObjection 27 = .ok (.aload_n 3, 1) := by decide +kernel
theorem dX2_findStrongObjection_28 : decode cX2_findStrongObjection 28 = .ok (.getfield 106, 3) := by decide +kernel
theorem dX2_findStrongObjection_31 : decode cX2_findStrongObjection 31 = .ok (.iconst 4, 1) := by decide +kernel
theorem dX2_findStrongObjection_32 : decode cX2_findStrongObjection 32 = .ok (.if_icmp .ne 23, 3) := by decide +kernel
theorem dX2_findStrongObjection_35 : decode cX2_findStrongObjection 35 = .ok (.aload_n 3, 1) := by decide +kernel
theorem dX2_findStrongObjection_36 : decode cX2_findStrongObjection 36 = .ok (.getfield 109, 3) := by decide +kernel
theorem dX2_findStrongObjection_39 : decode cX2_findStrongObjection 39 = .ok (.ifCond .ne 16, 3) := by decide +kernel
theorem dX2_findStrongObjection_42 : decode cX2_findStrongObjection 42 = .ok (.aload_n 0, 1) := by decide +kernel
theorem dX2_findStrongObjection_43 : decode cX2_findStrongObjection 43 = .ok (.aload_n 3, 1) := by decide +kernel
theorem dX2_findStrongObjection_44 : decode cX2_findStrongObjection 44 = .ok (.invokevirtual 113, 3) := by decide +kernel
theorem dX2_findStrongObjection_47 : decode cX2_findStrongObjection 47 = .ok (.ifCond .eq 8, 3) := by decide +kernel
theorem dX2_findStrongObjection_50 : decode cX2_findStrongObjection 50 = .ok (.aload_n 0, 1) := by decide +kernel
theorem dX2_findStrongObjection_51 : decode cX2_findStrongObjection 51 = .ok (.aload_n 3, 1) := by decide +kernel
theorem dX2_findStrongObjection_52 : decode cX2_findStrongObjection 52 = .ok (.putfield 60, 3) := by decide +kernel
theorem dX2_findStrongObjection_55 : decode cX2_findStrongObjection 55 = .ok (.iinc 2 1, 3) := by decide +kernel
theorem dX2_findStrongObjection_58 : decode cX2_findStrongObjection 58 = .ok (.goto (-56), 3) := by decide +kernel
theorem dX2_findStrongObjection_61 : decode cX2_findStrongObjection 61 = .ok (.return_, 1) := by decide +kernel
theorem dX2_dividesThem_0 : decode cX2_dividesThem 0 = .ok (.aload_n 0, 1) := by decide +kernel
theorem dX2_dividesThem_1 : decode cX2_dividesThem 1 = .ok (.getfield 21, 3) := by decide +kernel
theorem dX2_dividesThem_4 : decode cX2_dividesThem 4 = .ok (.aload_n 1, 1) := by decide +kernel
theorem dX2_dividesThem_5 : decode cX2_dividesThem 5 = .ok (.invokevirtual 117, 3) := by decide +kernel
theorem dX2_dividesThem_8 : decode cX2_dividesThem 8 = .ok (.ifCond .eq 17, 3) := by decide +kernel
theorem dX2_dividesThem_11 : decode cX2_dividesThem 11 = .ok (.aload_n 0, 1) := by decide +kernel
theorem dX2_dividesThem_12 : decode cX2_dividesThem 12 = .ok (.getfield 25, 3) := by decide +kernel
theorem dX2_dividesThem_15 : decode cX2_dividesThem 15 = .ok (.aload_n 1, 1) := by decide +kernel
theorem dX2_dividesThem_16 : decode cX2_dividesThem 16 = .ok (.getfield 64, 3) := by decide +kernel
theorem dX2_dividesThem_19 : decode cX2_dividesThem 19 = .ok (.invokevirtual 117, 3) := by decide +kernel
theorem dX2_dividesThem_22 : decode cX2_dividesThem 22 = .ok (.ifCond .ne 28, 3) := by decide +kernel
theorem dX2_dividesThem_25 : decode cX2_dividesThem 25 = .ok (.aload_n 0, 1) := by decide +kernel
theorem dX2_dividesThem_26 : decode cX2_dividesThem 26 = .ok (.getfield 25, 3) := by decide +kernel
theorem dX2_dividesThem_29 : decode cX2_dividesThem 29 = .ok (.aload_n 1, 1) := by decide +kernel
theorem dX2_dividesThem_30 : decode cX2_dividesThem 30 = .ok (.invokevirtual 117, 3) := by decide +kernel
theorem dX2_dividesThem_33 : decode cX2_dividesThem 33 = .ok (.ifCond .eq 21, 3) := by decide +kernel
theorem dX2_dividesThem_36 : decode cX2_dividesThem 36 = .ok (.aload_n 0, 1) := by decide +kernel
theorem dX2_dividesThem_37 : decode cX2_dividesThem 37 = .ok (.getfield 21, 3) := by decide +kernel
theorem dX2_dividesThem_40 : decode cX2_dividesThem 40 = .ok (.aload_n 1, 1) := by decide +kernel
theorem dX2_dividesThem_41 : decode cX2_dividesThem 41 = .ok (.getfield 64, 3) := by decide +kernel
theorem dX2_dividesThem_44 : decode cX2_dividesThem 44 = .ok (.invokevirtual 117, 3) := by decide +kernel
theorem dX2_dividesThem_47 : decode cX2_dividesThem 47 = .ok (.ifCond .eq 7, 3) := by decide +kernel
theorem dX2_dividesThem_50 : decode cX2_dividesThem 50 = .ok (.iconst 1, 1) := by decide +kernel
theorem dX2_dividesThem_51 : decode cX2_dividesThem 51 = .ok (.goto 4, 3) := by decide +kernel
theorem dX2_dividesThem_54 : decode cX2_dividesThem 54 = .ok (.iconst 0, 1) := by decide +kernel
theorem dX2_dividesThem_55 : decode cX2_dividesThem 55 = .ok (.ireturn, 1) := by decide +kernel
theorem dX2_findReserve_0 : decode cX2_findReserve 0 = .ok (.aload_n 1, 1) := by decide +kernel
theorem dX2_findReserve_1 : decode cX2_findReserve 1 = .ok (.getfield 102, 3) := by decide +kernel
theorem dX2_findReserve_4 : decode cX2_findReserve 4 = .ok (.iconst 1, 1) := by decide +kernel
theorem dX2_findReserve_5 : decode cX2_findReserve 5 = .ok (.isub, 1) := by decide +kernel
theorem dX2_findReserve_6 : decode cX2_findReserve 6 = .ok (.istore_n 3, 1) := by decide +kernel
theorem dX2_findReserve_7 : decode cX2_findReserve 7 = .ok (.iload_n 3, 1) := by decide +kernel
theorem dX2_findReserve_8 : decode cX2_findReserve 8 = .ok (.ifCond .lt 60, 3) := by decide +kernel
theorem dX2_findReserve_11 : decode cX2_findReserve 11 = .ok (.aload_n 0, 1) := by decide +kernel
theorem dX2_findReserve_12 : decode cX2_findReserve 12 = .ok (.getfield 69, 3) := by decide +kernel
theorem dX2_findReserve_15 : decode cX2_findReserve 15 = .ok (.ifnonnull 53, 3) := by decide +kernel
theorem dX2_findReserve_18 : decode cX2_findReserve 18 = .ok (.aload_n 1, 1) := by decide +kernel
theorem dX2_findReserve_19 : decode cX2_findReserve 19 = .ok (.iload_n 3, 1) := by decide +kernel
theorem dX2_findReserve_20 : decode cX2_findReserve 20 = .ok (.invokevirtual 105, 3) := by decide +kernel
theorem dX2_findReserve_23 : decode cX2_findReserve 23 = .ok (.astore 4, 2) := by decide +kernel
theorem dX2_findReserve_25 : decode cX2_findReserve 25 = .ok (.aload 4, 2) := by decide +kernel
theorem dX2_findReserve_27 : decode cX2_findReserve 27 = .ok (.ifnull 35, 3) := by decide +kernel
theorem dX2_findReserve_30 : decode cX2_findReserve 30 = .ok (.aload_n 0, 1) := by decide +kernel
theorem dX2_findReserve_31 : decode cX2_findReserve 31 = .ok (.getfield 21, 3) := by decide +kernel
theorem dX2_findReserve_34 : decode cX2_findReserve 34 = .ok (.aload 4, 2) := by decide +kernel
theorem dX2_findReserve_36 : decode cX2_findReserve 36 = .ok (.iload_n 2, 1) := by decide +kernel
theorem dX2_findReserve_37 : decode cX2_findReserve 37 = .ok (.invokevirtual 120, 3) := by decide +kernel
theorem dX2_findReserve_40 : decode cX2_findReserve 40 = .ok (.ifCond .ne 16, 3) := by decide +kernel
theorem dX2_findReserve_43 : decode cX2_findReserve 43 = .ok (.aload_n 0, 1) := by decide +kernel
theorem dX2_findReserve_44 : decode cX2_findReserve 44 = .ok (.getfield 25, 3) := by decide +kernel
theorem dX2_findReserve_47 : decode cX2_findReserve 47 = .ok (.aload 4, 2) := by decide +kernel
theorem dX2_findReserve_49 : decode cX2_findReserve 49 = .ok (.iload_n 2, 1) := by decide +kernel
theorem dX2_findReserve_50 : decode cX2_findReserve 50 = .ok (.invokevirtual 120, 3) := by decide +kernel
theorem dX2_findReserve_53 : decode cX2_findReserve 53 = .ok (.ifCond .eq 9, 3) := by decide +kernel
theorem dX2_findReserve_56 : decode cX2_findReserve 56 = .ok (.aload_n 0, 1) := by decide +kernel
theorem dX2_findReserve_57 : decode cX2_findReserve 57 = .ok (.aload 4, 2) := by decide +kernel
theorem dX2_findReserve_59 : decode cX2_findReserve 59 = .ok (.putfield 69, 3) := by decide +kernel
theorem dX2_findReserve_62 : decode cX2_findReserve 62 = .ok (.iinc 3 (-1), 3) := by decide +kernel
theorem dX2_findReserve_65 : decode cX2_findReserve 65 = .ok (.goto (-58), 3) := by decide +kernel
theorem dX2_findReserve_68 : decode cX2_findReserve 68 = .ok (.return_, 1) := by decide +kernel
theorem dX2_settleReserve_0 : decode cX2_settleReserve 0 = .ok (.aload_n 0, 1) := by decide +kernel
theorem dX2_settleReserve_1 : decode cX2_settleReserve 1 = .ok (.getfield 69, 3) := by decide +kernel
theorem dX2_settleReserve_4 : decode cX2_settleReserve 4 = .ok (.getfield 92, 3) := by decide +kernel
theorem dX2_settleReserve_7 : decode cX2_settleReserve 7 = .ok (.ifCond .eq 42, 3) := by decide +kernel
theorem dX2_settleReserve_10 : decode cX2_settleReserve 10 = .ok (.aload_n 0, 1) := by decide +kernel
theorem dX2_settleReserve_11 : decode cX2_settleReserve 11 = .ok (.getfield 21, 3) := by decide +kernel
theorem dX2_settleReserve_14 : decode cX2_settleReserve 14 = .ok (.aload_n 0, 1) := by decide +kernel
theorem dX2_settleReserve_15 : decode cX2_settleReserve 15 = .ok (.getfield 69, 3) := by decide +kernel
theorem dX2_settleReserve_18 : decode cX2_settleReserve 18 = .ok (.invokevirtual 117, 3) := by decide +kernel
theorem dX2_settleReserve_21 : decode cX2_settleReserve 21 = .ok (.ifCond .eq 10, 3) := by decide +kernel
theorem dX2_settleReserve_24 : decode cX2_settleReserve 24 = .ok (.aload_n 0, 1) := by decide +kernel
theorem dX2_settleReserve_25 : decode cX2_settleReserve 25 = .ok (.getfield 25, 3) := by decide +kernel
theorem dX2_settleReserve_28 : decode cX2_settleReserve 28 = .ok (.goto 7, 3) := by decide +kernel
theorem dX2_settleReserve_31 : decode cX2_settleReserve 31 = .ok (.aload_n 0, 1) := by decide +kernel
theorem dX2_settleReserve_32 : decode cX2_settleReserve 32 = .ok (.getfield 21, 3) := by decide +kernel
theorem dX2_settleReserve_35 : decode cX2_settleReserve 35 = .ok (.astore_n 1, 1) := by decide +kernel
theorem dX2_settleReserve_36 : decode cX2_settleReserve 36 = .ok (.aload_n 0, 1) := by decide +kernel
theorem dX2_settleReserve_37 : decode cX2_settleReserve 37 = .ok (.aload_n 1, 1) := by decide +kernel
theorem dX2_settleReserve_38 : decode cX2_settleReserve 38 = .ok (.aload_n 0, 1) := by decide +kernel
theorem dX2_settleReserve_39 : decode cX2_settleReserve 39 = .ok (.getfield 69, 3) := by decide +kernel
theorem dX2_settleReserve_42 : decode cX2_settleReserve 42 = .ok (.iconst 1, 1) := by decide +kernel
theorem dX2_settleReserve_43 : decode cX2_settleReserve 43 = .ok (.invokevirtual 124, 3) := by decide +kernel
theorem dX2_settleReserve_46 : decode cX2_settleReserve 46 = .ok (.putfield 60, 3) := by decide +kernel
theorem dX2_settleReserve_49 : decode cX2_settleReserve 49 = .ok (.aload_n 0, 1) := by decide +kernel
theorem dX2_settleReserve_50 : decode cX2_settleReserve 50 = .ok (.getfield 69, 3) := by decide +kernel
theorem dX2_settleReserve_53 : decode cX2_settleReserve 53 = .ok (.getfield 92, 3) := by decide +kernel
theorem dX2_settleReserve_56 : decode cX2_settleReserve 56 = .ok (.ifCond .eq 10, 3) := by decide +kernel
theorem dX2_settleReserve_59 : decode cX2_settleReserve 59 = .ok (.aload_n 0, 1) := by decide +kernel
theorem dX2_settleReserve_60 : decode cX2_settleReserve 60 = .ok (.getfield 60, 3) := by decide +kernel
theorem dX2_settleReserve_63 : decode cX2_settleReserve 63 = .ok (.ifnull 7, 3) := by decide +kernel
theorem dX2_settleReserve_66 : decode cX2_settleReserve 66 = .ok (.iconst 1, 1) := by decide +kernel
theorem dX2_settleReserve_67 : decode cX2_settleReserve 67 = .ok (.goto 4, 3) := by decide +kernel
theorem dX2_settleReserve_70 : decode cX2_settleReserve 70 = .ok (.iconst 0, 1) := by decide +kernel
theorem dX2_settleReserve_71 : decode cX2_settleReserve 71 = .ok (.istore_n 1, 1) := by decide +kernel
theorem dX2_settleReserve_72 : decode cX2_settleReserve 72 = .ok (.aload_n 0, 1) := by decide +kernel
theorem dX2_settleReserve_73 : decode cX2_settleReserve 73 = .ok (.iload_n 1, 1) := by decide +kernel
theorem dX2_settleReserve_74 : decode cX2_settleReserve 74 = .ok (.ifCond .eq 7, 3) := by decide +kernel
theorem dX2_settleReserve_77 : decode cX2_settleReserve 77 = .ok (.iconst 3, 1) := by decide +kernel
theorem dX2_settleReserve_78 : decode cX2_settleReserve 78 = .ok (.goto 4, 3) := by decide +kernel
theorem dX2_settleReserve_81 : decode cX2_settleReserve 81 = .ok (.iconst 2, 1) := by decide +kernel
theorem dX2_settleReserve_82 : decode cX2_settleReserve 82 = .ok (.putfield 85, 3) := by decide +kernel
theorem dX2_settleReserve_85 : decode cX2_settleReserve 85 = .ok (.aload_n 0, 1) := by decide +kernel
theorem dX2_settleReserve_86 : decode cX2_settleReserve 86 = .ok (.iload_n 1, 1) := by decide +kernel
theorem dX2_settleReserve_87 : decode cX2_settleReserve 87 = .ok (.ifCond .eq 7, 3) := by decide +kernel
theorem dX2_settleReserve_90 : decode cX2_settleReserve 90 = .ok (.iconst 0, 1) := by decide +kernel
theorem dX2_settleReserve_91 : decode cX2_settleReserve 91 = .ok (.goto 10, 3) := by decide +kernel
theorem dX2_settleReserve_94 : decode cX2_settleReserve 94 = .ok (.aload_n 0, 1) := by decide +kernel
theorem dX2_settleReserve_95 : decode cX2_settleReserve 95 = .ok (.getfield 69, 3) := by decide +kernel
theorem dX2_settleReserve_98 : decode cX2_settleReserve 98 = .ok (.getfield 92, 3) := by decide +kernel
theorem dX2_settleReserve_101 : decode cX2_settleReserve 101 = .ok (.putfield 95, 3) := by decide +kernel
theorem dX2_settleReserve_104 : decode cX2_settleReserve 104 = .ok (.return_, 1) := by decide +kernel
theorem dX2_findChange_0 : decode cX2_findChange 0 = .ok (.aload_n 1, 1) := by decide +kernel
theorem dX2_findChange_1 : decode cX2_findChange 1 = .ok (.getfield 102, 3) := by decide +kernel
theorem dX2_findChange_4 : decode cX2_findChange 4 = .ok (.iconst 1, 1) := by decide +kernel
theorem dX2_findChange_5 : decode cX2_findChange 5 = .ok (.isub, 1) := by decide +kernel
theorem dX2_findChange_6 : decode cX2_findChange 6 = .ok (.istore 5, 2) := by decide +kernel
theorem dX2_findChange_8 : decode cX2_findChange 8 = .ok (.iload 5, 2) := by decide +kernel
theorem dX2_findChange_10 : decode cX2_findChange 10 = .ok (.ifCond .lt 73, 3) := by decide +kernel
theorem dX2_findChange_13 : decode cX2_findChange 13 = .ok (.aload_n 0, 1) := by decide +kernel
theorem dX2_findChange_14 : decode cX2_findChange 14 = .ok (.getfield 82, 3) := by decide +kernel
theorem dX2_findChange_17 : decode cX2_findChange 17 = .ok (.ifnonnull 66, 3) := by decide +kernel
theorem dX2_findChange_20 : decode cX2_findChange 20 = .ok (.aload_n 1, 1) := by decide +kernel
theorem dX2_findChange_21 : decode cX2_findChange 21 = .ok (.iload 5, 2) := by decide +kernel
theorem dX2_findChange_23 : decode cX2_findChange 23 = .ok (.invokevirtual 105, 3) := by decide +kernel
theorem dX2_findChange_26 : decode cX2_findChange 26 = .ok (.astore 6, 2) := by decide +kernel
theorem dX2_findChange_28 : decode cX2_findChange 28 = .ok (.aload 6, 2) := by decide +kernel
theorem dX2_findChange_30 : decode cX2_findChange 30 = .ok (.ifnull 47, 3) := by decide +kernel
theorem dX2_findChange_33 : decode cX2_findChange 33 = .ok (.aload 6, 2) := by decide +kernel
theorem dX2_findChange_35 : decode cX2_findChange 35 = .ok (.getfield 106, 3) := by decide +kernel
theorem dX2_findChange_38 : decode cX2_findChange 38 = .ok (.bipush 6, 2) := by decide +kernel
theorem dX2_findChange_40 : decode cX2_findChange 40 = .ok (.if_icmp .ne 37, 3) := by decide +kernel
theorem dX2_findChange_43 : decode cX2_findChange 43 = .ok (.aload 6, 2) := by decide +kernel
theorem dX2_findChange_45 : decode cX2_findChange 45 = .ok (.getfield 128, 3) := by decide +kernel
theorem dX2_findChange_48 : decode cX2_findChange 48 = .ok (.aload_n 2, 1) := by decide +kernel
theorem dX2_findChange_49 : decode cX2_findChange 49 = .ok (.if_acmp .ne 28, 3) := by decide +kernel
theorem dX2_findChange_52 : decode cX2_findChange 52 = .ok (.aload 6, 2) := by decide +kernel
theorem dX2_findChange_54 : decode cX2_findChange 54 = .ok (.getfield 132, 3) := by decide +kernel
theorem dX2_findChange_57 : decode cX2_findChange 57 = .ok (.iload_n 3, 1) := by decide +kernel
theorem dX2_findChange_58 : decode cX2_findChange 58 = .ok (.if_icmp .ne 19, 3) := by decide +kernel
theorem dX2_findChange_61 : decode cX2_findChange 61 = .ok (.aload 6, 2) := by decide +kernel
theorem dX2_findChange_63 : decode cX2_findChange 63 = .ok (.getfield 135, 3) := by decide +kernel
theorem dX2_findChange_66 : decode cX2_findChange 66 = .ok (.iload 4, 2) := by decide +kernel
theorem dX2_findChange_68 : decode cX2_findChange 68 = .ok (.if_icmp .gt 9, 3) := by decide +kernel
theorem dX2_findChange_71 : decode cX2_findChange 71 = .ok (.aload_n 0, 1) := by decide +kernel
theorem dX2_findChange_72 : decode cX2_findChange 72 = .ok (.aload 6, 2) := by decide +kernel
theorem dX2_findChange_74 : decode cX2_findChange 74 = .ok (.invokevirtual 138, 3) := by decide +kernel
theorem dX2_findChange_77 : decode cX2_findChange 77 = .ok (.iinc 5 (-1), 3) := by decide +kernel
theorem dX2_findChange_80 : decode cX2_findChange 80 = .ok (.goto (-72), 3) := by decide +kernel
theorem dX2_findChange_83 : decode cX2_findChange 83 = .ok (.return_, 1) := by decide +kernel
theorem dX2_takeChange_0 : decode cX2_takeChange 0 = .ok (.aload_n 0, 1) := by decide +kernel
theorem dX2_takeChange_1 : decode cX2_takeChange 1 = .ok (.getfield 21, 3) := by decide +kernel
theorem dX2_takeChange_4 : decode cX2_takeChange 4 = .ok (.aload_n 1, 1) := by decide +kernel
theorem dX2_takeChange_5 : decode cX2_takeChange 5 = .ok (.iconst 0, 1) := by decide +kernel
theorem dX2_takeChange_6 : decode cX2_takeChange 6 = .ok (.invokevirtual 124, 3) := by decide +kernel
theorem dX2_takeChange_9 : decode cX2_takeChange 9 = .ok (.astore_n 2, 1) := by decide +kernel
theorem dX2_takeChange_10 : decode cX2_takeChange 10 = .ok (.aload_n 0, 1) := by decide +kernel
theorem dX2_takeChange_11 : decode cX2_takeChange 11 = .ok (.getfield 25, 3) := by decide +kernel
theorem dX2_takeChange_14 : decode cX2_takeChange 14 = .ok (.aload_n 1, 1) := by decide +kernel
theorem dX2_takeChange_15 : decode cX2_takeChange 15 = .ok (.iconst 0, 1) := by decide +kernel
theorem dX2_takeChange_16 : decode cX2_takeChange 16 = .ok (.invokevirtual 124, 3) := by decide +kernel
theorem dX2_takeChange_19 : decode cX2_takeChange 19 = .ok (.astore_n 3, 1) := by decide +kernel
theorem dX2_takeChange_20 : decode cX2_takeChange 20 = .ok (.aload_n 2, 1) := by decide +kernel
theorem dX2_takeChange_21 : decode cX2_takeChange 21 = .ok (.ifnull 22, 3) := by decide +kernel
theorem dX2_takeChange_24 : decode cX2_takeChange 24 = .ok (.aload_n 3, 1) := by decide +kernel
theorem dX2_takeChange_25 : decode cX2_takeChange 25 = .ok (.ifnull 18, 3) := by decide +kernel
theorem dX2_takeChange_28 : decode cX2_takeChange 28 = .ok (.aload_n 0, 1) := by decide +kernel
theorem dX2_takeChange_29 : decode cX2_takeChange 29 = .ok (.aload_n 1, 1) := by decide +kernel
theorem dX2_takeChange_30 : decode cX2_takeChange 30 = .ok (.putfield 82, 3) := by decide +kernel
theorem dX2_takeChange_33 : decode cX2_takeChange 33 = .ok (.aload_n 0, 1) := by decide +kernel
theorem dX2_takeChange_34 : decode cX2_takeChange 34 = .ok (.aload_n 2, 1) := by decide +kernel
theorem dX2_takeChange_35 : decode cX2_takeChange 35 = .ok (.putfield 96, 3) := by decide +kernel
theorem dX2_takeChange_38 : decode cX2_takeChange 38 = .ok (.aload_n 0, 1) := by decide +kernel
theorem dX2_takeChange_39 : decode cX2_takeChange 39 = .ok (.aload_n 3, 1) := by decide +kernel
theorem dX2_takeChange_40 : decode cX2_takeChange 40 = .ok (.putfield 99, 3) := by decide +kernel
theorem dX2_takeChange_43 : decode cX2_takeChange 43 = .ok (.return_, 1) := by decide +kernel
theorem dX2_reason_0 : decode cX2_reason 0 = .ok (.iconst 0, 1) := by decide +kernel
theorem dX2_reason_1 : decode cX2_reason 1 = .ok (.istore_n 3, 1) := by decide +kernel
theorem dX2_reason_2 : decode cX2_reason 2 = .ok (.iload_n 3, 1) := by decide +kernel
theorem dX2_reason_3 : decode cX2_reason 3 = .ok (.aload_n 0, 1) := by decide +kernel
theorem dX2_reason_4 : decode cX2_reason 4 = .ok (.getfield 28, 3) := by decide +kernel
theorem dX2_reason_7 : decode cX2_reason 7 = .ok (.arraylength, 1) := by decide +kernel
theorem dX2_reason_8 : decode cX2_reason 8 = .ok (.if_icmp .ge 16, 3) := by decide +kernel
theorem dX2_reason_11 : decode cX2_reason 11 = .ok (.aload_n 0, 1) := by decide +kernel
theorem dX2_reason_12 : decode cX2_reason 12 = .ok (.getfield 28, 3) := by decide +kernel
theorem dX2_reason_15 : decode cX2_reason 15 = .ok (.iload_n 3, 1) := by decide +kernel
theorem dX2_reason_16 : decode cX2_reason 16 = .ok (.iconst 0, 1) := by decide +kernel
theorem dX2_reason_17 : decode cX2_reason 17 = .ok (.bastore, 1) := by decide +kernel
theorem dX2_reason_18 : decode cX2_reason 18 = .ok (.iinc 3 1, 3) := by decide +kernel
theorem dX2_reason_21 : decode cX2_reason 21 = .ok (.goto (-19), 3) := by decide +kernel
theorem dX2_reason_24 : decode cX2_reason 24 = .ok (.aload_n 0, 1) := by decide +kernel
theorem dX2_reason_25 : decode cX2_reason 25 = .ok (.getfield 85, 3) := by decide +kernel
theorem dX2_reason_28 : decode cX2_reason 28 = .ok (.ifCond .ne 12, 3) := by decide +kernel
theorem dX2_reason_31 : decode cX2_reason 31 = .ok (.aload_n 0, 1) := by decide +kernel
theorem dX2_reason_32 : decode cX2_reason 32 = .ok (.getfield 60, 3) := by decide +kernel
theorem dX2_reason_35 : decode cX2_reason 35 = .ok (.ifnonnull 5, 3) := by decide +kernel
theorem dX2_reason_38 : decode cX2_reason 38 = .ok (.iconst (-1), 1) := by decide +kernel
theorem dX2_reason_39 : decode cX2_reason 39 = .ok (.ireturn, 1) := by decide +kernel
theorem dX2_reason_40 : decode cX2_reason 40 = .ok (.aload_n 0, 1) := by decide +kernel
theorem dX2_reason_41 : decode cX2_reason 41 = .ok (.aload_n 0, 1) := by decide +kernel
theorem dX2_reason_42 : decode cX2_reason 42 = .ok (.getfield 21, 3) := by decide +kernel
theorem dX2_reason_45 : decode cX2_reason 45 = .ok (.getfield 142, 3) := by decide +kernel
theorem dX2_reason_48 : decode cX2_reason 48 = .ok (.invokevirtual 145, 3) := by decide +kernel
theorem dX2_reason_51 : decode cX2_reason 51 = .ok (.aload_n 0, 1) := by decide +kernel
theorem dX2_reason_52 : decode cX2_reason 52 = .ok (.aload_n 0, 1) := by decide +kernel
theorem dX2_reason_53 : decode cX2_reason 53 = .ok (.getfield 25, 3) := by decide +kernel
theorem dX2_reason_56 : decode cX2_reason 56 = .ok (.getfield 142, 3) := by decide +kernel
theorem dX2_reason_59 : decode cX2_reason 59 = .ok (.invokevirtual 145, 3) := by decide +kernel
theorem dX2_reason_62 : decode cX2_reason 62 = .ok (.aload_n 0, 1) := by decide +kernel
theorem dX2_reason_63 : decode cX2_reason 63 = .ok (.aload_n 0, 1) := by decide +kernel
theorem dX2_reason_64 : decode cX2_reason 64 = .ok (.getfield 60, 3) := by decide +kernel
theorem dX2_reason_67 : decode cX2_reason 67 = .ok (.invokevirtual 145, 3) := by decide +kernel
theorem dX2_reason_70 : decode cX2_reason 70 = .ok (.aload_n 0, 1) := by decide +kernel
theorem dX2_reason_71 : decode cX2_reason 71 = .ok (.aload_n 0, 1) := by decide +kernel
theorem dX2_reason_72 : decode cX2_reason 72 = .ok (.getfield 69, 3) := by decide +kernel
theorem dX2_reason_75 : decode cX2_reason 75 = .ok (.invokevirtual 145, 3) := by decide +kernel
theorem dX2_reason_78 : decode cX2_reason 78 = .ok (.aload_n 0, 1) := by decide +kernel
theorem dX2_reason_79 : decode cX2_reason 79 = .ok (.aload_n 0, 1) := by decide +kernel
theorem dX2_reason_80 : decode cX2_reason 80 = .ok (.getfield 82, 3) := by decide +kernel
theorem dX2_reason_83 : decode cX2_reason 83 = .ok (.invokevirtual 145, 3) := by decide +kernel
theorem dX2_reason_86 : decode cX2_reason 86 = .ok (.aload_n 0, 1) := by decide +kernel
theorem dX2_reason_87 : decode cX2_reason 87 = .ok (.aload_n 0, 1) := by decide +kernel
theorem dX2_reason_88 : decode cX2_reason 88 = .ok (.getfield 96, 3) := by decide +kernel
theorem dX2_reason_91 : decode cX2_reason 91 = .ok (.invokevirtual 145, 3) := by decide +kernel
theorem dX2_reason_94 : decode cX2_reason 94 = .ok (.aload_n 0, 1) := by decide +kernel
theorem dX2_reason_95 : decode cX2_reason 95 = .ok (.aload_n 0, 1) := by decide +kernel
theorem dX2_reason_96 : decode cX2_reason 96 = .ok (.getfield 99, 3) := by decide +kernel
theorem dX2_reason_99 : decode cX2_reason 99 = .ok (.invokevirtual 145, 3) := by decide +kernel
theorem dX2_reason_102 : decode cX2_reason 102 = .ok (.aload_n 0, 1) := by decide +kernel
theorem dX2_reason_103 : decode cX2_reason 103 = .ok (.getfield 85, 3) := by decide +kernel
theorem dX2_reason_106 : decode cX2_reason 106 = .ok (.ifCond .eq 7, 3) := by decide +kernel
theorem dX2_reason_109 : decode cX2_reason 109 = .ok (.aload_n 0, 1) := by decide +kernel
theorem dX2_reason_110 : decode cX2_reason 110 = .ok (.invokevirtual 148, 3) := by decide +kernel
theorem dX2_reason_113 : decode cX2_reason 113 = .ok (.aload_n 0, 1) := by decide +kernel
theorem dX2_reason_114 : decode cX2_reason 114 = .ok (.aload_n 1, 1) := by decide +kernel
theorem dX2_reason_115 : decode cX2_reason 115 = .ok (.invokevirtual 151, 3) := by decide +kernel
theorem dX2_reason_118 : decode cX2_reason 118 = .ok (.aload_n 0, 1) := by decide +kernel
theorem dX2_reason_119 : decode cX2_reason 119 = .ok (.iload_n 2, 1) := by decide +kernel
theorem dX2_reason_120 : decode cX2_reason 120 = .ok (.invokevirtual 154, 3) := by decide +kernel
theorem dX2_reason_123 : decode cX2_reason 123 = .ok (.ireturn, 1) := by decide +kernel
theorem dX2_cite_0 : decode cX2_cite 0 = .ok (.aload_n 1, 1) := by decide +kernel
theorem dX2_cite_1 : decode cX2_cite 1 = .ok (.ifnull 32, 3) := by decide +kernel
theorem dX2_cite_4 : decode cX2_cite 4 = .ok (.aload_n 1, 1) := by decide +kernel
theorem dX2_cite_5 : decode cX2_cite 5 = .ok (.getfield 157, 3) := by decide +kernel
theorem dX2_cite_8 : decode cX2_cite 8 = .ok (.ifCond .lt 25, 3) := by decide +kernel
theorem dX2_cite_11 : decode cX2_cite 11 = .ok (.aload_n 1, 1) := by decide +kernel
theorem dX2_cite_12 : decode cX2_cite 12 = .ok (.getfield 157, 3) := by decide +kernel
theorem dX2_cite_15 : decode cX2_cite 15 = .ok (.aload_n 0, 1) := by decide +kernel
theorem dX2_cite_16 : decode cX2_cite 16 = .ok (.getfield 28, 3) := by decide +kernel
theorem dX2_cite_19 : decode cX2_cite 19 = .ok (.arraylength, 1) := by decide +kernel
theorem dX2_cite_20 : decode cX2_cite 20 = .ok (.if_icmp .ge 13, 3) := by decide +kernel
theorem dX2_cite_23 : decode cX2_cite 23 = .ok (.aload_n 0, 1) := by decide +kernel
theorem dX2_cite_24 : decode cX2_cite 24 = .ok (.getfield 28, 3) := by decide +kernel
theorem dX2_cite_27 : decode cX2_cite 27 = .ok (.aload_n 1, 1) := by decide +kernel
theorem dX2_cite_28 : decode cX2_cite 28 = .ok (.getfield 157, 3) := by decide +kernel
theorem dX2_cite_31 : decode cX2_cite 31 = .ok (.iconst 1, 1) := by decide +kernel
theorem dX2_cite_32 : decode cX2_cite 32 = .ok (.bastore, 1) := by decide +kernel
theorem dX2_cite_33 : decode cX2_cite 33 = .ok (.return_, 1) := by decide +kernel
theorem dX2_citeNeeded_0 : decode cX2_citeNeeded 0 = .ok (.aload_n 0, 1) := by decide +kernel
theorem dX2_citeNeeded_1 : decode cX2_citeNeeded 1 = .ok (.getfield 45, 3) := by decide +kernel
theorem dX2_citeNeeded_4 : decode cX2_citeNeeded 4 = .ok (.istore_n 1, 1) := by decide +kernel
theorem dX2_citeNeeded_5 : decode cX2_citeNeeded 5 = .ok (.iconst 0, 1) := by decide +kernel
theorem dX2_citeNeeded_6 : decode cX2_citeNeeded 6 = .ok (.istore_n 2, 1) := by decide +kernel
theorem dX2_citeNeeded_7 : decode cX2_citeNeeded 7 = .ok (.iload_n 2, 1) := by decide +kernel
theorem dX2_citeNeeded_8 : decode cX2_citeNeeded 8 = .ok (.bipush 30, 2) := by decide +kernel
theorem dX2_citeNeeded_10 : decode cX2_citeNeeded 10 = .ok (.if_icmp .ge 34, 3) := by decide +kernel
theorem dX2_citeNeeded_13 : decode cX2_citeNeeded 13 = .ok (.iload_n 1, 1) := by decide +kernel
theorem dX2_citeNeeded_14 : decode cX2_citeNeeded 14 = .ok (.ifCond .le 30, 3) := by decide +kernel
theorem dX2_citeNeeded_17 : decode cX2_citeNeeded 17 = .ok (.aload_n 0, 1) := by decide +kernel
theorem dX2_citeNeeded_18 : decode cX2_citeNeeded 18 = .ok (.getfield 12, 3) := by decide +kernel
theorem dX2_citeNeeded_21 : decode cX2_citeNeeded 21 = .ok (.iload_n 2, 1) := by decide +kernel
theorem dX2_citeNeeded_22 : decode cX2_citeNeeded 22 = .ok (.invokevirtual 46, 3) := by decide +kernel
theorem dX2_citeNeeded_25 : decode cX2_citeNeeded 25 = .ok (.astore_n 3, 1) := by decide +kernel
theorem dX2_citeNeeded_26 : decode cX2_citeNeeded 26 = .ok (.aload_n 3, 1) := by decide +kernel
theorem dX2_citeNeeded_27 : decode cX2_citeNeeded 27 = .ok (.ifnull 11, 3) := by decide +kernel
theorem dX2_citeNeeded_30 : decode cX2_citeNeeded 30 = .ok (.aload_n 0, 1) := by decide +kernel
theorem dX2_citeNeeded_31 : decode cX2_citeNeeded 31 = .ok (.aload_n 3, 1) := by decide +kernel
theorem dX2_citeNeeded_32 : decode cX2_citeNeeded 32 = .ok (.invokevirtual 145, 3) := by decide +kernel
theorem dX2_citeNeeded_35 : decode cX2_citeNeeded 35 = .ok (.iinc 1 (-1), 3) := by decide +kernel
theorem dX2_citeNeeded_38 : decode cX2_citeNeeded 38 = .ok (.iinc 2 1, 3) := by decide +kernel
theorem dX2_citeNeeded_41 : decode cX2_citeNeeded 41 = .ok (.goto (-34), 3) := by decide +kernel
theorem dX2_citeNeeded_44 : decode cX2_citeNeeded 44 = .ok (.return_, 1) := by decide +kernel
