theorem dX8_reserve_0 : decode cX8_reserve 0 = .ok (.aload_n 0, 1) := by decide +kernel
theorem dX8_reserve_1 : decode cX8_reserve 1 = .ok (.iload_n 1, 1) := by decide +kernel
theorem dX8_reserve_2 : decode cX8_reserve 2 = .ok (.invokevirtual 115, 3) := by decide +kernel
theorem dX8_reserve_5 : decode cX8_reserve 5 = .ok (.ifCond .eq 24, 3) := by decide +kernel
theorem dX8_reserve_8 : decode cX8_reserve 8 = .ok (.aload_n 0, 1) := by decide +kernel
theorem dX8_reserve_9 : decode cX8_reserve 9 = .ok (.iload_n 2, 1) := by decide +kernel
theorem dX8_reserve_10 : decode cX8_reserve 10 = .ok (.iload_n 3, 1) := by decide +kernel
theorem dX8_reserve_11 : decode cX8_reserve 11 = .ok (.invokevirtual 93, 3) := by decide +kernel
theorem dX8_reserve_14 : decode cX8_reserve 14 = .ok (.ifCond .eq 15, 3) := by decide +kernel
theorem dX8_reserve_17 : decode cX8_reserve 17 = .ok (.iload 4, 2) := by decide +kernel
theorem dX8_reserve_19 : decode cX8_reserve 19 = .ok (.ifCond .lt 10, 3) := by decide +kernel
theorem dX8_reserve_22 : decode cX8_reserve 22 = .ok (.iload 4, 2) := by decide +kernel
theorem dX8_reserve_24 : decode cX8_reserve 24 = .ok (.ldc 97, 2) := by decide +kernel
theorem dX8_reserve_26 : decode cX8_reserve 26 = .ok (.if_icmp .le 6, 3) := by decide +kernel
theorem dX8_reserve_29 : decode cX8_reserve 29 = .ok (.bipush (-2), 2) := by decide +kernel
theorem dX8_reserve_31 : decode cX8_reserve 31 = .ok (.ireturn, 1) := by decide +kernel
theorem dX8_reserve_32 : decode cX8_reserve 32 = .ok (.aload_n 0, 1) := by decide +kernel
theorem dX8_reserve_33 : decode cX8_reserve 33 = .ok (.invokevirtual 118, 3) := by decide +kernel
theorem dX8_reserve_36 : decode cX8_reserve 36 = .ok (.ifCond .eq 6, 3) := by decide +kernel
theorem dX8_reserve_39 : decode cX8_reserve 39 = .ok (.bipush (-8), 2) := by decide +kernel
theorem dX8_reserve_41 : decode cX8_reserve 41 = .ok (.ireturn, 1) := by decide +kernel
theorem dX8_reserve_42 : decode cX8_reserve 42 = .ok (.aload_n 0, 1) := by decide +kernel
theorem dX8_reserve_43 : decode cX8_reserve 43 = .ok (.iload_n 1, 1) := by decide +kernel
theorem dX8_reserve_44 : decode cX8_reserve 44 = .ok (.iload_n 2, 1) := by decide +kernel
theorem dX8_reserve_45 : decode cX8_reserve 45 = .ok (.invokevirtual 129, 3) := by decide +kernel
theorem dX8_reserve_48 : decode cX8_reserve 48 = .ok (.istore 5, 2) := by decide +kernel
theorem dX8_reserve_50 : decode cX8_reserve 50 = .ok (.iload 5, 2) := by decide +kernel
theorem dX8_reserve_52 : decode cX8_reserve 52 = .ok (.iconst (-1), 1) := by decide +kernel
theorem dX8_reserve_53 : decode cX8_reserve 53 = .ok (.if_icmp .ne 6, 3) := by decide +kernel
theorem dX8_reserve_56 : decode cX8_reserve 56 = .ok (.bipush (-6), 2) := by decide +kernel
theorem dX8_reserve_58 : decode cX8_reserve 58 = .ok (.ireturn, 1) := by decide +kernel
theorem dX8_reserve_59 : decode cX8_reserve 59 = .ok (.aload_n 0, 1) := by decide +kernel
theorem dX8_reserve_60 : decode cX8_reserve 60 = .ok (.iconst 3, 1) := by decide +kernel
theorem dX8_reserve_61 : decode cX8_reserve 61 = .ok (.iload_n 1, 1) := by decide +kernel
theorem dX8_reserve_62 : decode cX8_reserve 62 = .ok (.iload_n 2, 1) := by decide +kernel
theorem dX8_reserve_63 : decode cX8_reserve 63 = .ok (.aload_n 0, 1) := by decide +kernel
theorem dX8_reserve_64 : decode cX8_reserve 64 = .ok (.getfield 16, 3) := by decide +kernel
theorem dX8_reserve_67 : decode cX8_reserve 67 = .ok (.iload_n 2, 1) := by decide +kernel
theorem dX8_reserve_68 : decode cX8_reserve 68 = .ok (.iaload, 1) := by decide +kernel
theorem dX8_reserve_69 : decode cX8_reserve 69 = .ok (.iconst (-1), 1) := by decide +kernel
theorem dX8_reserve_70 : decode cX8_reserve 70 = .ok (.iload 5, 2) := by decide +kernel
theorem dX8_reserve_72 : decode cX8_reserve 72 = .ok (.invokevirtual 125, 3) := by decide +kernel
theorem dX8_reserve_75 : decode cX8_reserve 75 = .ok (.istore 6, 2) := by decide +kernel
theorem dX8_reserve_77 : decode cX8_reserve 77 = .ok (.aload_n 0, 1) := by decide +kernel
theorem dX8_reserve_78 : decode cX8_reserve 78 = .ok (.getfield 46, 3) := by decide +kernel
theorem dX8_reserve_81 : decode cX8_reserve 81 = .ok (.iload 6, 2) := by decide +kernel
theorem dX8_reserve_83 : decode cX8_reserve 83 = .ok (.iload_n 3, 1) := by decide +kernel
theorem dX8_reserve_84 : decode cX8_reserve 84 = .ok (.iastore, 1) := by decide +kernel
theorem dX8_reserve_85 : decode cX8_reserve 85 = .ok (.aload_n 0, 1) := by decide +kernel
theorem dX8_reserve_86 : decode cX8_reserve 86 = .ok (.getfield 49, 3) := by decide +kernel
theorem dX8_reserve_89 : decode cX8_reserve 89 = .ok (.iload 6, 2) := by decide +kernel
theorem dX8_reserve_91 : decode cX8_reserve 91 = .ok (.iload 4, 2) := by decide +kernel
theorem dX8_reserve_93 : decode cX8_reserve 93 = .ok (.iastore, 1) := by decide +kernel
theorem dX8_reserve_94 : decode cX8_reserve 94 = .ok (.iload 6, 2) := by decide +kernel
theorem dX8_reserve_96 : decode cX8_reserve 96 = .ok (.ireturn, 1) := by decide +kernel
theorem dX8_isWithdrawn_0 : decode cX8_isWithdrawn 0 = .ok (.iconst 0, 1) := by decide +kernel
theorem dX8_isWithdrawn_1 : decode cX8_isWithdrawn 1 = .ok (.istore_n 2, 1) := by decide +kernel
theorem dX8_isWithdrawn_2 : decode cX8_isWithdrawn 2 = .ok (.iload_n 2, 1) := by decide +kernel
theorem dX8_isWithdrawn_3 : decode cX8_isWithdrawn 3 = .ok (.aload_n 0, 1) := by decide +kernel
theorem dX8_isWithdrawn_4 : decode cX8_isWithdrawn 4 = .ok (.getfield 89, 3) := by decide +kernel
theorem dX8_isWithdrawn_7 : decode cX8_isWithdrawn 7 = .ok (.if_icmp .ge 31, 3) := by decide +kernel
theorem dX8_isWithdrawn_10 : decode cX8_isWithdrawn 10 = .ok (.aload_n 0, 1) := by decide +kernel
theorem dX8_isWithdrawn_11 : decode cX8_isWithdrawn 11 = .ok (.getfield 25, 3) := by decide +kernel
theorem dX8_isWithdrawn_14 : decode cX8_isWithdrawn 14 = .ok (.iload_n 2, 1) := by decide +kernel
theorem dX8_isWithdrawn_15 : decode cX8_isWithdrawn 15 = .ok (.iaload, 1) := by decide +kernel
theorem dX8_isWithdrawn_16 : decode cX8_isWithdrawn 16 = .ok (.iconst 5, 1) := by decide +kernel
theorem dX8_isWithdrawn_17 : decode cX8_isWithdrawn 17 = .ok (.if_icmp .ne 15, 3) := by decide +kernel
theorem dX8_isWithdrawn_20 : decode cX8_isWithdrawn 20 = .ok (.aload_n 0, 1) := by decide +kernel
theorem dX8_isWithdrawn_21 : decode cX8_isWithdrawn 21 = .ok (.getfield 40, 3) := by decide +kernel
theorem dX8_isWithdrawn_24 : decode cX8_isWithdrawn 24 = .ok (.iload_n 2, 1) := by decide +kernel
theorem dX8_isWithdrawn_25 : decode cX8_isWithdrawn 25 = .ok (.iaload, 1) := by decide +kernel
theorem dX8_isWithdrawn_26 : decode cX8_isWithdrawn 26 = .ok (.iload_n 1, 1) := by decide +kernel
theorem dX8_isWithdrawn_27 : decode cX8_isWithdrawn 27 = .ok (.if_icmp .ne 5, 3) := by decide +kernel
theorem dX8_isWithdrawn_30 : decode cX8_isWithdrawn 30 = .ok (.iconst 1, 1) := by decide +kernel
theorem dX8_isWithdrawn_31 : decode cX8_isWithdrawn 31 = .ok (.ireturn, 1) := by decide +kernel
theorem dX8_isWithdrawn_32 : decode cX8_isWithdrawn 32 = .ok (.iinc 2 1, 3) := by decide +kernel
theorem dX8_isWithdrawn_35 : decode cX8_isWithdrawn 35 = .ok (.goto (-33), 3) := by decide +kernel
theorem dX8_isWithdrawn_38 : decode cX8_isWithdrawn 38 = .ok (.iconst 0, 1) := by decide +kernel
theorem dX8_isWithdrawn_39 : decode cX8_isWithdrawn 39 = .ok (.ireturn, 1) := by decide +kernel
theorem dX8_isSaid_0 : decode cX8_isSaid 0 = .ok (.iconst 0, 1) := by decide +kernel
theorem dX8_isSaid_1 : decode cX8_isSaid 1 = .ok (.istore 5, 2) := by decide +kernel
theorem dX8_isSaid_3 : decode cX8_isSaid 3 = .ok (.iload 5, 2) := by decide +kernel
theorem dX8_isSaid_5 : decode cX8_isSaid 5 = .ok (.aload_n 0, 1) := by decide +kernel
theorem dX8_isSaid_6 : decode cX8_isSaid 6 = .ok (.getfield 89, 3) := by decide +kernel
theorem dX8_isSaid_9 : decode cX8_isSaid 9 = .ok (.if_icmp .ge 65, 3) := by decide +kernel
theorem dX8_isSaid_12 : decode cX8_isSaid 12 = .ok (.aload_n 0, 1) := by decide +kernel
theorem dX8_isSaid_13 : decode cX8_isSaid 13 = .ok (.getfield 25, 3) := by decide +kernel
theorem dX8_isSaid_16 : decode cX8_isSaid 16 = .ok (.iload 5, 2) := by decide +kernel
theorem dX8_isSaid_18 : decode cX8_isSaid 18 = .ok (.iaload, 1) := by decide +kernel
theorem dX8_isSaid_19 : decode cX8_isSaid 19 = .ok (.iload_n 1, 1) := by decide +kernel
theorem dX8_isSaid_20 : decode cX8_isSaid 20 = .ok (.if_icmp .ne 48, 3) := by decide +kernel
theorem dX8_isSaid_23 : decode cX8_isSaid 23 = .ok (.aload_n 0, 1) := by decide +kernel
theorem dX8_isSaid_24 : decode cX8_isSaid 24 = .ok (.getfield 28, 3) := by decide +kernel
theorem dX8_isSaid_27 : decode cX8_isSaid 27 = .ok (.iload 5, 2) := by decide +kernel
theorem dX8_isSaid_29 : decode cX8_isSaid 29 = .ok (.iaload, 1) := by decide +kernel
theorem dX8_isSaid_30 : decode cX8_isSaid 30 = .ok (.iload_n 2, 1) := by decide +kernel
theorem dX8_isSaid_31 : decode cX8_isSaid 31 = .ok (.if_icmp .ne 37, 3) := by decide +kernel
theorem dX8_isSaid_34 : decode cX8_isSaid 34 = .ok (.aload_n 0, 1) := by decide +kernel
theorem dX8_isSaid_35 : decode cX8_isSaid 35 = .ok (.getfield 40, 3) := by decide +kernel
theorem dX8_isSaid_38 : decode cX8_isSaid 38 = .ok (.iload 5, 2) := by decide +kernel
theorem dX8_isSaid_40 : decode cX8_isSaid 40 = .ok (.iaload, 1) := by decide +kernel
theorem dX8_isSaid_41 : decode cX8_isSaid 41 = .ok (.iload_n 3, 1) := by decide +kernel
theorem dX8_isSaid_42 : decode cX8_isSaid 42 = .ok (.if_icmp .ne 26, 3) := by decide +kernel
theorem dX8_isSaid_45 : decode cX8_isSaid 45 = .ok (.aload_n 0, 1) := by decide +kernel
theorem dX8_isSaid_46 : decode cX8_isSaid 46 = .ok (.getfield 43, 3) := by decide +kernel
theorem dX8_isSaid_49 : decode cX8_isSaid 49 = .ok (.iload 5, 2) := by decide +kernel
theorem dX8_isSaid_51 : decode cX8_isSaid 51 = .ok (.iaload, 1) := by decide +kernel
theorem dX8_isSaid_52 : decode cX8_isSaid 52 = .ok (.iload 4, 2) := by decide +kernel
theorem dX8_isSaid_54 : decode cX8_isSaid 54 = .ok (.if_icmp .ne 14, 3) := by decide +kernel
theorem dX8_isSaid_57 : decode cX8_isSaid 57 = .ok (.aload_n 0, 1) := by decide +kernel
theorem dX8_isSaid_58 : decode cX8_isSaid 58 = .ok (.iload 5, 2) := by decide +kernel
theorem dX8_isSaid_60 : decode cX8_isSaid 60 = .ok (.invokevirtual 133, 3) := by decide +kernel
theorem dX8_isSaid_63 : decode cX8_isSaid 63 = .ok (.ifCond .ne 5, 3) := by decide +kernel
theorem dX8_isSaid_66 : decode cX8_isSaid 66 = .ok (.iconst 1, 1) := by decide +kernel
theorem dX8_isSaid_67 : decode cX8_isSaid 67 = .ok (.ireturn, 1) := by decide +kernel
theorem dX8_isSaid_68 : decode cX8_isSaid 68 = .ok (.iinc 5 1, 3) := by decide +kernel
theorem dX8_isSaid_71 : decode cX8_isSaid 71 = .ok (.goto (-68), 3) := by decide +kernel
theorem dX8_isSaid_74 : decode cX8_isSaid 74 = .ok (.iconst 0, 1) := by decide +kernel
theorem dX8_isSaid_75 : decode cX8_isSaid 75 = .ok (.ireturn, 1) := by decide +kernel
theorem dX8_object_0 : decode cX8_object 0 = .ok (.aload_n 0, 1) := by decide +kernel
theorem dX8_object_1 : decode cX8_object 1 = .ok (.iload_n 1, 1) := by decide +kernel
theorem dX8_object_2 : decode cX8_object 2 = .ok (.invokevirtual 115, 3) := by decide +kernel
theorem dX8_object_5 : decode cX8_object 5 = .ok (.ifCond .eq 21, 3) := by decide +kernel
theorem dX8_object_8 : decode cX8_object 8 = .ok (.aload_n 0, 1) := by decide +kernel
theorem dX8_object_9 : decode cX8_object 9 = .ok (.iload_n 2, 1) := by decide +kernel
theorem dX8_object_10 : decode cX8_object 10 = .ok (.invokevirtual 136, 3) := by decide +kernel
theorem dX8_object_13 : decode cX8_object 13 = .ok (.ifCond .eq 13, 3) := by decide +kernel
theorem dX8_object_16 : decode cX8_object 16 = .ok (.aload_n 0, 1) := by decide +kernel
theorem dX8_object_17 : decode cX8_object 17 = .ok (.getfield 25, 3) := by decide +kernel
theorem dX8_object_20 : decode cX8_object 20 = .ok (.iload_n 2, 1) := by decide +kernel
theorem dX8_object_21 : decode cX8_object 21 = .ok (.iaload, 1) := by decide +kernel
theorem dX8_object_22 : decode cX8_object 22 = .ok (.iconst 3, 1) := by decide +kernel
theorem dX8_object_23 : decode cX8_object 23 = .ok (.if_icmp .eq 6, 3) := by decide +kernel
theorem dX8_object_26 : decode cX8_object 26 = .ok (.bipush (-2), 2) := by decide +kernel
theorem dX8_object_28 : decode cX8_object 28 = .ok (.ireturn, 1) := by decide +kernel
theorem dX8_object_29 : decode cX8_object 29 = .ok (.aload_n 0, 1) := by decide +kernel
theorem dX8_object_30 : decode cX8_object 30 = .ok (.invokevirtual 118, 3) := by decide +kernel
theorem dX8_object_33 : decode cX8_object 33 = .ok (.ifCond .eq 6, 3) := by decide +kernel
theorem dX8_object_36 : decode cX8_object 36 = .ok (.bipush (-8), 2) := by decide +kernel
theorem dX8_object_38 : decode cX8_object 38 = .ok (.ireturn, 1) := by decide +kernel
theorem dX8_object_39 : decode cX8_object 39 = .ok (.aload_n 0, 1) := by decide +kernel
theorem dX8_object_40 : decode cX8_object 40 = .ok (.getfield 31, 3) := by decide +kernel
theorem dX8_object_43 : decode cX8_object 43 = .ok (.iload_n 2, 1) := by decide +kernel
theorem dX8_object_44 : decode cX8_object 44 = .ok (.iaload, 1) := by decide +kernel
theorem dX8_object_45 : decode cX8_object 45 = .ok (.istore 4, 2) := by decide +kernel
theorem dX8_object_47 : decode cX8_object 47 = .ok (.aload_n 0, 1) := by decide +kernel
theorem dX8_object_48 : decode cX8_object 48 = .ok (.iload_n 1, 1) := by decide +kernel
theorem dX8_object_49 : decode cX8_object 49 = .ok (.iload 4, 2) := by decide +kernel
theorem dX8_object_51 : decode cX8_object 51 = .ok (.invokevirtual 129, 3) := by decide +kernel
theorem dX8_object_54 : decode cX8_object 54 = .ok (.istore 5, 2) := by decide +kernel
theorem dX8_object_56 : decode cX8_object 56 = .ok (.iload 5, 2) := by decide +kernel
theorem dX8_object_58 : decode cX8_object 58 = .ok (.iconst (-1), 1) := by decide +kernel
theorem dX8_object_59 : decode cX8_object 59 = .ok (.if_icmp .ne 6, 3) := by decide +kernel
theorem dX8_object_62 : decode cX8_object 62 = .ok (.bipush (-6), 2) := by decide +kernel
theorem dX8_object_64 : decode cX8_object 64 = .ok (.ireturn, 1) := by decide +kernel
theorem dX8_object_65 : decode cX8_object 65 = .ok (.aload_n 0, 1) := by decide +kernel
theorem dX8_object_66 : decode cX8_object 66 = .ok (.iload_n 2, 1) := by decide +kernel
theorem dX8_object_67 : decode cX8_object 67 = .ok (.iload 5, 2) := by decide +kernel
theorem dX8_object_69 : decode cX8_object 69 = .ok (.aload_n 0, 1) := by decide +kernel
theorem dX8_object_70 : decode cX8_object 70 = .ok (.getfield 98, 3) := by decide +kernel
theorem dX8_object_73 : decode cX8_object 73 = .ok (.invokevirtual 112, 3) := by decide +kernel
theorem dX8_object_76 : decode cX8_object 76 = .ok (.ifCond .eq 6, 3) := by decide +kernel
theorem dX8_object_79 : decode cX8_object 79 = .ok (.bipush (-7), 2) := by decide +kernel
theorem dX8_object_81 : decode cX8_object 81 = .ok (.ireturn, 1) := by decide +kernel
theorem dX8_object_82 : decode cX8_object 82 = .ok (.aload_n 0, 1) := by decide +kernel
theorem dX8_object_83 : decode cX8_object 83 = .ok (.getfield 98, 3) := by decide +kernel
theorem dX8_object_86 : decode cX8_object 86 = .ok (.aload_n 0, 1) := by decide +kernel
theorem dX8_object_87 : decode cX8_object 87 = .ok (.getfield 34, 3) := by decide +kernel
theorem dX8_object_90 : decode cX8_object 90 = .ok (.iload_n 2, 1) := by decide +kernel
theorem dX8_object_91 : decode cX8_object 91 = .ok (.iaload, 1) := by decide +kernel
theorem dX8_object_92 : decode cX8_object 92 = .ok (.aload_n 0, 1) := by decide +kernel
theorem dX8_object_93 : decode cX8_object 93 = .ok (.getfield 19, 3) := by decide +kernel
theorem dX8_object_96 : decode cX8_object 96 = .ok (.iload 4, 2) := by decide +kernel
theorem dX8_object_98 : decode cX8_object 98 = .ok (.iaload, 1) := by decide +kernel
theorem dX8_object_99 : decode cX8_object 99 = .ok (.iadd, 1) := by decide +kernel
theorem dX8_object_100 : decode cX8_object 100 = .ok (.if_icmp .le 6, 3) := by decide +kernel
theorem dX8_object_103 : decode cX8_object 103 = .ok (.bipush (-3), 2) := by decide +kernel
theorem dX8_object_105 : decode cX8_object 105 = .ok (.ireturn, 1) := by decide +kernel
theorem dX8_object_106 : decode cX8_object 106 = .ok (.aload_n 0, 1) := by decide +kernel
theorem dX8_object_107 : decode cX8_object 107 = .ok (.iconst 4, 1) := by decide +kernel
theorem dX8_object_108 : decode cX8_object 108 = .ok (.iload_n 1, 1) := by decide +kernel
theorem dX8_object_109 : decode cX8_object 109 = .ok (.iload_n 2, 1) := by decide +kernel
theorem dX8_object_110 : decode cX8_object 110 = .ok (.iload 5, 2) := by decide +kernel
theorem dX8_object_112 : decode cX8_object 112 = .ok (.invokevirtual 139, 3) := by decide +kernel
theorem dX8_object_115 : decode cX8_object 115 = .ok (.ifCond .eq 6, 3) := by decide +kernel
theorem dX8_object_118 : decode cX8_object 118 = .ok (.bipush (-4), 2) := by decide +kernel
theorem dX8_object_120 : decode cX8_object 120 = .ok (.ireturn, 1) := by decide +kernel
theorem dX8_object_121 : decode cX8_object 121 = .ok (.aload_n 0, 1) := by decide +kernel
theorem dX8_object_122 : decode cX8_object 122 = .ok (.iconst 4, 1) := by decide +kernel
theorem dX8_object_123 : decode cX8_object 123 = .ok (.iload_n 1, 1) := by decide +kernel
theorem dX8_object_124 : decode cX8_object 124 = .ok (.iload 4, 2) := by decide +kernel
theorem dX8_object_126 : decode cX8_object 126 = .ok (.iconst 0, 1) := by decide +kernel
theorem dX8_object_127 : decode cX8_object 127 = .ok (.iload_n 2, 1) := by decide +kernel
theorem dX8_object_128 : decode cX8_object 128 = .ok (.iload 5, 2) := by decide +kernel
theorem dX8_object_130 : decode cX8_object 130 = .ok (.invokevirtual 125, 3) := by decide +kernel
theorem dX8_object_133 : decode cX8_object 133 = .ok (.istore 6, 2) := by decide +kernel
theorem dX8_object_135 : decode cX8_object 135 = .ok (.aload_n 0, 1) := by decide +kernel
theorem dX8_object_136 : decode cX8_object 136 = .ok (.getfield 52, 3) := by decide +kernel
theorem dX8_object_139 : decode cX8_object 139 = .ok (.iload 6, 2) := by decide +kernel
theorem dX8_object_141 : decode cX8_object 141 = .ok (.iload_n 3, 1) := by decide +kernel
theorem dX8_object_142 : decode cX8_object 142 = .ok (.ifCond .eq 7, 3) := by decide +kernel
theorem dX8_object_145 : decode cX8_object 145 = .ok (.iconst 1, 1) := by decide +kernel
theorem dX8_object_146 : decode cX8_object 146 = .ok (.goto 4, 3) := by decide +kernel
theorem dX8_object_149 : decode cX8_object 149 = .ok (.iconst 0, 1) := by decide +kernel
theorem dX8_object_150 : decode cX8_object 150 = .ok (.iastore, 1) := by decide +kernel
theorem dX8_object_151 : decode cX8_object 151 = .ok (.iload 6, 2) := by decide +kernel
theorem dX8_object_153 : decode cX8_object 153 = .ok (.ireturn, 1) := by decide +kernel
theorem dX8_withdraw_0 : decode cX8_withdraw 0 = .ok (.aload_n 0, 1) := by decide +kernel
theorem dX8_withdraw_1 : decode cX8_withdraw 1 = .ok (.iload_n 1, 1) := by decide +kernel
theorem dX8_withdraw_2 : decode cX8_withdraw 2 = .ok (.invokevirtual 115, 3) := by decide +kernel
theorem dX8_withdraw_5 : decode cX8_withdraw 5 = .ok (.ifCond .eq 15, 3) := by decide +kernel
theorem dX8_withdraw_8 : decode cX8_withdraw 8 = .ok (.aload_n 0, 1) := by decide +kernel
theorem dX8_withdraw_9 : decode cX8_withdraw 9 = .ok (.iload_n 2, 1) := by decide +kernel
theorem dX8_withdraw_10 : decode cX8_withdraw 10 = .ok (.invokevirtual 136, 3) := by decide +kernel
theorem dX8_withdraw_13 : decode cX8_withdraw 13 = .ok (.ifCond .eq 7, 3) := by decide +kernel
theorem dX8_withdraw_16 : decode cX8_withdraw 16 = .ok (.iconst 1, 1) := by decide +kernel
theorem dX8_withdraw_17 : decode cX8_withdraw 17 = .ok (.goto 4, 3) := by decide +kernel
theorem dX8_withdraw_20 : decode cX8_withdraw 20 = .ok (.iconst 0, 1) := by decide +kernel
theorem dX8_withdraw_21 : decode cX8_withdraw 21 = .ok (.istore_n 3, 1) := by decide +kernel
theorem dX8_withdraw_22 : decode cX8_withdraw 22 = .ok (.iload_n 3, 1) := by decide +kernel
theorem dX8_withdraw_23 : decode cX8_withdraw 23 = .ok (.ifCond .eq 42, 3) := by decide +kernel
theorem dX8_withdraw_26 : decode cX8_withdraw 26 = .ok (.aload_n 0, 1) := by decide +kernel
theorem dX8_withdraw_27 : decode cX8_withdraw 27 = .ok (.iload_n 2, 1) := by decide +kernel
theorem dX8_withdraw_28 : decode cX8_withdraw 28 = .ok (.invokevirtual 101, 3) := by decide +kernel
theorem dX8_withdraw_31 : decode cX8_withdraw 31 = .ok (.ifCond .ne 37, 3) := by decide +kernel
theorem dX8_withdraw_34 : decode cX8_withdraw 34 = .ok (.aload_n 0, 1) := by decide +kernel
theorem dX8_withdraw_35 : decode cX8_withdraw 35 = .ok (.getfield 25, 3) := by decide +kernel
theorem dX8_withdraw_38 : decode cX8_withdraw 38 = .ok (.iload_n 2, 1) := by decide +kernel
theorem dX8_withdraw_39 : decode cX8_withdraw 39 = .ok (.iaload, 1) := by decide +kernel
theorem dX8_withdraw_40 : decode cX8_withdraw 40 = .ok (.iconst 3, 1) := by decide +kernel
theorem dX8_withdraw_41 : decode cX8_withdraw 41 = .ok (.if_icmp .eq 27, 3) := by decide +kernel
theorem dX8_withdraw_44 : decode cX8_withdraw 44 = .ok (.aload_n 0, 1) := by decide +kernel
theorem dX8_withdraw_45 : decode cX8_withdraw 45 = .ok (.getfield 25, 3) := by decide +kernel
theorem dX8_withdraw_48 : decode cX8_withdraw 48 = .ok (.iload_n 2, 1) := by decide +kernel
theorem dX8_withdraw_49 : decode cX8_withdraw 49 = .ok (.iaload, 1) := by decide +kernel
theorem dX8_withdraw_50 : decode cX8_withdraw 50 = .ok (.iconst 4, 1) := by decide +kernel
theorem dX8_withdraw_51 : decode cX8_withdraw 51 = .ok (.if_icmp .eq 17, 3) := by decide +kernel
theorem dX8_withdraw_54 : decode cX8_withdraw 54 = .ok (.aload_n 0, 1) := by decide +kernel
theorem dX8_withdraw_55 : decode cX8_withdraw 55 = .ok (.getfield 25, 3) := by decide +kernel
theorem dX8_withdraw_58 : decode cX8_withdraw 58 = .ok (.iload_n 2, 1) := by decide +kernel
theorem dX8_withdraw_59 : decode cX8_withdraw 59 = .ok (.iaload, 1) := by decide +kernel
theorem dX8_withdraw_60 : decode cX8_withdraw 60 = .ok (.bipush 7, 2) := by decide +kernel
theorem dX8_withdraw_62 : decode cX8_withdraw 62 = .ok (.if_icmp .eq 6, 3) := by decide +kernel
theorem dX8_withdraw_65 : decode cX8_withdraw 65 = .ok (.bipush (-2), 2) := by decide +kernel
theorem dX8_withdraw_67 : decode cX8_withdraw 67 = .ok (.ireturn, 1) := by decide +kernel
theorem dX8_withdraw_68 : decode cX8_withdraw 68 = .ok (.aload_n 0, 1) := by decide +kernel
theorem dX8_withdraw_69 : decode cX8_withdraw 69 = .ok (.invokevirtual 118, 3) := by decide +kernel
theorem dX8_withdraw_72 : decode cX8_withdraw 72 = .ok (.ifCond .eq 6, 3) := by decide +kernel
theorem dX8_withdraw_75 : decode cX8_withdraw 75 = .ok (.bipush (-8), 2) := by decide +kernel
theorem dX8_withdraw_77 : decode cX8_withdraw 77 = .ok (.ireturn, 1) := by decide +kernel
theorem dX8_withdraw_78 : decode cX8_withdraw 78 = .ok (.aload_n 0, 1) := by decide +kernel
theorem dX8_withdraw_79 : decode cX8_withdraw 79 = .ok (.iload_n 1, 1) := by decide +kernel
theorem dX8_withdraw_80 : decode cX8_withdraw 80 = .ok (.aload_n 0, 1) := by decide +kernel
theorem dX8_withdraw_81 : decode cX8_withdraw 81 = .ok (.getfield 31, 3) := by decide +kernel
theorem dX8_withdraw_84 : decode cX8_withdraw 84 = .ok (.iload_n 2, 1) := by decide +kernel
theorem dX8_withdraw_85 : decode cX8_withdraw 85 = .ok (.iaload, 1) := by decide +kernel
theorem dX8_withdraw_86 : decode cX8_withdraw 86 = .ok (.invokevirtual 129, 3) := by decide +kernel
theorem dX8_withdraw_89 : decode cX8_withdraw 89 = .ok (.istore 4, 2) := by decide +kernel
theorem dX8_withdraw_91 : decode cX8_withdraw 91 = .ok (.iload 4, 2) := by decide +kernel
theorem dX8_withdraw_93 : decode cX8_withdraw 93 = .ok (.iconst (-1), 1) := by decide +kernel
theorem dX8_withdraw_94 : decode cX8_withdraw 94 = .ok (.if_icmp .ne 6, 3) := by decide +kernel
theorem dX8_withdraw_97 : decode cX8_withdraw 97 = .ok (.bipush (-6), 2) := by decide +kernel
theorem dX8_withdraw_99 : decode cX8_withdraw 99 = .ok (.ireturn, 1) := by decide +kernel
theorem dX8_withdraw_100 : decode cX8_withdraw 100 = .ok (.iload_n 2, 1) := by decide +kernel
theorem dX8_withdraw_101 : decode cX8_withdraw 101 = .ok (.iload 4, 2) := by decide +kernel
theorem dX8_withdraw_103 : decode cX8_withdraw 103 = .ok (.if_icmp .eq 30, 3) := by decide +kernel
theorem dX8_withdraw_106 : decode cX8_withdraw 106 = .ok (.aload_n 0, 1) := by decide +kernel
theorem dX8_withdraw_107 : decode cX8_withdraw 107 = .ok (.getfield 43, 3) := by decide +kernel
theorem dX8_withdraw_110 : decode cX8_withdraw 110 = .ok (.iload_n 2, 1) := by decide +kernel
theorem dX8_withdraw_111 : decode cX8_withdraw 111 = .ok (.iaload, 1) := by decide +kernel
theorem dX8_withdraw_112 : decode cX8_withdraw 112 = .ok (.iconst (-1), 1) := by decide +kernel
theorem dX8_withdraw_113 : decode cX8_withdraw 113 = .ok (.if_icmp .eq 17, 3) := by decide +kernel
theorem dX8_withdraw_116 : decode cX8_withdraw 116 = .ok (.aload_n 0, 1) := by decide +kernel
theorem dX8_withdraw_117 : decode cX8_withdraw 117 = .ok (.iload_n 2, 1) := by decide +kernel
theorem dX8_withdraw_118 : decode cX8_withdraw 118 = .ok (.iload 4, 2) := by decide +kernel
theorem dX8_withdraw_120 : decode cX8_withdraw 120 = .ok (.aload_n 0, 1) := by decide +kernel
theorem dX8_withdraw_121 : decode cX8_withdraw 121 = .ok (.getfield 98, 3) := by decide +kernel
theorem dX8_withdraw_124 : decode cX8_withdraw 124 = .ok (.invokevirtual 112, 3) := by decide +kernel
theorem dX8_withdraw_127 : decode cX8_withdraw 127 = .ok (.ifCond .ne 6, 3) := by decide +kernel
theorem dX8_withdraw_130 : decode cX8_withdraw 130 = .ok (.bipush (-7), 2) := by decide +kernel
theorem dX8_withdraw_132 : decode cX8_withdraw 132 = .ok (.ireturn, 1) := by decide +kernel
theorem dX8_withdraw_133 : decode cX8_withdraw 133 = .ok (.aload_n 0, 1) := by decide +kernel
theorem dX8_withdraw_134 : decode cX8_withdraw 134 = .ok (.iload_n 2, 1) := by decide +kernel
theorem dX8_withdraw_135 : decode cX8_withdraw 135 = .ok (.invokevirtual 133, 3) := by decide +kernel
theorem dX8_withdraw_138 : decode cX8_withdraw 138 = .ok (.ifCond .eq 8, 3) := by decide +kernel
theorem dX8_withdraw_141 : decode cX8_withdraw 141 = .ok (.bipush (-4), 2) := by decide +kernel
theorem dX8_withdraw_143 : decode cX8_withdraw 143 = .ok (.goto 28, 3) := by decide +kernel
theorem dX8_withdraw_146 : decode cX8_withdraw 146 = .ok (.aload_n 0, 1) := by decide +kernel
theorem dX8_withdraw_147 : decode cX8_withdraw 147 = .ok (.iconst 5, 1) := by decide +kernel
theorem dX8_withdraw_148 : decode cX8_withdraw 148 = .ok (.iload_n 1, 1) := by decide +kernel
theorem dX8_withdraw_149 : decode cX8_withdraw 149 = .ok (.aload_n 0, 1) := by decide +kernel
theorem dX8_withdraw_150 : decode cX8_withdraw 150 = .ok (.getfield 31, 3) := by decide +kernel
theorem dX8_withdraw_153 : decode cX8_withdraw 153 = .ok (.iload_n 2, 1) := by decide +kernel
theorem dX8_withdraw_154 : decode cX8_withdraw 154 = .ok (.iaload, 1) := by decide +kernel
theorem dX8_withdraw_155 : decode cX8_withdraw 155 = .ok (.aload_n 0, 1) := by decide +kernel
theorem dX8_withdraw_156 : decode cX8_withdraw 156 = .ok (.getfield 16, 3) := by decide +kernel
theorem dX8_withdraw_159 : decode cX8_withdraw 159 = .ok (.aload_n 0, 1) := by decide +kernel
theorem dX8_withdraw_160 : decode cX8_withdraw 160 = .ok (.getfield 31, 3) := by decide +kernel
theorem dX8_withdraw_163 : decode cX8_withdraw 163 = .ok (.iload_n 2, 1) := by decide +kernel
theorem dX8_withdraw_164 : decode cX8_withdraw 164 = .ok (.iaload, 1) := by decide +kernel
theorem dX8_withdraw_165 : decode cX8_withdraw 165 = .ok (.iaload, 1) := by decide +kernel
theorem dX8_withdraw_166 : decode cX8_withdraw 166 = .ok (.iload_n 2, 1) := by decide +kernel
theorem dX8_withdraw_167 : decode cX8_withdraw 167 = .ok (.iconst (-1), 1) := by decide +kernel
theorem dX8_withdraw_168 : decode cX8_withdraw 168 = .ok (.invokevirtual 125, 3) := by decide +kernel
theorem dX8_withdraw_171 : decode cX8_withdraw 171 = .ok (.ireturn, 1) := by decide +kernel
theorem dX8_change_0 : decode cX8_change 0 = .ok (.aload_n 0, 1) := by decide +kernel
theorem dX8_change_1 : decode cX8_change 1 = .ok (.iload_n 1, 1) := by decide +kernel
theorem dX8_change_2 : decode cX8_change 2 = .ok (.invokevirtual 115, 3) := by decide +kernel
theorem dX8_change_5 : decode cX8_change 5 = .ok (.ifCond .eq 25, 3) := by decide +kernel
theorem dX8_change_8 : decode cX8_change 8 = .ok (.aload_n 0, 1) := by decide +kernel
theorem dX8_change_9 : decode cX8_change 9 = .ok (.iload_n 2, 1) := by decide +kernel
theorem dX8_change_10 : decode cX8_change 10 = .ok (.iload_n 3, 1) := by decide +kernel
theorem dX8_change_11 : decode cX8_change 11 = .ok (.invokevirtual 93, 3) := by decide +kernel
theorem dX8_change_14 : decode cX8_change 14 = .ok (.ifCond .eq 16, 3) := by decide +kernel
theorem dX8_change_17 : decode cX8_change 17 = .ok (.iload 4, 2) := by decide +kernel
theorem dX8_change_19 : decode cX8_change 19 = .ok (.iconst 1, 1) := by decide +kernel
theorem dX8_change_20 : decode cX8_change 20 = .ok (.if_icmp .lt 10, 3) := by decide +kernel
theorem dX8_change_23 : decode cX8_change 23 = .ok (.iload 4, 2) := by decide +kernel
theorem dX8_change_25 : decode cX8_change 25 = .ok (.ldc 97, 2) := by decide +kernel
theorem dX8_change_27 : decode cX8_change 27 = .ok (.if_icmp .le 6, 3) := by decide +kernel
theorem dX8_change_30 : decode cX8_change 30 = .ok (.bipush (-2), 2) := by decide +kernel
theorem dX8_change_32 : decode cX8_change 32 = .ok (.ireturn, 1) := by decide +kernel
theorem dX8_change_33 : decode cX8_change 33 = .ok (.aload_n 0, 1) := by decide +kernel
theorem dX8_change_34 : decode cX8_change 34 = .ok (.invokevirtual 118, 3) := by decide +kernel
theorem dX8_change_37 : decode cX8_change 37 = .ok (.ifCond .eq 6, 3) := by decide +kernel
theorem dX8_change_40 : decode cX8_change 40 = .ok (.bipush (-8), 2) := by decide +kernel
theorem dX8_change_42 : decode cX8_change 42 = .ok (.ireturn, 1) := by decide +kernel
theorem dX8_change_43 : decode cX8_change 43 = .ok (.aload_n 0, 1) := by decide +kernel
theorem dX8_change_44 : decode cX8_change 44 = .ok (.iload_n 1, 1) := by decide +kernel
theorem dX8_change_45 : decode cX8_change 45 = .ok (.iload_n 2, 1) := by decide +kernel
theorem dX8_change_46 : decode cX8_change 46 = .ok (.invokevirtual 129, 3) := by decide +kernel
theorem dX8_change_49 : decode cX8_change 49 = .ok (.istore 5, 2) := by decide +kernel
theorem dX8_change_51 : decode cX8_change 51 = .ok (.iload 5, 2) := by decide +kernel
theorem dX8_change_53 : decode cX8_change 53 = .ok (.iconst (-1), 1) := by decide +kernel
theorem dX8_change_54 : decode cX8_change 54 = .ok (.if_icmp .ne 6, 3) := by decide +kernel
theorem dX8_change_57 : decode cX8_change 57 = .ok (.bipush (-6), 2) := by decide +kernel
theorem dX8_change_59 : decode cX8_change 59 = .ok (.ireturn, 1) := by decide +kernel
theorem dX8_change_60 : decode cX8_change 60 = .ok (.aload_n 0, 1) := by decide +kernel
theorem dX8_change_61 : decode cX8_change 61 = .ok (.bipush 6, 2) := by decide +kernel
theorem dX8_change_63 : decode cX8_change 63 = .ok (.iload_n 1, 1) := by decide +kernel
theorem dX8_change_64 : decode cX8_change 64 = .ok (.iload_n 2, 1) := by decide +kernel
theorem dX8_change_65 : decode cX8_change 65 = .ok (.iconst 0, 1) := by decide +kernel
theorem dX8_change_66 : decode cX8_change 66 = .ok (.iconst (-1), 1) := by decide +kernel
theorem dX8_change_67 : decode cX8_change 67 = .ok (.iload 5, 2) := by decide +kernel
theorem dX8_change_69 : decode cX8_change 69 = .ok (.invokevirtual 125, 3) := by decide +kernel
theorem dX8_change_72 : decode cX8_change 72 = .ok (.istore 6, 2) := by decide +kernel
theorem dX8_change_74 : decode cX8_change 74 = .ok (.aload_n 0, 1) := by decide +kernel
theorem dX8_change_75 : decode cX8_change 75 = .ok (.getfield 46, 3) := by decide +kernel
theorem dX8_change_78 : decode cX8_change 78 = .ok (.iload 6, 2) := by decide +kernel
theorem dX8_change_80 : decode cX8_change 80 = .ok (.iload_n 3, 1) := by decide +kernel
theorem dX8_change_81 : decode cX8_change 81 = .ok (.iastore, 1) := by decide +kernel
theorem dX8_change_82 : decode cX8_change 82 = .ok (.aload_n 0, 1) := by decide +kernel
theorem dX8_change_83 : decode cX8_change 83 = .ok (.getfield 49, 3) := by decide +kernel
theorem dX8_change_86 : decode cX8_change 86 = .ok (.iload 6, 2) := by decide +kernel
theorem dX8_change_88 : decode cX8_change 88 = .ok (.iload 4, 2) := by decide +kernel
theorem dX8_change_90 : decode cX8_change 90 = .ok (.iastore, 1) := by decide +kernel
theorem dX8_change_91 : decode cX8_change 91 = .ok (.iload 6, 2) := by decide +kernel
theorem dX8_change_93 : decode cX8_change 93 = .ok (.ireturn, 1) := by decide +kernel
theorem dX8_consent_0 : decode cX8_consent 0 = .ok (.aload_n 0, 1) := by decide +kernel
theorem dX8_consent_1 : decode cX8_consent 1 = .ok (.iload_n 1, 1) := by decide +kernel
theorem dX8_consent_2 : decode cX8_consent 2 = .ok (.invokevirtual 115, 3) := by decide +kernel
theorem dX8_consent_5 : decode cX8_consent 5 = .ok (.ifCond .eq 22, 3) := by decide +kernel
theorem dX8_consent_8 : decode cX8_consent 8 = .ok (.aload_n 0, 1) := by decide +kernel
theorem dX8_consent_9 : decode cX8_consent 9 = .ok (.iload_n 2, 1) := by decide +kernel
theorem dX8_consent_10 : decode cX8_consent 10 = .ok (.invokevirtual 136, 3) := by decide +kernel
theorem dX8_consent_13 : decode cX8_consent 13 = .ok (.ifCond .eq 14, 3) := by decide +kernel
theorem dX8_consent_16 : decode cX8_consent 16 = .ok (.aload_n 0, 1) := by decide +kernel
theorem dX8_consent_17 : decode cX8_consent 17 = .ok (.getfield 25, 3) := by decide +kernel
theorem dX8_consent_20 : decode cX8_consent 20 = .ok (.iload_n 2, 1) := by decide +kernel
theorem dX8_consent_21 : decode cX8_consent 21 = .ok (.iaload, 1) := by decide +kernel
theorem dX8_consent_22 : decode cX8_consent 22 = .ok (.bipush 6, 2) := by decide +kernel
theorem dX8_consent_24 : decode cX8_consent 24 = .ok (.if_icmp .eq 6, 3) := by decide +kernel
theorem dX8_consent_27 : decode cX8_consent 27 = .ok (.bipush (-2), 2) := by decide +kernel
theorem dX8_consent_29 : decode cX8_consent 29 = .ok (.ireturn, 1) := by decide +kernel
theorem dX8_consent_30 : decode cX8_consent 30 = .ok (.aload_n 0, 1) := by decide +kernel
theorem dX8_consent_31 : decode cX8_consent 31 = .ok (.invokevirtual 118, 3) := by decide +kernel
theorem dX8_consent_34 : decode cX8_consent 34 = .ok (.ifCond .eq 6, 3) := by decide +kernel
theorem dX8_consent_37 : decode cX8_consent 37 = .ok (.bipush (-8), 2) := by decide +kernel
theorem dX8_consent_39 : decode cX8_consent 39 = .ok (.ireturn, 1) := by decide +kernel
theorem dX8_consent_40 : decode cX8_consent 40 = .ok (.aload_n 0, 1) := by decide +kernel
theorem dX8_consent_41 : decode cX8_consent 41 = .ok (.iload_n 1, 1) := by decide +kernel
theorem dX8_consent_42 : decode cX8_consent 42 = .ok (.aload_n 0, 1) := by decide +kernel
theorem dX8_consent_43 : decode cX8_consent 43 = .ok (.getfield 31, 3) := by decide +kernel
theorem dX8_consent_46 : decode cX8_consent 46 = .ok (.iload_n 2, 1) := by decide +kernel
theorem dX8_consent_47 : decode cX8_consent 47 = .ok (.iaload, 1) := by decide +kernel
theorem dX8_consent_48 : decode cX8_consent 48 = .ok (.invokevirtual 129, 3) := by decide +kernel
theorem dX8_consent_51 : decode cX8_consent 51 = .ok (.istore_n 3, 1) := by decide +kernel
theorem dX8_consent_52 : decode cX8_consent 52 = .ok (.iload_n 3, 1) := by decide +kernel
theorem dX8_consent_53 : decode cX8_consent 53 = .ok (.iconst (-1), 1) := by decide +kernel
theorem dX8_consent_54 : decode cX8_consent 54 = .ok (.if_icmp .ne 6, 3) := by decide +kernel
theorem dX8_consent_57 : decode cX8_consent 57 = .ok (.bipush (-6), 2) := by decide +kernel
theorem dX8_consent_59 : decode cX8_consent 59 = .ok (.ireturn, 1) := by decide +kernel
theorem dX8_consent_60 : decode cX8_consent 60 = .ok (.aload_n 0, 1) := by decide +kernel
theorem dX8_consent_61 : decode cX8_consent 61 = .ok (.bipush 7, 2) := by decide +kernel
theorem dX8_consent_63 : decode cX8_consent 63 = .ok (.iload_n 1, 1) := by decide +kernel
theorem dX8_consent_64 : decode cX8_consent 64 = .ok (.iload_n 2, 1) := by decide +kernel
theorem dX8_consent_65 : decode cX8_consent 65 = .ok (.iload_n 3, 1) := by decide +kernel
theorem dX8_consent_66 : decode cX8_consent 66 = .ok (.invokevirtual 139, 3) := by decide +kernel
theorem dX8_consent_69 : decode cX8_consent 69 = .ok (.ifCond .eq 8, 3) := by decide +kernel
theorem dX8_consent_72 : decode cX8_consent 72 = .ok (.bipush (-4), 2) := by decide +kernel
theorem dX8_consent_74 : decode cX8_consent 74 = .ok (.goto 29, 3) := by decide +kernel
theorem dX8_consent_77 : decode cX8_consent 77 = .ok (.aload_n 0, 1) := by decide +kernel
theorem dX8_consent_78 : decode cX8_consent 78 = .ok (.bipush 7, 2) := by decide +kernel
theorem dX8_consent_80 : decode cX8_consent 80 = .ok (.iload_n 1, 1) := by decide +kernel
theorem dX8_consent_81 : decode cX8_consent 81 = .ok (.aload_n 0, 1) := by decide +kernel
theorem dX8_consent_82 : decode cX8_consent 82 = .ok (.getfield 31, 3) := by decide +kernel
theorem dX8_consent_85 : decode cX8_consent 85 = .ok (.iload_n 2, 1) := by decide +kernel
theorem dX8_consent_86 : decode cX8_consent 86 = .ok (.iaload, 1) := by decide +kernel
theorem dX8_consent_87 : decode cX8_consent 87 = .ok (.aload_n 0, 1) := by decide +kernel
theorem dX8_consent_88 : decode cX8_consent 88 = .ok (.getfield 16, 3) := by decide +kernel
theorem dX8_consent_91 : decode cX8_consent 91 = .ok (.aload_n 0, 1) := by decide +kernel
theorem dX8_consent_92 : decode cX8_consent 92 = .ok (.getfield 31, 3) := by decide +kernel
theorem dX8_consent_95 : decode cX8_consent 95 = .ok (.iload_n 2, 1) := by decide +kernel
theorem dX8_consent_96 : decode cX8_consent 96 = .ok (.iaload, 1) := by decide +kernel
theorem dX8_consent_97 : decode cX8_consent 97 = .ok (.iaload, 1) := by decide +kernel
theorem dX8_consent_98 : decode cX8_consent 98 = .ok (.iload_n 2, 1) := by decide +kernel
theorem dX8_consent_99 : decode cX8_consent 99 = .ok (.iload_n 3, 1) := by decide +kernel
theorem dX8_consent_100 : decode cX8_consent 100 = .ok (.invokevirtual 125, 3) := by decide +kernel
theorem dX8_consent_103 : decode cX8_consent 103 = .ok (.ireturn, 1) := by decide +kernel
theorem dX8_follow_0 : decode cX8_follow 0 = .ok (.aload_n 0, 1) := by decide +kernel
theorem dX8_follow_1 : decode cX8_follow 1 = .ok (.iload_n 1, 1) := by decide +kernel
theorem dX8_follow_2 : decode cX8_follow 2 = .ok (.invokevirtual 115, 3) := by decide +kernel
theorem dX8_follow_5 : decode cX8_follow 5 = .ok (.ifCond .eq 19, 3) := by decide +kernel
theorem dX8_follow_8 : decode cX8_follow 8 = .ok (.aload_n 0, 1) := by decide +kernel
theorem dX8_follow_9 : decode cX8_follow 9 = .ok (.iload_n 2, 1) := by decide +kernel
theorem dX8_follow_10 : decode cX8_follow 10 = .ok (.invokevirtual 115, 3) := by decide +kernel
theorem dX8_follow_13 : decode cX8_follow 13 = .ok (.ifCond .eq 11, 3) := by decide +kernel
theorem dX8_follow_16 : decode cX8_follow 16 = .ok (.aload_n 0, 1) := by decide +kernel
theorem dX8_follow_17 : decode cX8_follow 17 = .ok (.iload_n 3, 1) := by decide +kernel
theorem dX8_follow_18 : decode cX8_follow 18 = .ok (.invokevirtual 85, 3) := by decide +kernel
theorem dX8_follow_21 : decode cX8_follow 21 = .ok (.ifCond .ne 6, 3) := by decide +kernel
theorem dX8_follow_24 : decode cX8_follow 24 = .ok (.bipush (-2), 2) := by decide +kernel
theorem dX8_follow_26 : decode cX8_follow 26 = .ok (.ireturn, 1) := by decide +kernel
theorem dX8_follow_27 : decode cX8_follow 27 = .ok (.aload_n 0, 1) := by decide +kernel
theorem dX8_follow_28 : decode cX8_follow 28 = .ok (.invokevirtual 118, 3) := by decide +kernel
theorem dX8_follow_31 : decode cX8_follow 31 = .ok (.ifCond .eq 6, 3) := by decide +kernel
theorem dX8_follow_34 : decode cX8_follow 34 = .ok (.bipush (-8), 2) := by decide +kernel
theorem dX8_follow_36 : decode cX8_follow 36 = .ok (.ireturn, 1) := by decide +kernel
theorem dX8_follow_37 : decode cX8_follow 37 = .ok (.iload_n 1, 1) := by decide +kernel
theorem dX8_follow_38 : decode cX8_follow 38 = .ok (.iload_n 2, 1) := by decide +kernel
theorem dX8_follow_39 : decode cX8_follow 39 = .ok (.if_icmp .eq 13, 3) := by decide +kernel
theorem dX8_follow_42 : decode cX8_follow 42 = .ok (.aload_n 0, 1) := by decide +kernel
theorem dX8_follow_43 : decode cX8_follow 43 = .ok (.iload_n 1, 1) := by decide +kernel
theorem dX8_follow_44 : decode cX8_follow 44 = .ok (.iload_n 3, 1) := by decide +kernel
theorem dX8_follow_45 : decode cX8_follow 45 = .ok (.invokevirtual 129, 3) := by decide +kernel
theorem dX8_follow_48 : decode cX8_follow 48 = .ok (.iconst (-1), 1) := by decide +kernel
theorem dX8_follow_49 : decode cX8_follow 49 = .ok (.if_icmp .eq 6, 3) := by decide +kernel
theorem dX8_follow_52 : decode cX8_follow 52 = .ok (.bipush (-4), 2) := by decide +kernel
theorem dX8_follow_54 : decode cX8_follow 54 = .ok (.ireturn, 1) := by decide +kernel
theorem dX8_follow_55 : decode cX8_follow 55 = .ok (.aload_n 0, 1) := by decide +kernel
theorem dX8_follow_56 : decode cX8_follow 56 = .ok (.iload_n 2, 1) := by decide +kernel
theorem dX8_follow_57 : decode cX8_follow 57 = .ok (.iload_n 3, 1) := by decide +kernel
theorem dX8_follow_58 : decode cX8_follow 58 = .ok (.invokevirtual 129, 3) := by decide +kernel
theorem dX8_follow_61 : decode cX8_follow 61 = .ok (.istore 5, 2) := by decide +kernel
theorem dX8_follow_63 : decode cX8_follow 63 = .ok (.iload 5, 2) := by decide +kernel
theorem dX8_follow_65 : decode cX8_follow 65 = .ok (.iconst (-1), 1) := by decide +kernel
theorem dX8_follow_66 : decode cX8_follow 66 = .ok (.if_icmp .ne 6, 3) := by decide +kernel
theorem dX8_follow_69 : decode cX8_follow 69 = .ok (.bipush (-6), 2) := by decide +kernel
theorem dX8_follow_71 : decode cX8_follow 71 = .ok (.ireturn, 1) := by decide +kernel
theorem dX8_follow_72 : decode cX8_follow 72 = .ok (.aload_n 0, 1) := by decide +kernel
theorem dX8_follow_73 : decode cX8_follow 73 = .ok (.bipush 8, 2) := by decide +kernel
theorem dX8_follow_75 : decode cX8_follow 75 = .ok (.iload_n 1, 1) := by decide +kernel
theorem dX8_follow_76 : decode cX8_follow 76 = .ok (.iload_n 3, 1) := by decide +kernel
theorem dX8_follow_77 : decode cX8_follow 77 = .ok (.aload_n 0, 1) := by decide +kernel
theorem dX8_follow_78 : decode cX8_follow 78 = .ok (.getfield 16, 3) := by decide +kernel
theorem dX8_follow_81 : decode cX8_follow 81 = .ok (.iload_n 3, 1) := by decide +kernel
theorem dX8_follow_82 : decode cX8_follow 82 = .ok (.iaload, 1) := by decide +kernel
theorem dX8_follow_83 : decode cX8_follow 83 = .ok (.iload 5, 2) := by decide +kernel
theorem dX8_follow_85 : decode cX8_follow 85 = .ok (.iconst (-1), 1) := by decide +kernel
theorem dX8_follow_86 : decode cX8_follow 86 = .ok (.invokevirtual 125, 3) := by decide +kernel
theorem dX8_follow_89 : decode cX8_follow 89 = .ok (.istore 6, 2) := by decide +kernel
theorem dX8_follow_91 : decode cX8_follow 91 = .ok (.aload_n 0, 1) := by decide +kernel
theorem dX8_follow_92 : decode cX8_follow 92 = .ok (.getfield 52, 3) := by decide +kernel
theorem dX8_follow_95 : decode cX8_follow 95 = .ok (.iload 6, 2) := by decide +kernel
theorem dX8_follow_97 : decode cX8_follow 97 = .ok (.iload 4, 2) := by decide +kernel
theorem dX8_follow_99 : decode cX8_follow 99 = .ok (.ifCond .eq 7, 3) := by decide +kernel
theorem dX8_follow_102 : decode cX8_follow 102 = .ok (.iconst 1, 1) := by decide +kernel
theorem dX8_follow_103 : decode cX8_follow 103 = .ok (.goto 4, 3) := by decide +kernel
theorem dX8_follow_106 : decode cX8_follow 106 = .ok (.iconst 0, 1) := by decide +kernel
theorem dX8_follow_107 : decode cX8_follow 107 = .ok (.iastore, 1) := by decide +kernel
theorem dX8_follow_108 : decode cX8_follow 108 = .ok (.iload 6, 2) := by decide +kernel
theorem dX8_follow_110 : decode cX8_follow 110 = .ok (.ireturn, 1) := by decide +kernel
theorem dX8_note_0 : decode cX8_note 0 = .ok (.aload_n 0, 1) := by decide +kernel
theorem dX8_note_1 : decode cX8_note 1 = .ok (.invokevirtual 118, 3) := by decide +kernel
theorem dX8_note_4 : decode cX8_note 4 = .ok (.ifCond .eq 6, 3) := by decide +kernel
theorem dX8_note_7 : decode cX8_note 7 = .ok (.bipush (-8), 2) := by decide +kernel
theorem dX8_note_9 : decode cX8_note 9 = .ok (.ireturn, 1) := by decide +kernel
theorem dX8_note_10 : decode cX8_note 10 = .ok (.aload_n 0, 1) := by decide +kernel
theorem dX8_note_11 : decode cX8_note 11 = .ok (.bipush 9, 2) := by decide +kernel
theorem dX8_note_13 : decode cX8_note 13 = .ok (.iconst (-1), 1) := by decide +kernel
theorem dX8_note_14 : decode cX8_note 14 = .ok (.iconst (-1), 1) := by decide +kernel
theorem dX8_note_15 : decode cX8_note 15 = .ok (.iconst 0, 1) := by decide +kernel
theorem dX8_note_16 : decode cX8_note 16 = .ok (.iconst (-1), 1) := by decide +kernel
theorem dX8_note_17 : decode cX8_note 17 = .ok (.iconst (-1), 1) := by decide +kernel
theorem dX8_note_18 : decode cX8_note 18 = .ok (.invokevirtual 125, 3) := by decide +kernel
theorem dX8_note_21 : decode cX8_note 21 = .ok (.istore_n 3, 1) := by decide +kernel
theorem dX8_note_22 : decode cX8_note 22 = .ok (.aload_n 0, 1) := by decide +kernel
theorem dX8_note_23 : decode cX8_note 23 = .ok (.getfield 55, 3) := by decide +kernel
theorem dX8_note_26 : decode cX8_note 26 = .ok (.iload_n 3, 1) := by decide +kernel
theorem dX8_note_27 : decode cX8_note 27 = .ok (.lload_n 1, 1) := by decide +kernel
theorem dX8_note_28 : decode cX8_note 28 = .ok (.lastore, 1) := by decide +kernel
theorem dX8_note_29 : decode cX8_note 29 = .ok (.iload_n 3, 1) := by decide +kernel
theorem dX8_note_30 : decode cX8_note 30 = .ok (.ireturn, 1) := by decide +kernel
theorem dX8_undo_0 : decode cX8_undo 0 = .ok (.aload_n 0, 1) := by decide +kernel
theorem dX8_undo_1 : decode cX8_undo 1 = .ok (.getfield 89, 3) := by decide +kernel
theorem dX8_undo_4 : decode cX8_undo 4 = .ok (.ifCond .eq 21, 3) := by decide +kernel
theorem dX8_undo_7 : decode cX8_undo 7 = .ok (.aload_n 0, 1) := by decide +kernel
theorem dX8_undo_8 : decode cX8_undo 8 = .ok (.getfield 34, 3) := by decide +kernel
theorem dX8_undo_11 : decode cX8_undo 11 = .ok (.aload_n 0, 1) := by decide +kernel
theorem dX8_undo_12 : decode cX8_undo 12 = .ok (.getfield 89, 3) := by decide +kernel
theorem dX8_undo_15 : decode cX8_undo 15 = .ok (.iconst 1, 1) := by decide +kernel
theorem dX8_undo_16 : decode cX8_undo 16 = .ok (.isub, 1) := by decide +kernel
theorem dX8_undo_17 : decode cX8_undo 17 = .ok (.iaload, 1) := by decide +kernel
theorem dX8_undo_18 : decode cX8_undo 18 = .ok (.aload_n 0, 1) := by decide +kernel
theorem dX8_undo_19 : decode cX8_undo 19 = .ok (.getfield 98, 3) := by decide +kernel
theorem dX8_undo_22 : decode cX8_undo 22 = .ok (.if_icmp .eq 5, 3) := by decide +kernel
theorem dX8_undo_25 : decode cX8_undo 25 = .ok (.iconst (-1), 1) := by decide +kernel
theorem dX8_undo_26 : decode cX8_undo 26 = .ok (.ireturn, 1) := by decide +kernel
theorem dX8_undo_27 : decode cX8_undo 27 = .ok (.aload_n 0, 1) := by decide +kernel
theorem dX8_undo_28 : decode cX8_undo 28 = .ok (.dup, 1) := by decide +kernel
theorem dX8_undo_29 : decode cX8_undo 29 = .ok (.getfield 89, 3) := by decide +kernel
theorem dX8_undo_32 : decode cX8_undo 32 = .ok (.iconst 1, 1) := by decide +kernel
theorem dX8_undo_33 : decode cX8_undo 33 = .ok (.isub, 1) := by decide +kernel
theorem dX8_undo_34 : decode cX8_undo 34 = .ok (.putfield 89, 3) := by decide +kernel
theorem dX8_undo_37 : decode cX8_undo 37 = .ok (.aload_n 0, 1) := by decide +kernel
theorem dX8_undo_38 : decode cX8_undo 38 = .ok (.getfield 89, 3) := by decide +kernel
theorem dX8_undo_41 : decode cX8_undo 41 = .ok (.ireturn, 1) := by decide +kernel
theorem dX8_strong_0 : decode cX8_strong 0 = .ok (.iconst 0, 1) := by decide +kernel
theorem dX8_strong_1 : decode cX8_strong 1 = .ok (.istore 5, 2) := by decide +kernel
theorem dX8_strong_3 : decode cX8_strong 3 = .ok (.iload 5, 2) := by decide +kernel
theorem dX8_strong_5 : decode cX8_strong 5 = .ok (.aload_n 0, 1) := by decide +kernel
theorem dX8_strong_6 : decode cX8_strong 6 = .ok (.getfield 89, 3) := by decide +kernel
theorem dX8_strong_9 : decode cX8_strong 9 = .ok (.if_icmp .ge 64, 3) := by decide +kernel
theorem dX8_strong_12 : decode cX8_strong 12 = .ok (.aload_n 0, 1) := by decide +kernel
theorem dX8_strong_13 : decode cX8_strong 13 = .ok (.getfield 25, 3) := by decide +kernel
theorem dX8_strong_16 : decode cX8_strong 16 = .ok (.iload 5, 2) := by decide +kernel
theorem dX8_strong_18 : decode cX8_strong 18 = .ok (.iaload, 1) := by decide +kernel
theorem dX8_strong_19 : decode cX8_strong 19 = .ok (.iconst 4, 1) := by decide +kernel
theorem dX8_strong_20 : decode cX8_strong 20 = .ok (.if_icmp .ne 47, 3) := by decide +kernel
theorem dX8_strong_23 : decode cX8_strong 23 = .ok (.aload_n 0, 1) := by decide +kernel
theorem dX8_strong_24 : decode cX8_strong 24 = .ok (.getfield 52, 3) := by decide +kernel
theorem dX8_strong_27 : decode cX8_strong 27 = .ok (.iload 5, 2) := by decide +kernel
theorem dX8_strong_29 : decode cX8_strong 29 = .ok (.iaload, 1) := by decide +kernel
theorem dX8_strong_30 : decode cX8_strong 30 = .ok (.ifCond .ne 37, 3) := by decide +kernel
theorem dX8_strong_33 : decode cX8_strong 33 = .ok (.aload_n 0, 1) := by decide +kernel
theorem dX8_strong_34 : decode cX8_strong 34 = .ok (.iload_n 2, 1) := by decide +kernel
theorem dX8_strong_35 : decode cX8_strong 35 = .ok (.iload 5, 2) := by decide +kernel
theorem dX8_strong_37 : decode cX8_strong 37 = .ok (.iload_n 3, 1) := by decide +kernel
theorem dX8_strong_38 : decode cX8_strong 38 = .ok (.iload 4, 2) := by decide +kernel
theorem dX8_strong_40 : decode cX8_strong 40 = .ok (.invokevirtual 143, 3) := by decide +kernel
theorem dX8_strong_43 : decode cX8_strong 43 = .ok (.ifCond .eq 24, 3) := by decide +kernel
theorem dX8_strong_46 : decode cX8_strong 46 = .ok (.aload_n 0, 1) := by decide +kernel
theorem dX8_strong_47 : decode cX8_strong 47 = .ok (.iload_n 1, 1) := by decide +kernel
theorem dX8_strong_48 : decode cX8_strong 48 = .ok (.aload_n 0, 1) := by decide +kernel
theorem dX8_strong_49 : decode cX8_strong 49 = .ok (.getfield 40, 3) := by decide +kernel
theorem dX8_strong_52 : decode cX8_strong 52 = .ok (.iload 5, 2) := by decide +kernel
theorem dX8_strong_54 : decode cX8_strong 54 = .ok (.iaload, 1) := by decide +kernel
theorem dX8_strong_55 : decode cX8_strong 55 = .ok (.iload_n 3, 1) := by decide +kernel
theorem dX8_strong_56 : decode cX8_strong 56 = .ok (.iload 4, 2) := by decide +kernel
theorem dX8_strong_58 : decode cX8_strong 58 = .ok (.invokevirtual 143, 3) := by decide +kernel
theorem dX8_strong_61 : decode cX8_strong 61 = .ok (.ifCond .eq 6, 3) := by decide +kernel
theorem dX8_strong_64 : decode cX8_strong 64 = .ok (.iload 5, 2) := by decide +kernel
theorem dX8_strong_66 : decode cX8_strong 66 = .ok (.ireturn, 1) := by decide +kernel
theorem dX8_strong_67 : decode cX8_strong 67 = .ok (.iinc 5 1, 3) := by decide +kernel
theorem dX8_strong_70 : decode cX8_strong 70 = .ok (.goto (-67), 3) := by decide +kernel
theorem dX8_strong_73 : decode cX8_strong 73 = .ok (.iconst (-1), 1) := by decide +kernel
theorem dX8_strong_74 : decode cX8_strong 74 = .ok (.ireturn, 1) := by decide +kernel
theorem dX8_leastTo_0 : decode cX8_leastTo 0 = .ok (.iconst 0, 1) := by decide +kernel
theorem dX8_leastTo_1 : decode cX8_leastTo 1 = .ok (.istore 6, 2) := by decide +kernel
theorem dX8_leastTo_3 : decode cX8_leastTo 3 = .ok (.iload 6, 2) := by decide +kernel
theorem dX8_leastTo_5 : decode cX8_leastTo 5 = .ok (.aload_n 0, 1) := by decide +kernel
theorem dX8_leastTo_6 : decode cX8_leastTo 6 = .ok (.getfield 89, 3) := by decide +kernel
theorem dX8_leastTo_9 : decode cX8_leastTo 9 = .ok (.if_icmp .ge 64, 3) := by decide +kernel
theorem dX8_leastTo_12 : decode cX8_leastTo 12 = .ok (.aload_n 0, 1) := by decide +kernel
theorem dX8_leastTo_13 : decode cX8_leastTo 13 = .ok (.getfield 25, 3) := by decide +kernel
theorem dX8_leastTo_16 : decode cX8_leastTo 16 = .ok (.iload 6, 2) := by decide +kernel
theorem dX8_leastTo_18 : decode cX8_leastTo 18 = .ok (.iaload, 1) := by decide +kernel
theorem dX8_leastTo_19 : decode cX8_leastTo 19 = .ok (.iload_n 1, 1) := by decide +kernel
theorem dX8_leastTo_20 : decode cX8_leastTo 20 = .ok (.if_icmp .ne 47, 3) := by decide +kernel
theorem dX8_leastTo_23 : decode cX8_leastTo 23 = .ok (.aload_n 0, 1) := by decide +kernel
theorem dX8_leastTo_24 : decode cX8_leastTo 24 = .ok (.getfield 40, 3) := by decide +kernel
theorem dX8_leastTo_27 : decode cX8_leastTo 27 = .ok (.iload 6, 2) := by decide +kernel
theorem dX8_leastTo_29 : decode cX8_leastTo 29 = .ok (.iaload, 1) := by decide +kernel
theorem dX8_leastTo_30 : decode cX8_leastTo 30 = .ok (.iload_n 2, 1) := by decide +kernel
theorem dX8_leastTo_31 : decode cX8_leastTo 31 = .ok (.if_icmp .ne 36, 3) := by decide +kernel
theorem dX8_leastTo_34 : decode cX8_leastTo 34 = .ok (.iload_n 1, 1) := by decide +kernel
theorem dX8_leastTo_35 : decode cX8_leastTo 35 = .ok (.iconst 4, 1) := by decide +kernel
theorem dX8_leastTo_36 : decode cX8_leastTo 36 = .ok (.if_icmp .ne 14, 3) := by decide +kernel
theorem dX8_leastTo_39 : decode cX8_leastTo 39 = .ok (.aload_n 0, 1) := by decide +kernel
theorem dX8_leastTo_40 : decode cX8_leastTo 40 = .ok (.getfield 52, 3) := by decide +kernel
theorem dX8_leastTo_43 : decode cX8_leastTo 43 = .ok (.iload 6, 2) := by decide +kernel
theorem dX8_leastTo_45 : decode cX8_leastTo 45 = .ok (.iaload, 1) := by decide +kernel
theorem dX8_leastTo_46 : decode cX8_leastTo 46 = .ok (.iconst 1, 1) := by decide +kernel
theorem dX8_leastTo_47 : decode cX8_leastTo 47 = .ok (.if_icmp .ne 20, 3) := by decide +kernel
theorem dX8_leastTo_50 : decode cX8_leastTo 50 = .ok (.aload_n 0, 1) := by decide +kernel
theorem dX8_leastTo_51 : decode cX8_leastTo 51 = .ok (.iload_n 3, 1) := by decide +kernel
theorem dX8_leastTo_52 : decode cX8_leastTo 52 = .ok (.iload 6, 2) := by decide +kernel
theorem dX8_leastTo_54 : decode cX8_leastTo 54 = .ok (.iload 4, 2) := by decide +kernel
theorem dX8_leastTo_56 : decode cX8_leastTo 56 = .ok (.iload 5, 2) := by decide +kernel
theorem dX8_leastTo_58 : decode cX8_leastTo 58 = .ok (.invokevirtual 143, 3) := by decide +kernel
theorem dX8_leastTo_61 : decode cX8_leastTo 61 = .ok (.ifCond .eq 6, 3) := by decide +kernel
theorem dX8_leastTo_64 : decode cX8_leastTo 64 = .ok (.iload 6, 2) := by decide +kernel
theorem dX8_leastTo_66 : decode cX8_leastTo 66 = .ok (.ireturn, 1) := by decide +kernel
theorem dX8_leastTo_67 : decode cX8_leastTo 67 = .ok (.iinc 6 1, 3) := by decide +kernel
theorem dX8_leastTo_70 : decode cX8_leastTo 70 = .ok (.goto (-67), 3) := by decide +kernel
theorem dX8_leastTo_73 : decode cX8_leastTo 73 = .ok (.iconst (-1), 1) := by decide +kernel
theorem dX8_leastTo_74 : decode cX8_leastTo 74 = .ok (.ireturn, 1) := by decide +kernel
theorem dX8_because_0 : decode cX8_because 0 = .ok (.iload_n 1, 1) := by decide +kernel
theorem dX8_because_1 : decode cX8_because 1 = .ok (.iconst (-1), 1) := by decide +kernel
theorem dX8_because_2 : decode cX8_because 2 = .ok (.if_icmp .eq 10, 3) := by decide +kernel
theorem dX8_because_5 : decode cX8_because 5 = .ok (.aload_n 0, 1) := by decide +kernel
theorem dX8_because_6 : decode cX8_because 6 = .ok (.getfield 59, 3) := by decide +kernel
theorem dX8_because_9 : decode cX8_because 9 = .ok (.iload_n 1, 1) := by decide +kernel
theorem dX8_because_10 : decode cX8_because 10 = .ok (.iconst 1, 1) := by decide +kernel
theorem dX8_because_11 : decode cX8_because 11 = .ok (.bastore, 1) := by decide +kernel
theorem dX8_because_12 : decode cX8_because 12 = .ok (.return_, 1) := by decide +kernel
theorem dX8_leans_0 : decode cX8_leans 0 = .ok (.aload_n 0, 1) := by decide +kernel
theorem dX8_leans_1 : decode cX8_leans 1 = .ok (.getfield 89, 3) := by decide +kernel
theorem dX8_leans_4 : decode cX8_leans 4 = .ok (.iconst 1, 1) := by decide +kernel
theorem dX8_leans_5 : decode cX8_leans 5 = .ok (.isub, 1) := by decide +kernel
theorem dX8_leans_6 : decode cX8_leans 6 = .ok (.istore_n 1, 1) := by decide +kernel
theorem dX8_leans_7 : decode cX8_leans 7 = .ok (.iload_n 1, 1) := by decide +kernel
theorem dX8_leans_8 : decode cX8_leans 8 = .ok (.ifCond .lt 49, 3) := by decide +kernel
theorem dX8_leans_11 : decode cX8_leans 11 = .ok (.aload_n 0, 1) := by decide +kernel
theorem dX8_leans_12 : decode cX8_leans 12 = .ok (.getfield 59, 3) := by decide +kernel
theorem dX8_leans_15 : decode cX8_leans 15 = .ok (.iload_n 1, 1) := by decide +kernel
theorem dX8_leans_16 : decode cX8_leans 16 = .ok (.baload, 1) := by decide +kernel
theorem dX8_leans_17 : decode cX8_leans 17 = .ok (.ifCond .eq 34, 3) := by decide +kernel
theorem dX8_leans_20 : decode cX8_leans 20 = .ok (.aload_n 0, 1) := by decide +kernel
theorem dX8_leans_21 : decode cX8_leans 21 = .ok (.aload_n 0, 1) := by decide +kernel
theorem dX8_leans_22 : decode cX8_leans 22 = .ok (.getfield 43, 3) := by decide +kernel
theorem dX8_leans_25 : decode cX8_leans 25 = .ok (.iload_n 1, 1) := by decide +kernel
theorem dX8_leans_26 : decode cX8_leans 26 = .ok (.iaload, 1) := by decide +kernel
theorem dX8_leans_27 : decode cX8_leans 27 = .ok (.invokevirtual 146, 3) := by decide +kernel
theorem dX8_leans_30 : decode cX8_leans 30 = .ok (.aload_n 0, 1) := by decide +kernel
theorem dX8_leans_31 : decode cX8_leans 31 = .ok (.getfield 25, 3) := by decide +kernel
theorem dX8_leans_34 : decode cX8_leans 34 = .ok (.iload_n 1, 1) := by decide +kernel
theorem dX8_leans_35 : decode cX8_leans 35 = .ok (.iaload, 1) := by decide +kernel
theorem dX8_leans_36 : decode cX8_leans 36 = .ok (.bipush 8, 2) := by decide +kernel
theorem dX8_leans_38 : decode cX8_leans 38 = .ok (.if_icmp .ne 13, 3) := by decide +kernel
theorem dX8_leans_41 : decode cX8_leans 41 = .ok (.aload_n 0, 1) := by decide +kernel
theorem dX8_leans_42 : decode cX8_leans 42 = .ok (.aload_n 0, 1) := by decide +kernel
theorem dX8_leans_43 : decode cX8_leans 43 = .ok (.getfield 40, 3) := by decide +kernel
theorem dX8_leans_46 : decode cX8_leans 46 = .ok (.iload_n 1, 1) := by decide +kernel
theorem dX8_leans_47 : decode cX8_leans 47 = .ok (.iaload, 1) := by decide +kernel
theorem dX8_leans_48 : decode cX8_leans 48 = .ok (.invokevirtual 146, 3) := by decide +kernel
theorem dX8_leans_51 : decode cX8_leans 51 = .ok (.iinc 1 (-1), 3) := by decide +kernel
theorem dX8_leans_54 : decode cX8_leans 54 = .ok (.goto (-47), 3) := by decide +kernel
theorem dX8_leans_57 : decode cX8_leans 57 = .ok (.return_, 1) := by decide +kernel
theorem dX8_finds_0 : decode cX8_finds 0 = .ok (.aload_n 0, 1) := by decide +kernel
theorem dX8_finds_1 : decode cX8_finds 1 = .ok (.iconst 0, 1) := by decide +kernel
theorem dX8_finds_2 : decode cX8_finds 2 = .ok (.putfield 150, 3) := by decide +kernel
theorem dX8_finds_5 : decode cX8_finds 5 = .ok (.aload_n 0, 1) := by decide +kernel
theorem dX8_finds_6 : decode cX8_finds 6 = .ok (.iconst 0, 1) := by decide +kernel
theorem dX8_finds_7 : decode cX8_finds 7 = .ok (.putfield 153, 3) := by decide +kernel
theorem dX8_finds_10 : decode cX8_finds 10 = .ok (.iconst 0, 1) := by decide +kernel
theorem dX8_finds_11 : decode cX8_finds 11 = .ok (.istore 7, 2) := by decide +kernel
theorem dX8_finds_13 : decode cX8_finds 13 = .ok (.iload 7, 2) := by decide +kernel
theorem dX8_finds_15 : decode cX8_finds 15 = .ok (.aload_n 0, 1) := by decide +kernel
theorem dX8_finds_16 : decode cX8_finds 16 = .ok (.getfield 89, 3) := by decide +kernel
theorem dX8_finds_19 : decode cX8_finds 19 = .ok (.if_icmp .ge 17, 3) := by decide +kernel
theorem dX8_finds_22 : decode cX8_finds 22 = .ok (.aload_n 0, 1) := by decide +kernel
theorem dX8_finds_23 : decode cX8_finds 23 = .ok (.getfield 59, 3) := by decide +kernel
theorem dX8_finds_26 : decode cX8_finds 26 = .ok (.iload 7, 2) := by decide +kernel
theorem dX8_finds_28 : decode cX8_finds 28 = .ok (.iconst 0, 1) := by decide +kernel
theorem dX8_finds_29 : decode cX8_finds 29 = .ok (.bastore, 1) := by decide +kernel
theorem dX8_finds_30 : decode cX8_finds 30 = .ok (.iinc 7 1, 3) := by decide +kernel
theorem dX8_finds_33 : decode cX8_finds 33 = .ok (.goto (-20), 3) := by decide +kernel
theorem dX8_finds_36 : decode cX8_finds 36 = .ok (.aload_n 0, 1) := by decide +kernel
theorem dX8_finds_37 : decode cX8_finds 37 = .ok (.iload_n 1, 1) := by decide +kernel
theorem dX8_finds_38 : decode cX8_finds 38 = .ok (.iload_n 3, 1) := by decide +kernel
theorem dX8_finds_39 : decode cX8_finds 39 = .ok (.iload 5, 2) := by decide +kernel
theorem dX8_finds_41 : decode cX8_finds 41 = .ok (.iload 6, 2) := by decide +kernel
theorem dX8_finds_43 : decode cX8_finds 43 = .ok (.invokevirtual 108, 3) := by decide +kernel
theorem dX8_finds_46 : decode cX8_finds 46 = .ok (.istore 7, 2) := by decide +kernel
theorem dX8_finds_48 : decode cX8_finds 48 = .ok (.aload_n 0, 1) := by decide +kernel
theorem dX8_finds_49 : decode cX8_finds 49 = .ok (.iload_n 2, 1) := by decide +kernel
theorem dX8_finds_50 : decode cX8_finds 50 = .ok (.iload_n 3, 1) := by decide +kernel
theorem dX8_finds_51 : decode cX8_finds 51 = .ok (.iload 5, 2) := by decide +kernel
theorem dX8_finds_53 : decode cX8_finds 53 = .ok (.iload 6, 2) := by decide +kernel
theorem dX8_finds_55 : decode cX8_finds 55 = .ok (.invokevirtual 108, 3) := by decide +kernel
theorem dX8_finds_58 : decode cX8_finds 58 = .ok (.istore 8, 2) := by decide +kernel
theorem dX8_finds_60 : decode cX8_finds 60 = .ok (.iload 7, 2) := by decide +kernel
theorem dX8_finds_62 : decode cX8_finds 62 = .ok (.iconst (-1), 1) := by decide +kernel
theorem dX8_finds_63 : decode cX8_finds 63 = .ok (.if_icmp .eq 27, 3) := by decide +kernel
theorem dX8_finds_66 : decode cX8_finds 66 = .ok (.iload 8, 2) := by decide +kernel
theorem dX8_finds_68 : decode cX8_finds 68 = .ok (.iconst (-1), 1) := by decide +kernel
theorem dX8_finds_69 : decode cX8_finds 69 = .ok (.if_icmp .eq 21, 3) := by decide +kernel
theorem dX8_finds_72 : decode cX8_finds 72 = .ok (.aload_n 0, 1) := by decide +kernel
theorem dX8_finds_73 : decode cX8_finds 73 = .ok (.iload_n 3, 1) := by decide +kernel
theorem dX8_finds_74 : decode cX8_finds 74 = .ok (.iload 5, 2) := by decide +kernel
theorem dX8_finds_76 : decode cX8_finds 76 = .ok (.iload 6, 2) := by decide +kernel
theorem dX8_finds_78 : decode cX8_finds 78 = .ok (.invokevirtual 156, 3) := by decide +kernel
theorem dX8_finds_81 : decode cX8_finds 81 = .ok (.aload_n 0, 1) := by decide +kernel
theorem dX8_finds_82 : decode cX8_finds 82 = .ok (.getfield 13, 3) := by decide +kernel
theorem dX8_finds_85 : decode cX8_finds 85 = .ok (.iload_n 3, 1) := by decide +kernel
theorem dX8_finds_86 : decode cX8_finds 86 = .ok (.iaload, 1) := by decide +kernel
theorem dX8_finds_87 : decode cX8_finds 87 = .ok (.if_icmp .ge 4, 3) := by decide +kernel
theorem dX8_finds_90 : decode cX8_finds 90 = .ok (.return_, 1) := by decide +kernel
theorem dX8_finds_91 : decode cX8_finds 91 = .ok (.aload_n 0, 1) := by decide +kernel
theorem dX8_finds_92 : decode cX8_finds 92 = .ok (.iload 7, 2) := by decide +kernel
theorem dX8_finds_94 : decode cX8_finds 94 = .ok (.invokevirtual 146, 3) := by decide +kernel
theorem dX8_finds_97 : decode cX8_finds 97 = .ok (.aload_n 0, 1) := by decide +kernel
theorem dX8_finds_98 : decode cX8_finds 98 = .ok (.iload 8, 2) := by decide +kernel
theorem dX8_finds_100 : decode cX8_finds 100 = .ok (.invokevirtual 146, 3) := by decide +kernel
theorem dX8_finds_103 : decode cX8_finds 103 = .ok (.aload_n 0, 1) := by decide +kernel
theorem dX8_finds_104 : decode cX8_finds 104 = .ok (.iload 7, 2) := by decide +kernel
theorem dX8_finds_106 : decode cX8_finds 106 = .ok (.iload 8, 2) := by decide +kernel
theorem dX8_finds_108 : decode cX8_finds 108 = .ok (.iload 5, 2) := by decide +kernel
theorem dX8_finds_110 : decode cX8_finds 110 = .ok (.iload 6, 2) := by decide +kernel
theorem dX8_finds_112 : decode cX8_finds 112 = .ok (.invokevirtual 160, 3) := by decide +kernel
theorem dX8_finds_115 : decode cX8_finds 115 = .ok (.istore 9, 2) := by decide +kernel
theorem dX8_finds_117 : decode cX8_finds 117 = .ok (.aload_n 0, 1) := by decide +kernel
theorem dX8_finds_118 : decode cX8_finds 118 = .ok (.iload 8, 2) := by decide +kernel
theorem dX8_finds_120 : decode cX8_finds 120 = .ok (.iload 7, 2) := by decide +kernel
theorem dX8_finds_122 : decode cX8_finds 122 = .ok (.iload 5, 2) := by decide +kernel
theorem dX8_finds_124 : decode cX8_finds 124 = .ok (.iload 6, 2) := by decide +kernel
theorem dX8_finds_126 : decode cX8_finds 126 = .ok (.invokevirtual 160, 3) := by decide +kernel
theorem dX8_finds_129 : decode cX8_finds 129 = .ok (.istore 10, 2) := by decide +kernel
theorem dX8_finds_131 : decode cX8_finds 131 = .ok (.iload 9, 2) := by decide +kernel
theorem dX8_finds_133 : decode cX8_finds 133 = .ok (.iconst (-1), 1) := by decide +kernel
theorem dX8_finds_134 : decode cX8_finds 134 = .ok (.if_icmp .ne 8, 3) := by decide +kernel
theorem dX8_finds_137 : decode cX8_finds 137 = .ok (.iload 10, 2) := by decide +kernel
theorem dX8_finds_139 : decode cX8_finds 139 = .ok (.goto 21, 3) := by decide +kernel
theorem dX8_finds_142 : decode cX8_finds 142 = .ok (.iload 10, 2) := by decide +kernel
theorem dX8_finds_144 : decode cX8_finds 144 = .ok (.iconst (-1), 1) := by decide +kernel
theorem dX8_finds_145 : decode cX8_finds 145 = .ok (.if_icmp .ne 8, 3) := by decide +kernel
theorem dX8_finds_148 : decode cX8_finds 148 = .ok (.iload 9, 2) := by decide +kernel
theorem dX8_finds_150 : decode cX8_finds 150 = .ok (.goto 10, 3) := by decide +kernel
theorem dX8_finds_153 : decode cX8_finds 153 = .ok (.iload 9, 2) := by decide +kernel
theorem dX8_finds_155 : decode cX8_finds 155 = .ok (.iload 10, 2) := by decide +kernel
theorem dX8_finds_157 : decode cX8_finds 157 = .ok (.invokestatic 163, 3) := by decide +kernel
theorem dX8_finds_160 : decode cX8_finds 160 = .ok (.istore 11, 2) := by decide +kernel
theorem dX8_finds_162 : decode cX8_finds 162 = .ok (.iload 11, 2) := by decide +kernel
theorem dX8_finds_164 : decode cX8_finds 164 = .ok (.iconst (-1), 1) := by decide +kernel
theorem dX8_finds_165 : decode cX8_finds 165 = .ok (.if_icmp .eq 25, 3) := by decide +kernel
theorem dX8_finds_168 : decode cX8_finds 168 = .ok (.aload_n 0, 1) := by decide +kernel
theorem dX8_finds_169 : decode cX8_finds 169 = .ok (.iload 11, 2) := by decide +kernel
theorem dX8_finds_171 : decode cX8_finds 171 = .ok (.invokevirtual 146, 3) := by decide +kernel
theorem dX8_finds_174 : decode cX8_finds 174 = .ok (.aload_n 0, 1) := by decide +kernel
theorem dX8_finds_175 : decode cX8_finds 175 = .ok (.aload_n 0, 1) := by decide +kernel
theorem dX8_finds_176 : decode cX8_finds 176 = .ok (.getfield 40, 3) := by decide +kernel
theorem dX8_finds_179 : decode cX8_finds 179 = .ok (.iload 11, 2) := by decide +kernel
theorem dX8_finds_181 : decode cX8_finds 181 = .ok (.iaload, 1) := by decide +kernel
theorem dX8_finds_182 : decode cX8_finds 182 = .ok (.invokevirtual 146, 3) := by decide +kernel
theorem dX8_finds_185 : decode cX8_finds 185 = .ok (.aload_n 0, 1) := by decide +kernel
theorem dX8_finds_186 : decode cX8_finds 186 = .ok (.invokevirtual 168, 3) := by decide +kernel
theorem dX8_finds_189 : decode cX8_finds 189 = .ok (.return_, 1) := by decide +kernel
theorem dX8_finds_190 : decode cX8_finds 190 = .ok (.aload_n 0, 1) := by decide +kernel
theorem dX8_finds_191 : decode cX8_finds 191 = .ok (.getfield 13, 3) := by decide +kernel
theorem dX8_finds_194 : decode cX8_finds 194 = .ok (.iload_n 3, 1) := by decide +kernel
theorem dX8_finds_195 : decode cX8_finds 195 = .ok (.iaload, 1) := by decide +kernel
theorem dX8_finds_196 : decode cX8_finds 196 = .ok (.istore 12, 2) := by decide +kernel
theorem dX8_finds_198 : decode cX8_finds 198 = .ok (.iconst 0, 1) := by decide +kernel
theorem dX8_finds_199 : decode cX8_finds 199 = .ok (.istore 13, 2) := by decide +kernel
theorem dX8_finds_201 : decode cX8_finds 201 = .ok (.iload 13, 2) := by decide +kernel
theorem dX8_finds_203 : decode cX8_finds 203 = .ok (.aload_n 0, 1) := by decide +kernel
theorem dX8_finds_204 : decode cX8_finds 204 = .ok (.getfield 78, 3) := by decide +kernel
theorem dX8_finds_207 : decode cX8_finds 207 = .ok (.if_icmp .ge 42, 3) := by decide +kernel
theorem dX8_finds_210 : decode cX8_finds 210 = .ok (.iload 12, 2) := by decide +kernel
theorem dX8_finds_212 : decode cX8_finds 212 = .ok (.ifCond .le 37, 3) := by decide +kernel
theorem dX8_finds_215 : decode cX8_finds 215 = .ok (.aload_n 0, 1) := by decide +kernel
theorem dX8_finds_216 : decode cX8_finds 216 = .ok (.iload 13, 2) := by decide +kernel
theorem dX8_finds_218 : decode cX8_finds 218 = .ok (.iload_n 3, 1) := by decide +kernel
theorem dX8_finds_219 : decode cX8_finds 219 = .ok (.iload 5, 2) := by decide +kernel
theorem dX8_finds_221 : decode cX8_finds 221 = .ok (.iload 6, 2) := by decide +kernel
theorem dX8_finds_223 : decode cX8_finds 223 = .ok (.invokevirtual 108, 3) := by decide +kernel
theorem dX8_finds_226 : decode cX8_finds 226 = .ok (.istore 14, 2) := by decide +kernel
theorem dX8_finds_228 : decode cX8_finds 228 = .ok (.iload 14, 2) := by decide +kernel
theorem dX8_finds_230 : decode cX8_finds 230 = .ok (.iconst (-1), 1) := by decide +kernel
theorem dX8_finds_231 : decode cX8_finds 231 = .ok (.if_icmp .eq 12, 3) := by decide +kernel
theorem dX8_finds_234 : decode cX8_finds 234 = .ok (.aload_n 0, 1) := by decide +kernel
theorem dX8_finds_235 : decode cX8_finds 235 = .ok (.iload 14, 2) := by decide +kernel
theorem dX8_finds_237 : decode cX8_finds 237 = .ok (.invokevirtual 146, 3) := by decide +kernel
theorem dX8_finds_240 : decode cX8_finds 240 = .ok (.iinc 12 (-1), 3) := by decide +kernel
theorem dX8_finds_243 : decode cX8_finds 243 = .ok (.iinc 13 1, 3) := by decide +kernel
theorem dX8_finds_246 : decode cX8_finds 246 = .ok (.goto (-45), 3) := by decide +kernel
theorem dX8_finds_249 : decode cX8_finds 249 = .ok (.iconst (-1), 1) := by decide +kernel
theorem dX8_finds_250 : decode cX8_finds 250 = .ok (.istore 13, 2) := by decide +kernel
theorem dX8_finds_252 : decode cX8_finds 252 = .ok (.iconst 0, 1) := by decide +kernel
theorem dX8_finds_253 : decode cX8_finds 253 = .ok (.istore 14, 2) := by decide +kernel
theorem dX8_finds_255 : decode cX8_finds 255 = .ok (.iload 14, 2) := by decide +kernel
theorem dX8_finds_257 : decode cX8_finds 257 = .ok (.aload_n 0, 1) := by decide +kernel
theorem dX8_finds_258 : decode cX8_finds 258 = .ok (.getfield 89, 3) := by decide +kernel
theorem dX8_finds_261 : decode cX8_finds 261 = .ok (.if_icmp .ge 66, 3) := by decide +kernel
theorem dX8_finds_264 : decode cX8_finds 264 = .ok (.aload_n 0, 1) := by decide +kernel
theorem dX8_finds_265 : decode cX8_finds 265 = .ok (.getfield 25, 3) := by decide +kernel
theorem dX8_finds_268 : decode cX8_finds 268 = .ok (.iload 14, 2) := by decide +kernel
theorem dX8_finds_270 : decode cX8_finds 270 = .ok (.iaload, 1) := by decide +kernel
theorem dX8_finds_271 : decode cX8_finds 271 = .ok (.iconst 3, 1) := by decide +kernel
theorem dX8_finds_272 : decode cX8_finds 272 = .ok (.if_icmp .ne 49, 3) := by decide +kernel
theorem dX8_finds_275 : decode cX8_finds 275 = .ok (.aload_n 0, 1) := by decide +kernel
theorem dX8_finds_276 : decode cX8_finds 276 = .ok (.getfield 46, 3) := by decide +kernel
theorem dX8_finds_279 : decode cX8_finds 279 = .ok (.iload 14, 2) := by decide +kernel
theorem dX8_finds_281 : decode cX8_finds 281 = .ok (.iaload, 1) := by decide +kernel
theorem dX8_finds_282 : decode cX8_finds 282 = .ok (.iload 4, 2) := by decide +kernel
theorem dX8_finds_284 : decode cX8_finds 284 = .ok (.if_icmp .ne 37, 3) := by decide +kernel
theorem dX8_finds_287 : decode cX8_finds 287 = .ok (.aload_n 0, 1) := by decide +kernel
theorem dX8_finds_288 : decode cX8_finds 288 = .ok (.iload 7, 2) := by decide +kernel
theorem dX8_finds_290 : decode cX8_finds 290 = .ok (.iload 14, 2) := by decide +kernel
theorem dX8_finds_292 : decode cX8_finds 292 = .ok (.iload 5, 2) := by decide +kernel
theorem dX8_finds_294 : decode cX8_finds 294 = .ok (.iload 6, 2) := by decide +kernel
theorem dX8_finds_296 : decode cX8_finds 296 = .ok (.invokevirtual 143, 3) := by decide +kernel
theorem dX8_finds_299 : decode cX8_finds 299 = .ok (.ifCond .ne 18, 3) := by decide +kernel
theorem dX8_finds_302 : decode cX8_finds 302 = .ok (.aload_n 0, 1) := by decide +kernel
theorem dX8_finds_303 : decode cX8_finds 303 = .ok (.iload 8, 2) := by decide +kernel
theorem dX8_finds_305 : decode cX8_finds 305 = .ok (.iload 14, 2) := by decide +kernel
theorem dX8_finds_307 : decode cX8_finds 307 = .ok (.iload 5, 2) := by decide +kernel
theorem dX8_finds_309 : decode cX8_finds 309 = .ok (.iload 6, 2) := by decide +kernel
theorem dX8_finds_311 : decode cX8_finds 311 = .ok (.invokevirtual 143, 3) := by decide +kernel
theorem dX8_finds_314 : decode cX8_finds 314 = .ok (.ifCond .eq 7, 3) := by decide +kernel
theorem dX8_finds_317 : decode cX8_finds 317 = .ok (.iload 14, 2) := by decide +kernel
theorem dX8_finds_319 : decode cX8_finds 319 = .ok (.istore 13, 2) := by decide +kernel
theorem dX8_finds_321 : decode cX8_finds 321 = .ok (.iinc 14 1, 3) := by decide +kernel
theorem dX8_finds_324 : decode cX8_finds 324 = .ok (.goto (-69), 3) := by decide +kernel
theorem dX8_finds_327 : decode cX8_finds 327 = .ok (.iload 13, 2) := by decide +kernel
theorem dX8_finds_329 : decode cX8_finds 329 = .ok (.iconst (-1), 1) := by decide +kernel
theorem dX8_finds_330 : decode cX8_finds 330 = .ok (.if_icmp .eq 157, 3) := by decide +kernel
theorem dX8_finds_333 : decode cX8_finds 333 = .ok (.aload_n 0, 1) := by decide +kernel
theorem dX8_finds_334 : decode cX8_finds 334 = .ok (.iload 13, 2) := by decide +kernel
theorem dX8_finds_336 : decode cX8_finds 336 = .ok (.invokevirtual 146, 3) := by decide +kernel
theorem dX8_finds_339 : decode cX8_finds 339 = .ok (.aload_n 0, 1) := by decide +kernel
theorem dX8_finds_340 : decode cX8_finds 340 = .ok (.iload 7, 2) := by decide +kernel
theorem dX8_finds_342 : decode cX8_finds 342 = .ok (.iload 13, 2) := by decide +kernel
theorem dX8_finds_344 : decode cX8_finds 344 = .ok (.iload 5, 2) := by decide +kernel
theorem dX8_finds_346 : decode cX8_finds 346 = .ok (.iload 6, 2) := by decide +kernel
theorem dX8_finds_348 : decode cX8_finds 348 = .ok (.invokevirtual 143, 3) := by decide +kernel
theorem dX8_finds_351 : decode cX8_finds 351 = .ok (.ifCond .eq 22, 3) := by decide +kernel
theorem dX8_finds_354 : decode cX8_finds 354 = .ok (.aload_n 0, 1) := by decide +kernel
theorem dX8_finds_355 : decode cX8_finds 355 = .ok (.iload 8, 2) := by decide +kernel
theorem dX8_finds_357 : decode cX8_finds 357 = .ok (.iload 13, 2) := by decide +kernel
theorem dX8_finds_359 : decode cX8_finds 359 = .ok (.iload 5, 2) := by decide +kernel
theorem dX8_finds_361 : decode cX8_finds 361 = .ok (.iload 6, 2) := by decide +kernel
theorem dX8_finds_363 : decode cX8_finds 363 = .ok (.invokevirtual 143, 3) := by decide +kernel
theorem dX8_finds_366 : decode cX8_finds 366 = .ok (.ifCond .eq 7, 3) := by decide +kernel
theorem dX8_finds_369 : decode cX8_finds 369 = .ok (.iconst 1, 1) := by decide +kernel
theorem dX8_finds_370 : decode cX8_finds 370 = .ok (.goto 4, 3) := by decide +kernel
theorem dX8_finds_373 : decode cX8_finds 373 = .ok (.iconst 0, 1) := by decide +kernel
theorem dX8_finds_374 : decode cX8_finds 374 = .ok (.istore 14, 2) := by decide +kernel
theorem dX8_finds_376 : decode cX8_finds 376 = .ok (.iload 14, 2) := by decide +kernel
theorem dX8_finds_378 : decode cX8_finds 378 = .ok (.ifCond .eq 7, 3) := by decide +kernel
theorem dX8_finds_381 : decode cX8_finds 381 = .ok (.iconst (-1), 1) := by decide +kernel
theorem dX8_finds_382 : decode cX8_finds 382 = .ok (.goto 36, 3) := by decide +kernel
theorem dX8_finds_385 : decode cX8_finds 385 = .ok (.aload_n 0, 1) := by decide +kernel
theorem dX8_finds_386 : decode cX8_finds 386 = .ok (.iconst 4, 1) := by decide +kernel
theorem dX8_finds_387 : decode cX8_finds 387 = .ok (.iload 13, 2) := by decide +kernel
theorem dX8_finds_389 : decode cX8_finds 389 = .ok (.aload_n 0, 1) := by decide +kernel
theorem dX8_finds_390 : decode cX8_finds 390 = .ok (.iload 7, 2) := by decide +kernel
theorem dX8_finds_392 : decode cX8_finds 392 = .ok (.iload 13, 2) := by decide +kernel
theorem dX8_finds_394 : decode cX8_finds 394 = .ok (.iload 5, 2) := by decide +kernel
theorem dX8_finds_396 : decode cX8_finds 396 = .ok (.iload 6, 2) := by decide +kernel
theorem dX8_finds_398 : decode cX8_finds 398 = .ok (.invokevirtual 143, 3) := by decide +kernel
theorem dX8_finds_401 : decode cX8_finds 401 = .ok (.ifCond .eq 8, 3) := by decide +kernel
theorem dX8_finds_404 : decode cX8_finds 404 = .ok (.iload 8, 2) := by decide +kernel
theorem dX8_finds_406 : decode cX8_finds 406 = .ok (.goto 5, 3) := by decide +kernel
theorem dX8_finds_409 : decode cX8_finds 409 = .ok (.iload 7, 2) := by decide +kernel
theorem dX8_finds_411 : decode cX8_finds 411 = .ok (.iload 5, 2) := by decide +kernel
theorem dX8_finds_413 : decode cX8_finds 413 = .ok (.iload 6, 2) := by decide +kernel
theorem dX8_finds_415 : decode cX8_finds 415 = .ok (.invokevirtual 171, 3) := by decide +kernel
theorem dX8_finds_418 : decode cX8_finds 418 = .ok (.istore 15, 2) := by decide +kernel
theorem dX8_finds_420 : decode cX8_finds 420 = .ok (.aload_n 0, 1) := by decide +kernel
theorem dX8_finds_421 : decode cX8_finds 421 = .ok (.aload_n 0, 1) := by decide +kernel
theorem dX8_finds_422 : decode cX8_finds 422 = .ok (.getfield 49, 3) := by decide +kernel
theorem dX8_finds_425 : decode cX8_finds 425 = .ok (.iload 13, 2) := by decide +kernel
theorem dX8_finds_427 : decode cX8_finds 427 = .ok (.iaload, 1) := by decide +kernel
theorem dX8_finds_428 : decode cX8_finds 428 = .ok (.ifCond .eq 9, 3) := by decide +kernel
theorem dX8_finds_431 : decode cX8_finds 431 = .ok (.iload 15, 2) := by decide +kernel
theorem dX8_finds_433 : decode cX8_finds 433 = .ok (.iconst (-1), 1) := by decide +kernel
theorem dX8_finds_434 : decode cX8_finds 434 = .ok (.if_icmp .eq 7, 3) := by decide +kernel
theorem dX8_finds_437 : decode cX8_finds 437 = .ok (.iconst 3, 1) := by decide +kernel
theorem dX8_finds_438 : decode cX8_finds 438 = .ok (.goto 4, 3) := by decide +kernel
theorem dX8_finds_441 : decode cX8_finds 441 = .ok (.iconst 2, 1) := by decide +kernel
theorem dX8_finds_442 : decode cX8_finds 442 = .ok (.putfield 150, 3) := by decide +kernel
theorem dX8_finds_445 : decode cX8_finds 445 = .ok (.aload_n 0, 1) := by decide +kernel
theorem dX8_finds_446 : decode cX8_finds 446 = .ok (.aload_n 0, 1) := by decide +kernel
theorem dX8_finds_447 : decode cX8_finds 447 = .ok (.getfield 150, 3) := by decide +kernel
theorem dX8_finds_450 : decode cX8_finds 450 = .ok (.iconst 3, 1) := by decide +kernel
theorem dX8_finds_451 : decode cX8_finds 451 = .ok (.if_icmp .ne 7, 3) := by decide +kernel
theorem dX8_finds_454 : decode cX8_finds 454 = .ok (.iconst 0, 1) := by decide +kernel
theorem dX8_finds_455 : decode cX8_finds 455 = .ok (.goto 10, 3) := by decide +kernel
theorem dX8_finds_458 : decode cX8_finds 458 = .ok (.aload_n 0, 1) := by decide +kernel
theorem dX8_finds_459 : decode cX8_finds 459 = .ok (.getfield 49, 3) := by decide +kernel
theorem dX8_finds_462 : decode cX8_finds 462 = .ok (.iload 13, 2) := by decide +kernel
theorem dX8_finds_464 : decode cX8_finds 464 = .ok (.iaload, 1) := by decide +kernel
theorem dX8_finds_465 : decode cX8_finds 465 = .ok (.putfield 153, 3) := by decide +kernel
theorem dX8_finds_468 : decode cX8_finds 468 = .ok (.aload_n 0, 1) := by decide +kernel
theorem dX8_finds_469 : decode cX8_finds 469 = .ok (.getfield 49, 3) := by decide +kernel
theorem dX8_finds_472 : decode cX8_finds 472 = .ok (.iload 13, 2) := by decide +kernel
theorem dX8_finds_474 : decode cX8_finds 474 = .ok (.iaload, 1) := by decide +kernel
theorem dX8_finds_475 : decode cX8_finds 475 = .ok (.ifCond .eq 9, 3) := by decide +kernel
theorem dX8_finds_478 : decode cX8_finds 478 = .ok (.aload_n 0, 1) := by decide +kernel
theorem dX8_finds_479 : decode cX8_finds 479 = .ok (.iload 15, 2) := by decide +kernel
theorem dX8_finds_481 : decode cX8_finds 481 = .ok (.invokevirtual 146, 3) := by decide +kernel
theorem dX8_finds_484 : decode cX8_finds 484 = .ok (.goto 18, 3) := by decide +kernel
theorem dX8_finds_487 : decode cX8_finds 487 = .ok (.aload_n 0, 1) := by decide +kernel
theorem dX8_finds_488 : decode cX8_finds 488 = .ok (.iload 7, 2) := by decide +kernel
theorem dX8_finds_490 : decode cX8_finds 490 = .ok (.iload 8, 2) := by decide +kernel
theorem dX8_finds_492 : decode cX8_finds 492 = .ok (.iload_n 3, 1) := by decide +kernel
theorem dX8_finds_493 : decode cX8_finds 493 = .ok (.iload 4, 2) := by decide +kernel
theorem dX8_finds_495 : decode cX8_finds 495 = .ok (.iload 5, 2) := by decide +kernel
theorem dX8_finds_497 : decode cX8_finds 497 = .ok (.iload 6, 2) := by decide +kernel
theorem dX8_finds_499 : decode cX8_finds 499 = .ok (.invokevirtual 175, 3) := by decide +kernel
theorem dX8_finds_502 : decode cX8_finds 502 = .ok (.aload_n 0, 1) := by decide +kernel
theorem dX8_finds_503 : decode cX8_finds 503 = .ok (.invokevirtual 168, 3) := by decide +kernel
theorem dX8_finds_506 : decode cX8_finds 506 = .ok (.return_, 1) := by decide +kernel
