theorem dX8_tonight_83 : decode cX8_tonight 83 = .ok (.ireturn, 1) := by decide +kernel
theorem dX8_tonight_84 : decode cX8_tonight 84 = .ok (.aload_n 0, 1) := by decide +kernel
theorem dX8_tonight_85 : decode cX8_tonight 85 = .ok (.getfield 25, 3) := by decide +kernel
theorem dX8_tonight_88 : decode cX8_tonight 88 = .ok (.invokevirtual 190, 3) := by decide +kernel
theorem dX8_tonight_91 : decode cX8_tonight 91 = .ok (.ireturn, 1) := by decide +kernel
theorem dX8_tonight_92 : decode cX8_tonight 92 = .ok (.aload_n 0, 1) := by decide +kernel
theorem dX8_tonight_93 : decode cX8_tonight 93 = .ok (.getfield 25, 3) := by decide +kernel
theorem dX8_tonight_96 : decode cX8_tonight 96 = .ok (.invokevirtual 193, 3) := by decide +kernel
theorem dX8_tonight_99 : decode cX8_tonight 99 = .ok (.ireturn, 1) := by decide +kernel
theorem dX8_lasts_0 : decode cX8_lasts 0 = .ok (.aload_n 0, 1) := by decide +kernel
theorem dX8_lasts_1 : decode cX8_lasts 1 = .ok (.iconst (-1), 1) := by decide +kernel
theorem dX8_lasts_2 : decode cX8_lasts 2 = .ok (.invokevirtual 196, 3) := by decide +kernel
theorem dX8_lasts_5 : decode cX8_lasts 5 = .ok (.ireturn, 1) := by decide +kernel
theorem dX8_without_0 : decode cX8_without 0 = .ok (.aload_n 0, 1) := by decide +kernel
theorem dX8_without_1 : decode cX8_without 1 = .ok (.getfield 10, 3) := by decide +kernel
theorem dX8_without_4 : decode cX8_without 4 = .ok (.iload_n 1, 1) := by decide +kernel
theorem dX8_without_5 : decode cX8_without 5 = .ok (.invokevirtual 96, 3) := by decide +kernel
theorem dX8_without_8 : decode cX8_without 8 = .ok (.ifnonnull 9, 3) := by decide +kernel
theorem dX8_without_11 : decode cX8_without 11 = .ok (.aload_n 0, 1) := by decide +kernel
theorem dX8_without_12 : decode cX8_without 12 = .ok (.iconst 1, 1) := by decide +kernel
theorem dX8_without_13 : decode cX8_without 13 = .ok (.invokevirtual 84, 3) := by decide +kernel
theorem dX8_without_16 : decode cX8_without 16 = .ok (.ireturn, 1) := by decide +kernel
theorem dX8_without_17 : decode cX8_without 17 = .ok (.aload_n 0, 1) := by decide +kernel
theorem dX8_without_18 : decode cX8_without 18 = .ok (.iconst (-1), 1) := by decide +kernel
theorem dX8_without_19 : decode cX8_without 19 = .ok (.invokevirtual 196, 3) := by decide +kernel
theorem dX8_without_22 : decode cX8_without 22 = .ok (.aload_n 0, 1) := by decide +kernel
theorem dX8_without_23 : decode cX8_without 23 = .ok (.iload_n 1, 1) := by decide +kernel
theorem dX8_without_24 : decode cX8_without 24 = .ok (.invokevirtual 196, 3) := by decide +kernel
theorem dX8_without_27 : decode cX8_without 27 = .ok (.isub, 1) := by decide +kernel
theorem dX8_without_28 : decode cX8_without 28 = .ok (.ireturn, 1) := by decide +kernel
theorem dX8_then_0 : decode cX8_then 0 = .ok (.aload_n 0, 1) := by decide +kernel
theorem dX8_then_1 : decode cX8_then 1 = .ok (.getfield 10, 3) := by decide +kernel
theorem dX8_then_4 : decode cX8_then 4 = .ok (.iload_n 1, 1) := by decide +kernel
theorem dX8_then_5 : decode cX8_then 5 = .ok (.invokevirtual 96, 3) := by decide +kernel
theorem dX8_then_8 : decode cX8_then 8 = .ok (.ifnull 13, 3) := by decide +kernel
theorem dX8_then_11 : decode cX8_then 11 = .ok (.iload_n 2, 1) := by decide +kernel
theorem dX8_then_12 : decode cX8_then 12 = .ok (.iconst 0, 1) := by decide +kernel
theorem dX8_then_13 : decode cX8_then 13 = .ok (.bipush 60, 2) := by decide +kernel
theorem dX8_then_15 : decode cX8_then 15 = .ok (.invokestatic 80, 3) := by decide +kernel
theorem dX8_then_18 : decode cX8_then 18 = .ok (.ifCond .ne 9, 3) := by decide +kernel
theorem dX8_then_21 : decode cX8_then 21 = .ok (.aload_n 0, 1) := by decide +kernel
theorem dX8_then_22 : decode cX8_then 22 = .ok (.iconst 1, 1) := by decide +kernel
theorem dX8_then_23 : decode cX8_then 23 = .ok (.invokevirtual 84, 3) := by decide +kernel
theorem dX8_then_26 : decode cX8_then 26 = .ok (.ireturn, 1) := by decide +kernel
theorem dX8_then_27 : decode cX8_then 27 = .ok (.aload_n 0, 1) := by decide +kernel
theorem dX8_then_28 : decode cX8_then 28 = .ok (.getfield 19, 3) := by decide +kernel
theorem dX8_then_31 : decode cX8_then 31 = .ok (.aload_n 0, 1) := by decide +kernel
theorem dX8_then_32 : decode cX8_then 32 = .ok (.getfield 10, 3) := by decide +kernel
theorem dX8_then_35 : decode cX8_then 35 = .ok (.invokevirtual 199, 3) := by decide +kernel
theorem dX8_then_38 : decode cX8_then 38 = .ok (.iconst 0, 1) := by decide +kernel
theorem dX8_then_39 : decode cX8_then 39 = .ok (.istore_n 3, 1) := by decide +kernel
theorem dX8_then_40 : decode cX8_then 40 = .ok (.iload_n 3, 1) := by decide +kernel
theorem dX8_then_41 : decode cX8_then 41 = .ok (.iload_n 2, 1) := by decide +kernel
theorem dX8_then_42 : decode cX8_then 42 = .ok (.if_icmp .ge 22, 3) := by decide +kernel
theorem dX8_then_45 : decode cX8_then 45 = .ok (.aload_n 0, 1) := by decide +kernel
theorem dX8_then_46 : decode cX8_then 46 = .ok (.getfield 19, 3) := by decide +kernel
theorem dX8_then_49 : decode cX8_then 49 = .ok (.aload_n 0, 1) := by decide +kernel
theorem dX8_then_50 : decode cX8_then 50 = .ok (.getfield 25, 3) := by decide +kernel
theorem dX8_then_53 : decode cX8_then 53 = .ok (.iconst (-1), 1) := by decide +kernel
theorem dX8_then_54 : decode cX8_then 54 = .ok (.invokevirtual 170, 3) := by decide +kernel
theorem dX8_then_57 : decode cX8_then 57 = .ok (.pop, 1) := by decide +kernel
theorem dX8_then_58 : decode cX8_then 58 = .ok (.iinc 3 1, 3) := by decide +kernel
theorem dX8_then_61 : decode cX8_then 61 = .ok (.goto (-21), 3) := by decide +kernel
theorem dX8_then_64 : decode cX8_then 64 = .ok (.aload_n 0, 1) := by decide +kernel
theorem dX8_then_65 : decode cX8_then 65 = .ok (.getfield 19, 3) := by decide +kernel
theorem dX8_then_68 : decode cX8_then 68 = .ok (.iload_n 1, 1) := by decide +kernel
theorem dX8_then_69 : decode cX8_then 69 = .ok (.invokevirtual 96, 3) := by decide +kernel
theorem dX8_then_72 : decode cX8_then 72 = .ok (.astore_n 3, 1) := by decide +kernel
theorem dX8_then_73 : decode cX8_then 73 = .ok (.aload_n 3, 1) := by decide +kernel
theorem dX8_then_74 : decode cX8_then 74 = .ok (.ifnonnull 7, 3) := by decide +kernel
theorem dX8_then_77 : decode cX8_then 77 = .ok (.iconst 0, 1) := by decide +kernel
theorem dX8_then_78 : decode cX8_then 78 = .ok (.goto 7, 3) := by decide +kernel
theorem dX8_then_81 : decode cX8_then 81 = .ok (.aload_n 3, 1) := by decide +kernel
theorem dX8_then_82 : decode cX8_then 82 = .ok (.getfield 111, 3) := by decide +kernel
theorem dX8_then_85 : decode cX8_then 85 = .ok (.ireturn, 1) := by decide +kernel
theorem dX8_has_0 : decode cX8_has 0 = .ok (.iload_n 1, 1) := by decide +kernel
theorem dX8_has_1 : decode cX8_has 1 = .ok (.invokestatic 130, 3) := by decide +kernel
theorem dX8_has_4 : decode cX8_has 4 = .ok (.ifCond .ne 9, 3) := by decide +kernel
theorem dX8_has_7 : decode cX8_has 7 = .ok (.aload_n 0, 1) := by decide +kernel
theorem dX8_has_8 : decode cX8_has 8 = .ok (.iconst 1, 1) := by decide +kernel
theorem dX8_has_9 : decode cX8_has 9 = .ok (.invokevirtual 84, 3) := by decide +kernel
theorem dX8_has_12 : decode cX8_has 12 = .ok (.ireturn, 1) := by decide +kernel
theorem dX8_has_13 : decode cX8_has 13 = .ok (.iconst 0, 1) := by decide +kernel
theorem dX8_has_14 : decode cX8_has 14 = .ok (.istore_n 2, 1) := by decide +kernel
theorem dX8_has_15 : decode cX8_has 15 = .ok (.iconst 0, 1) := by decide +kernel
theorem dX8_has_16 : decode cX8_has 16 = .ok (.istore_n 3, 1) := by decide +kernel
theorem dX8_has_17 : decode cX8_has 17 = .ok (.iload_n 3, 1) := by decide +kernel
theorem dX8_has_18 : decode cX8_has 18 = .ok (.aload_n 0, 1) := by decide +kernel
theorem dX8_has_19 : decode cX8_has 19 = .ok (.getfield 10, 3) := by decide +kernel
theorem dX8_has_22 : decode cX8_has 22 = .ok (.getfield 202, 3) := by decide +kernel
theorem dX8_has_25 : decode cX8_has 25 = .ok (.if_icmp .ge 76, 3) := by decide +kernel
theorem dX8_has_28 : decode cX8_has 28 = .ok (.aload_n 0, 1) := by decide +kernel
theorem dX8_has_29 : decode cX8_has 29 = .ok (.getfield 10, 3) := by decide +kernel
theorem dX8_has_32 : decode cX8_has 32 = .ok (.iload_n 3, 1) := by decide +kernel
theorem dX8_has_33 : decode cX8_has 33 = .ok (.invokevirtual 96, 3) := by decide +kernel
theorem dX8_has_36 : decode cX8_has 36 = .ok (.astore 4, 2) := by decide +kernel
theorem dX8_has_38 : decode cX8_has 38 = .ok (.aload 4, 2) := by decide +kernel
theorem dX8_has_40 : decode cX8_has 40 = .ok (.ifnull 55, 3) := by decide +kernel
theorem dX8_has_43 : decode cX8_has 43 = .ok (.aload 4, 2) := by decide +kernel
theorem dX8_has_45 : decode cX8_has 45 = .ok (.getfield 108, 3) := by decide +kernel
theorem dX8_has_48 : decode cX8_has 48 = .ok (.iconst 1, 1) := by decide +kernel
theorem dX8_has_49 : decode cX8_has 49 = .ok (.iload_n 1, 1) := by decide +kernel
theorem dX8_has_50 : decode cX8_has 50 = .ok (.ishl, 1) := by decide +kernel
theorem dX8_has_51 : decode cX8_has 51 = .ok (.iand, 1) := by decide +kernel
theorem dX8_has_52 : decode cX8_has 52 = .ok (.ifCond .eq 43, 3) := by decide +kernel
theorem dX8_has_55 : decode cX8_has 55 = .ok (.aload 4, 2) := by decide +kernel
theorem dX8_has_57 : decode cX8_has 57 = .ok (.getfield 108, 3) := by decide +kernel
theorem dX8_has_60 : decode cX8_has 60 = .ok (.invokestatic 205, 3) := by decide +kernel
theorem dX8_has_63 : decode cX8_has 63 = .ok (.istore 5, 2) := by decide +kernel
theorem dX8_has_65 : decode cX8_has 65 = .ok (.iload_n 2, 1) := by decide +kernel
theorem dX8_has_66 : decode cX8_has 66 = .ok (.iload 5, 2) := by decide +kernel
theorem dX8_has_68 : decode cX8_has 68 = .ok (.ifCond .ne 7, 3) := by decide +kernel
theorem dX8_has_71 : decode cX8_has 71 = .ok (.iconst 0, 1) := by decide +kernel
theorem dX8_has_72 : decode cX8_has 72 = .ok (.goto 21, 3) := by decide +kernel
theorem dX8_has_75 : decode cX8_has 75 = .ok (.aload 4, 2) := by decide +kernel
theorem dX8_has_77 : decode cX8_has 77 = .ok (.getfield 111, 3) := by decide +kernel
theorem dX8_has_80 : decode cX8_has 80 = .ok (.aload_n 0, 1) := by decide +kernel
theorem dX8_has_81 : decode cX8_has 81 = .ok (.getfield 10, 3) := by decide +kernel
theorem dX8_has_84 : decode cX8_has 84 = .ok (.aload 4, 2) := by decide +kernel
theorem dX8_has_86 : decode cX8_has 86 = .ok (.invokevirtual 117, 3) := by decide +kernel
theorem dX8_has_89 : decode cX8_has 89 = .ok (.imul, 1) := by decide +kernel
theorem dX8_has_90 : decode cX8_has 90 = .ok (.iload 5, 2) := by decide +kernel
theorem dX8_has_92 : decode cX8_has 92 = .ok (.idiv, 1) := by decide +kernel
theorem dX8_has_93 : decode cX8_has 93 = .ok (.iadd, 1) := by decide +kernel
theorem dX8_has_94 : decode cX8_has 94 = .ok (.istore_n 2, 1) := by decide +kernel
theorem dX8_has_95 : decode cX8_has 95 = .ok (.iinc 3 1, 3) := by decide +kernel
theorem dX8_has_98 : decode cX8_has 98 = .ok (.goto (-81), 3) := by decide +kernel
theorem dX8_has_101 : decode cX8_has 101 = .ok (.iload_n 2, 1) := by decide +kernel
theorem dX8_has_102 : decode cX8_has 102 = .ok (.ireturn, 1) := by decide +kernel
theorem dX8_mixes_0 : decode cX8_mixes 0 = .ok (.aload_n 0, 1) := by decide +kernel
theorem dX8_mixes_1 : decode cX8_mixes 1 = .ok (.getfield 10, 3) := by decide +kernel
theorem dX8_mixes_4 : decode cX8_mixes 4 = .ok (.iload_n 1, 1) := by decide +kernel
theorem dX8_mixes_5 : decode cX8_mixes 5 = .ok (.invokevirtual 96, 3) := by decide +kernel
theorem dX8_mixes_8 : decode cX8_mixes 8 = .ok (.ifnull 12, 3) := by decide +kernel
theorem dX8_mixes_11 : decode cX8_mixes 11 = .ok (.iload_n 2, 1) := by decide +kernel
theorem dX8_mixes_12 : decode cX8_mixes 12 = .ok (.iconst 0, 1) := by decide +kernel
theorem dX8_mixes_13 : decode cX8_mixes 13 = .ok (.iconst 1, 1) := by decide +kernel
theorem dX8_mixes_14 : decode cX8_mixes 14 = .ok (.invokestatic 80, 3) := by decide +kernel
theorem dX8_mixes_17 : decode cX8_mixes 17 = .ok (.ifCond .ne 9, 3) := by decide +kernel
theorem dX8_mixes_20 : decode cX8_mixes 20 = .ok (.aload_n 0, 1) := by decide +kernel
theorem dX8_mixes_21 : decode cX8_mixes 21 = .ok (.iconst 1, 1) := by decide +kernel
theorem dX8_mixes_22 : decode cX8_mixes 22 = .ok (.invokevirtual 84, 3) := by decide +kernel
theorem dX8_mixes_25 : decode cX8_mixes 25 = .ok (.ireturn, 1) := by decide +kernel
theorem dX8_mixes_26 : decode cX8_mixes 26 = .ok (.aload_n 0, 1) := by decide +kernel
theorem dX8_mixes_27 : decode cX8_mixes 27 = .ok (.getfield 19, 3) := by decide +kernel
theorem dX8_mixes_30 : decode cX8_mixes 30 = .ok (.aload_n 0, 1) := by decide +kernel
theorem dX8_mixes_31 : decode cX8_mixes 31 = .ok (.getfield 10, 3) := by decide +kernel
theorem dX8_mixes_34 : decode cX8_mixes 34 = .ok (.invokevirtual 199, 3) := by decide +kernel
theorem dX8_mixes_37 : decode cX8_mixes 37 = .ok (.aload_n 0, 1) := by decide +kernel
theorem dX8_mixes_38 : decode cX8_mixes 38 = .ok (.getfield 19, 3) := by decide +kernel
theorem dX8_mixes_41 : decode cX8_mixes 41 = .ok (.iload_n 1, 1) := by decide +kernel
theorem dX8_mixes_42 : decode cX8_mixes 42 = .ok (.invokevirtual 96, 3) := by decide +kernel
theorem dX8_mixes_45 : decode cX8_mixes 45 = .ok (.astore_n 3, 1) := by decide +kernel
theorem dX8_mixes_46 : decode cX8_mixes 46 = .ok (.iconst 0, 1) := by decide +kernel
theorem dX8_mixes_47 : decode cX8_mixes 47 = .ok (.istore 4, 2) := by decide +kernel
theorem dX8_mixes_49 : decode cX8_mixes 49 = .ok (.iconst 0, 1) := by decide +kernel
theorem dX8_mixes_50 : decode cX8_mixes 50 = .ok (.istore 5, 2) := by decide +kernel
theorem dX8_mixes_52 : decode cX8_mixes 52 = .ok (.iconst 1, 1) := by decide +kernel
theorem dX8_mixes_53 : decode cX8_mixes 53 = .ok (.istore 6, 2) := by decide +kernel
theorem dX8_mixes_55 : decode cX8_mixes 55 = .ok (.iload 6, 2) := by decide +kernel
theorem dX8_mixes_57 : decode cX8_mixes 57 = .ok (.bipush 15, 2) := by decide +kernel
theorem dX8_mixes_59 : decode cX8_mixes 59 = .ok (.if_icmp .gt 49, 3) := by decide +kernel
theorem dX8_mixes_62 : decode cX8_mixes 62 = .ok (.aload_n 3, 1) := by decide +kernel
theorem dX8_mixes_63 : decode cX8_mixes 63 = .ok (.ifnull 45, 3) := by decide +kernel
theorem dX8_mixes_66 : decode cX8_mixes 66 = .ok (.aload_n 3, 1) := by decide +kernel
theorem dX8_mixes_67 : decode cX8_mixes 67 = .ok (.iload 6, 2) := by decide +kernel
theorem dX8_mixes_69 : decode cX8_mixes 69 = .ok (.putfield 108, 3) := by decide +kernel
theorem dX8_mixes_72 : decode cX8_mixes 72 = .ok (.aload_n 0, 1) := by decide +kernel
theorem dX8_mixes_73 : decode cX8_mixes 73 = .ok (.getfield 19, 3) := by decide +kernel
theorem dX8_mixes_76 : decode cX8_mixes 76 = .ok (.aload_n 3, 1) := by decide +kernel
theorem dX8_mixes_77 : decode cX8_mixes 77 = .ok (.invokevirtual 210, 3) := by decide +kernel
theorem dX8_mixes_80 : decode cX8_mixes 80 = .ok (.istore 7, 2) := by decide +kernel
theorem dX8_mixes_82 : decode cX8_mixes 82 = .ok (.iload 4, 2) := by decide +kernel
theorem dX8_mixes_84 : decode cX8_mixes 84 = .ok (.ifCond .eq 10, 3) := by decide +kernel
theorem dX8_mixes_87 : decode cX8_mixes 87 = .ok (.iload 7, 2) := by decide +kernel
theorem dX8_mixes_89 : decode cX8_mixes 89 = .ok (.iload 5, 2) := by decide +kernel
theorem dX8_mixes_91 : decode cX8_mixes 91 = .ok (.if_icmp .le 11, 3) := by decide +kernel
theorem dX8_mixes_94 : decode cX8_mixes 94 = .ok (.iload 6, 2) := by decide +kernel
theorem dX8_mixes_96 : decode cX8_mixes 96 = .ok (.istore 4, 2) := by decide +kernel
theorem dX8_mixes_98 : decode cX8_mixes 98 = .ok (.iload 7, 2) := by decide +kernel
theorem dX8_mixes_100 : decode cX8_mixes 100 = .ok (.istore 5, 2) := by decide +kernel
theorem dX8_mixes_102 : decode cX8_mixes 102 = .ok (.iinc 6 1, 3) := by decide +kernel
theorem dX8_mixes_105 : decode cX8_mixes 105 = .ok (.goto (-50), 3) := by decide +kernel
theorem dX8_mixes_108 : decode cX8_mixes 108 = .ok (.iload_n 2, 1) := by decide +kernel
theorem dX8_mixes_109 : decode cX8_mixes 109 = .ok (.ifCond .ne 8, 3) := by decide +kernel
theorem dX8_mixes_112 : decode cX8_mixes 112 = .ok (.iload 4, 2) := by decide +kernel
theorem dX8_mixes_114 : decode cX8_mixes 114 = .ok (.goto 5, 3) := by decide +kernel
theorem dX8_mixes_117 : decode cX8_mixes 117 = .ok (.iload 5, 2) := by decide +kernel
theorem dX8_mixes_119 : decode cX8_mixes 119 = .ok (.ireturn, 1) := by decide +kernel
theorem dX8_odds_0 : decode cX8_odds 0 = .ok (.iload_n 1, 1) := by decide +kernel
theorem dX8_odds_1 : decode cX8_odds 1 = .ok (.iconst 0, 1) := by decide +kernel
theorem dX8_odds_2 : decode cX8_odds 2 = .ok (.iconst 1, 1) := by decide +kernel
theorem dX8_odds_3 : decode cX8_odds 3 = .ok (.invokestatic 80, 3) := by decide +kernel
theorem dX8_odds_6 : decode cX8_odds 6 = .ok (.ifCond .ne 9, 3) := by decide +kernel
theorem dX8_odds_9 : decode cX8_odds 9 = .ok (.aload_n 0, 1) := by decide +kernel
theorem dX8_odds_10 : decode cX8_odds 10 = .ok (.iconst 1, 1) := by decide +kernel
theorem dX8_odds_11 : decode cX8_odds 11 = .ok (.invokevirtual 84, 3) := by decide +kernel
theorem dX8_odds_14 : decode cX8_odds 14 = .ok (.ireturn, 1) := by decide +kernel
theorem dX8_odds_15 : decode cX8_odds 15 = .ok (.aload_n 0, 1) := by decide +kernel
theorem dX8_odds_16 : decode cX8_odds 16 = .ok (.getfield 19, 3) := by decide +kernel
theorem dX8_odds_19 : decode cX8_odds 19 = .ok (.aload_n 0, 1) := by decide +kernel
theorem dX8_odds_20 : decode cX8_odds 20 = .ok (.getfield 10, 3) := by decide +kernel
theorem dX8_odds_23 : decode cX8_odds 23 = .ok (.invokevirtual 199, 3) := by decide +kernel
theorem dX8_odds_26 : decode cX8_odds 26 = .ok (.iconst 0, 1) := by decide +kernel
theorem dX8_odds_27 : decode cX8_odds 27 = .ok (.istore_n 2, 1) := by decide +kernel
theorem dX8_odds_28 : decode cX8_odds 28 = .ok (.iconst 0, 1) := by decide +kernel
theorem dX8_odds_29 : decode cX8_odds 29 = .ok (.istore_n 3, 1) := by decide +kernel
theorem dX8_odds_30 : decode cX8_odds 30 = .ok (.iload_n 3, 1) := by decide +kernel
theorem dX8_odds_31 : decode cX8_odds 31 = .ok (.bipush 9, 2) := by decide +kernel
theorem dX8_odds_33 : decode cX8_odds 33 = .ok (.if_icmp .gt 35, 3) := by decide +kernel
theorem dX8_odds_36 : decode cX8_odds 36 = .ok (.aload_n 0, 1) := by decide +kernel
theorem dX8_odds_37 : decode cX8_odds 37 = .ok (.getfield 19, 3) := by decide +kernel
theorem dX8_odds_40 : decode cX8_odds 40 = .ok (.iload_n 3, 1) := by decide +kernel
theorem dX8_odds_41 : decode cX8_odds 41 = .ok (.putfield 121, 3) := by decide +kernel
theorem dX8_odds_44 : decode cX8_odds 44 = .ok (.aload_n 0, 1) := by decide +kernel
theorem dX8_odds_45 : decode cX8_odds 45 = .ok (.getfield 25, 3) := by decide +kernel
theorem dX8_odds_48 : decode cX8_odds 48 = .ok (.aload_n 0, 1) := by decide +kernel
theorem dX8_odds_49 : decode cX8_odds 49 = .ok (.getfield 19, 3) := by decide +kernel
theorem dX8_odds_52 : decode cX8_odds 52 = .ok (.iconst (-1), 1) := by decide +kernel
theorem dX8_odds_53 : decode cX8_odds 53 = .ok (.invokevirtual 183, 3) := by decide +kernel
theorem dX8_odds_56 : decode cX8_odds 56 = .ok (.ifCond .eq 6, 3) := by decide +kernel
theorem dX8_odds_59 : decode cX8_odds 59 = .ok (.iinc 2 1, 3) := by decide +kernel
theorem dX8_odds_62 : decode cX8_odds 62 = .ok (.iinc 3 1, 3) := by decide +kernel
theorem dX8_odds_65 : decode cX8_odds 65 = .ok (.goto (-35), 3) := by decide +kernel
theorem dX8_odds_68 : decode cX8_odds 68 = .ok (.iload_n 1, 1) := by decide +kernel
theorem dX8_odds_69 : decode cX8_odds 69 = .ok (.ifCond .ne 12, 3) := by decide +kernel
theorem dX8_odds_72 : decode cX8_odds 72 = .ok (.iload_n 2, 1) := by decide +kernel
theorem dX8_odds_73 : decode cX8_odds 73 = .ok (.bipush 10, 2) := by decide +kernel
theorem dX8_odds_75 : decode cX8_odds 75 = .ok (.invokestatic 212, 3) := by decide +kernel
theorem dX8_odds_78 : decode cX8_odds 78 = .ok (.goto 9, 3) := by decide +kernel
theorem dX8_odds_81 : decode cX8_odds 81 = .ok (.bipush 10, 2) := by decide +kernel
theorem dX8_odds_83 : decode cX8_odds 83 = .ok (.iload_n 2, 1) := by decide +kernel
theorem dX8_odds_84 : decode cX8_odds 84 = .ok (.invokestatic 212, 3) := by decide +kernel
theorem dX8_odds_87 : decode cX8_odds 87 = .ok (.ireturn, 1) := by decide +kernel
theorem dX8_fits_0 : decode cX8_fits 0 = .ok (.aload_n 0, 1) := by decide +kernel
theorem dX8_fits_1 : decode cX8_fits 1 = .ok (.iload_n 1, 1) := by decide +kernel
theorem dX8_fits_2 : decode cX8_fits 2 = .ok (.invokevirtual 216, 3) := by decide +kernel
theorem dX8_fits_5 : decode cX8_fits 5 = .ok (.astore_n 2, 1) := by decide +kernel
theorem dX8_fits_6 : decode cX8_fits 6 = .ok (.aload_n 2, 1) := by decide +kernel
theorem dX8_fits_7 : decode cX8_fits 7 = .ok (.ifnonnull 9, 3) := by decide +kernel
theorem dX8_fits_10 : decode cX8_fits 10 = .ok (.aload_n 0, 1) := by decide +kernel
theorem dX8_fits_11 : decode cX8_fits 11 = .ok (.iconst 1, 1) := by decide +kernel
theorem dX8_fits_12 : decode cX8_fits 12 = .ok (.invokevirtual 84, 3) := by decide +kernel
theorem dX8_fits_15 : decode cX8_fits 15 = .ok (.ireturn, 1) := by decide +kernel
theorem dX8_fits_16 : decode cX8_fits 16 = .ok (.aload_n 2, 1) := by decide +kernel
theorem dX8_fits_17 : decode cX8_fits 17 = .ok (.invokevirtual 220, 3) := by decide +kernel
theorem dX8_fits_20 : decode cX8_fits 20 = .ok (.ifCond .eq 9, 3) := by decide +kernel
theorem dX8_fits_23 : decode cX8_fits 23 = .ok (.aload_n 0, 1) := by decide +kernel
theorem dX8_fits_24 : decode cX8_fits 24 = .ok (.iconst 2, 1) := by decide +kernel
theorem dX8_fits_25 : decode cX8_fits 25 = .ok (.invokevirtual 84, 3) := by decide +kernel
theorem dX8_fits_28 : decode cX8_fits 28 = .ok (.ireturn, 1) := by decide +kernel
theorem dX8_fits_29 : decode cX8_fits 29 = .ok (.aload_n 0, 1) := by decide +kernel
theorem dX8_fits_30 : decode cX8_fits 30 = .ok (.getfield 19, 3) := by decide +kernel
theorem dX8_fits_33 : decode cX8_fits 33 = .ok (.aload_n 0, 1) := by decide +kernel
theorem dX8_fits_34 : decode cX8_fits 34 = .ok (.getfield 10, 3) := by decide +kernel
theorem dX8_fits_37 : decode cX8_fits 37 = .ok (.invokevirtual 199, 3) := by decide +kernel
theorem dX8_fits_40 : decode cX8_fits 40 = .ok (.iconst 0, 1) := by decide +kernel
theorem dX8_fits_41 : decode cX8_fits 41 = .ok (.istore_n 3, 1) := by decide +kernel
theorem dX8_fits_42 : decode cX8_fits 42 = .ok (.iload_n 3, 1) := by decide +kernel
theorem dX8_fits_43 : decode cX8_fits 43 = .ok (.bipush 60, 2) := by decide +kernel
theorem dX8_fits_45 : decode cX8_fits 45 = .ok (.if_icmp .gt 35, 3) := by decide +kernel
theorem dX8_fits_48 : decode cX8_fits 48 = .ok (.aload_n 2, 1) := by decide +kernel
theorem dX8_fits_49 : decode cX8_fits 49 = .ok (.aload_n 0, 1) := by decide +kernel
theorem dX8_fits_50 : decode cX8_fits 50 = .ok (.getfield 19, 3) := by decide +kernel
theorem dX8_fits_53 : decode cX8_fits 53 = .ok (.invokestatic 223, 3) := by decide +kernel
theorem dX8_fits_56 : decode cX8_fits 56 = .ok (.ifCond .eq 5, 3) := by decide +kernel
theorem dX8_fits_59 : decode cX8_fits 59 = .ok (.iload_n 3, 1) := by decide +kernel
theorem dX8_fits_60 : decode cX8_fits 60 = .ok (.ireturn, 1) := by decide +kernel
theorem dX8_fits_61 : decode cX8_fits 61 = .ok (.aload_n 0, 1) := by decide +kernel
theorem dX8_fits_62 : decode cX8_fits 62 = .ok (.getfield 19, 3) := by decide +kernel
theorem dX8_fits_65 : decode cX8_fits 65 = .ok (.aload_n 0, 1) := by decide +kernel
theorem dX8_fits_66 : decode cX8_fits 66 = .ok (.getfield 25, 3) := by decide +kernel
theorem dX8_fits_69 : decode cX8_fits 69 = .ok (.iconst (-1), 1) := by decide +kernel
theorem dX8_fits_70 : decode cX8_fits 70 = .ok (.invokevirtual 170, 3) := by decide +kernel
theorem dX8_fits_73 : decode cX8_fits 73 = .ok (.pop, 1) := by decide +kernel
theorem dX8_fits_74 : decode cX8_fits 74 = .ok (.iinc 3 1, 3) := by decide +kernel
theorem dX8_fits_77 : decode cX8_fits 77 = .ok (.goto (-35), 3) := by decide +kernel
theorem dX8_fits_80 : decode cX8_fits 80 = .ok (.aload_n 0, 1) := by decide +kernel
theorem dX8_fits_81 : decode cX8_fits 81 = .ok (.iconst 2, 1) := by decide +kernel
theorem dX8_fits_82 : decode cX8_fits 82 = .ok (.invokevirtual 84, 3) := by decide +kernel
theorem dX8_fits_85 : decode cX8_fits 85 = .ok (.ireturn, 1) := by decide +kernel
theorem dX8_voice_0 : decode cX8_voice 0 = .ok (.aload_n 0, 1) := by decide +kernel
theorem dX8_voice_1 : decode cX8_voice 1 = .ok (.getfield 10, 3) := by decide +kernel
theorem dX8_voice_4 : decode cX8_voice 4 = .ok (.iload_n 1, 1) := by decide +kernel
theorem dX8_voice_5 : decode cX8_voice 5 = .ok (.invokevirtual 96, 3) := by decide +kernel
theorem dX8_voice_8 : decode cX8_voice 8 = .ok (.astore 4, 2) := by decide +kernel
theorem dX8_voice_10 : decode cX8_voice 10 = .ok (.aload 4, 2) := by decide +kernel
theorem dX8_voice_12 : decode cX8_voice 12 = .ok (.ifnull 12, 3) := by decide +kernel
theorem dX8_voice_15 : decode cX8_voice 15 = .ok (.iload_n 2, 1) := by decide +kernel
theorem dX8_voice_16 : decode cX8_voice 16 = .ok (.iconst 0, 1) := by decide +kernel
theorem dX8_voice_17 : decode cX8_voice 17 = .ok (.iconst 3, 1) := by decide +kernel
theorem dX8_voice_18 : decode cX8_voice 18 = .ok (.invokestatic 80, 3) := by decide +kernel
theorem dX8_voice_21 : decode cX8_voice 21 = .ok (.ifCond .ne 9, 3) := by decide +kernel
theorem dX8_voice_24 : decode cX8_voice 24 = .ok (.aload_n 0, 1) := by decide +kernel
theorem dX8_voice_25 : decode cX8_voice 25 = .ok (.iconst 1, 1) := by decide +kernel
theorem dX8_voice_26 : decode cX8_voice 26 = .ok (.invokevirtual 84, 3) := by decide +kernel
theorem dX8_voice_29 : decode cX8_voice 29 = .ok (.ireturn, 1) := by decide +kernel
theorem dX8_voice_30 : decode cX8_voice 30 = .ok (.aload_n 0, 1) := by decide +kernel
theorem dX8_voice_31 : decode cX8_voice 31 = .ok (.getfield 57, 3) := by decide +kernel
theorem dX8_voice_34 : decode cX8_voice 34 = .ok (.aload 4, 2) := by decide +kernel
theorem dX8_voice_36 : decode cX8_voice 36 = .ok (.iload_n 1, 1) := by decide +kernel
theorem dX8_voice_37 : decode cX8_voice 37 = .ok (.iload_n 2, 1) := by decide +kernel
theorem dX8_voice_38 : decode cX8_voice 38 = .ok (.iload_n 3, 1) := by decide +kernel
theorem dX8_voice_39 : decode cX8_voice 39 = .ok (.invokevirtual 227, 3) := by decide +kernel
theorem dX8_voice_42 : decode cX8_voice 42 = .ok (.istore 5, 2) := by decide +kernel
theorem dX8_voice_44 : decode cX8_voice 44 = .ok (.aload_n 0, 1) := by decide +kernel
theorem dX8_voice_45 : decode cX8_voice 45 = .ok (.getfield 57, 3) := by decide +kernel
theorem dX8_voice_48 : decode cX8_voice 48 = .ok (.getfield 231, 3) := by decide +kernel
theorem dX8_voice_51 : decode cX8_voice 51 = .ok (.ifCond .eq 12, 3) := by decide +kernel
theorem dX8_voice_54 : decode cX8_voice 54 = .ok (.aload_n 0, 1) := by decide +kernel
theorem dX8_voice_55 : decode cX8_voice 55 = .ok (.bipush 6, 2) := by decide +kernel
theorem dX8_voice_57 : decode cX8_voice 57 = .ok (.invokevirtual 84, 3) := by decide +kernel
theorem dX8_voice_60 : decode cX8_voice 60 = .ok (.goto 5, 3) := by decide +kernel
theorem dX8_voice_63 : decode cX8_voice 63 = .ok (.iload 5, 2) := by decide +kernel
theorem dX8_voice_65 : decode cX8_voice 65 = .ok (.ireturn, 1) := by decide +kernel
theorem dX8_body_0 : decode cX8_body 0 = .ok (.aload_n 0, 1) := by decide +kernel
theorem dX8_body_1 : decode cX8_body 1 = .ok (.getfield 57, 3) := by decide +kernel
theorem dX8_body_4 : decode cX8_body 4 = .ok (.getfield 235, 3) := by decide +kernel
theorem dX8_body_7 : decode cX8_body 7 = .ok (.iload_n 1, 1) := by decide +kernel
theorem dX8_body_8 : decode cX8_body 8 = .ok (.invokevirtual 238, 3) := by decide +kernel
theorem dX8_body_11 : decode cX8_body 11 = .ok (.ifCond .eq 17, 3) := by decide +kernel
theorem dX8_body_14 : decode cX8_body 14 = .ok (.aload_n 0, 1) := by decide +kernel
theorem dX8_body_15 : decode cX8_body 15 = .ok (.getfield 57, 3) := by decide +kernel
theorem dX8_body_18 : decode cX8_body 18 = .ok (.getfield 235, 3) := by decide +kernel
theorem dX8_body_21 : decode cX8_body 21 = .ok (.iload_n 1, 1) := by decide +kernel
theorem dX8_body_22 : decode cX8_body 22 = .ok (.invokevirtual 241, 3) := by decide +kernel
theorem dX8_body_25 : decode cX8_body 25 = .ok (.goto 8, 3) := by decide +kernel
theorem dX8_body_28 : decode cX8_body 28 = .ok (.aload_n 0, 1) := by decide +kernel
theorem dX8_body_29 : decode cX8_body 29 = .ok (.iconst 2, 1) := by decide +kernel
theorem dX8_body_30 : decode cX8_body 30 = .ok (.invokevirtual 84, 3) := by decide +kernel
theorem dX8_body_33 : decode cX8_body 33 = .ok (.ireturn, 1) := by decide +kernel
theorem dX8_sheet_0 : decode cX8_sheet 0 = .ok (.aload_n 0, 1) := by decide +kernel
theorem dX8_sheet_1 : decode cX8_sheet 1 = .ok (.iload_n 1, 1) := by decide +kernel
theorem dX8_sheet_2 : decode cX8_sheet 2 = .ok (.invokevirtual 216, 3) := by decide +kernel
theorem dX8_sheet_5 : decode cX8_sheet 5 = .ok (.astore 4, 2) := by decide +kernel
theorem dX8_sheet_7 : decode cX8_sheet 7 = .ok (.aload 4, 2) := by decide +kernel
theorem dX8_sheet_9 : decode cX8_sheet 9 = .ok (.ifnull 25, 3) := by decide +kernel
theorem dX8_sheet_12 : decode cX8_sheet 12 = .ok (.iload_n 2, 1) := by decide +kernel
theorem dX8_sheet_13 : decode cX8_sheet 13 = .ok (.ifCond .eq 27, 3) := by decide +kernel
theorem dX8_sheet_16 : decode cX8_sheet 16 = .ok (.iload_n 2, 1) := by decide +kernel
theorem dX8_sheet_17 : decode cX8_sheet 17 = .ok (.bipush 8, 2) := by decide +kernel
theorem dX8_sheet_19 : decode cX8_sheet 19 = .ok (.if_icmp .eq 21, 3) := by decide +kernel
theorem dX8_sheet_22 : decode cX8_sheet 22 = .ok (.iload_n 2, 1) := by decide +kernel
theorem dX8_sheet_23 : decode cX8_sheet 23 = .ok (.bipush 16, 2) := by decide +kernel
theorem dX8_sheet_25 : decode cX8_sheet 25 = .ok (.if_icmp .eq 15, 3) := by decide +kernel
theorem dX8_sheet_28 : decode cX8_sheet 28 = .ok (.iload_n 2, 1) := by decide +kernel
theorem dX8_sheet_29 : decode cX8_sheet 29 = .ok (.bipush 32, 2) := by decide +kernel
theorem dX8_sheet_31 : decode cX8_sheet 31 = .ok (.if_icmp .eq 9, 3) := by decide +kernel
theorem dX8_sheet_34 : decode cX8_sheet 34 = .ok (.aload_n 0, 1) := by decide +kernel
theorem dX8_sheet_35 : decode cX8_sheet 35 = .ok (.iconst 1, 1) := by decide +kernel
theorem dX8_sheet_36 : decode cX8_sheet 36 = .ok (.invokevirtual 84, 3) := by decide +kernel
theorem dX8_sheet_39 : decode cX8_sheet 39 = .ok (.ireturn, 1) := by decide +kernel
theorem dX8_sheet_40 : decode cX8_sheet 40 = .ok (.iload_n 2, 1) := by decide +kernel
theorem dX8_sheet_41 : decode cX8_sheet 41 = .ok (.ifCond .eq 13, 3) := by decide +kernel
theorem dX8_sheet_44 : decode cX8_sheet 44 = .ok (.iload_n 3, 1) := by decide +kernel
theorem dX8_sheet_45 : decode cX8_sheet 45 = .ok (.ifCond .ge 9, 3) := by decide +kernel
theorem dX8_sheet_48 : decode cX8_sheet 48 = .ok (.aload_n 0, 1) := by decide +kernel
theorem dX8_sheet_49 : decode cX8_sheet 49 = .ok (.iconst 3, 1) := by decide +kernel
theorem dX8_sheet_50 : decode cX8_sheet 50 = .ok (.invokevirtual 84, 3) := by decide +kernel
theorem dX8_sheet_53 : decode cX8_sheet 53 = .ok (.ireturn, 1) := by decide +kernel
theorem dX8_sheet_54 : decode cX8_sheet 54 = .ok (.iload_n 2, 1) := by decide +kernel
theorem dX8_sheet_55 : decode cX8_sheet 55 = .ok (.ifCond .eq 15, 3) := by decide +kernel
theorem dX8_sheet_58 : decode cX8_sheet 58 = .ok (.iload_n 3, 1) := by decide +kernel
theorem dX8_sheet_59 : decode cX8_sheet 59 = .ok (.bipush 24, 2) := by decide +kernel
theorem dX8_sheet_61 : decode cX8_sheet 61 = .ok (.if_icmp .le 9, 3) := by decide +kernel
theorem dX8_sheet_64 : decode cX8_sheet 64 = .ok (.aload_n 0, 1) := by decide +kernel
theorem dX8_sheet_65 : decode cX8_sheet 65 = .ok (.iconst 1, 1) := by decide +kernel
theorem dX8_sheet_66 : decode cX8_sheet 66 = .ok (.invokevirtual 84, 3) := by decide +kernel
theorem dX8_sheet_69 : decode cX8_sheet 69 = .ok (.ireturn, 1) := by decide +kernel
theorem dX8_sheet_70 : decode cX8_sheet 70 = .ok (.aload 4, 2) := by decide +kernel
theorem dX8_sheet_72 : decode cX8_sheet 72 = .ok (.iload_n 2, 1) := by decide +kernel
theorem dX8_sheet_73 : decode cX8_sheet 73 = .ok (.iload_n 2, 1) := by decide +kernel
theorem dX8_sheet_74 : decode cX8_sheet 74 = .ok (.ifCond .ne 7, 3) := by decide +kernel
theorem dX8_sheet_77 : decode cX8_sheet 77 = .ok (.iconst 0, 1) := by decide +kernel
theorem dX8_sheet_78 : decode cX8_sheet 78 = .ok (.goto 4, 3) := by decide +kernel
theorem dX8_sheet_81 : decode cX8_sheet 81 = .ok (.iload_n 3, 1) := by decide +kernel
theorem dX8_sheet_82 : decode cX8_sheet 82 = .ok (.invokevirtual 243, 3) := by decide +kernel
theorem dX8_sheet_85 : decode cX8_sheet 85 = .ok (.iconst 1, 1) := by decide +kernel
theorem dX8_sheet_86 : decode cX8_sheet 86 = .ok (.ireturn, 1) := by decide +kernel
theorem dX8_put_0 : decode cX8_put 0 = .ok (.aload_n 0, 1) := by decide +kernel
theorem dX8_put_1 : decode cX8_put 1 = .ok (.iload_n 1, 1) := by decide +kernel
theorem dX8_put_2 : decode cX8_put 2 = .ok (.invokevirtual 216, 3) := by decide +kernel
theorem dX8_put_5 : decode cX8_put 5 = .ok (.astore 4, 2) := by decide +kernel
theorem dX8_put_7 : decode cX8_put 7 = .ok (.aload 4, 2) := by decide +kernel
theorem dX8_put_9 : decode cX8_put 9 = .ok (.ifnonnull 9, 3) := by decide +kernel
theorem dX8_put_12 : decode cX8_put 12 = .ok (.aload_n 0, 1) := by decide +kernel
theorem dX8_put_13 : decode cX8_put 13 = .ok (.iconst 1, 1) := by decide +kernel
theorem dX8_put_14 : decode cX8_put 14 = .ok (.invokevirtual 84, 3) := by decide +kernel
theorem dX8_put_17 : decode cX8_put 17 = .ok (.ireturn, 1) := by decide +kernel
theorem dX8_put_18 : decode cX8_put 18 = .ok (.aload 4, 2) := by decide +kernel
theorem dX8_put_20 : decode cX8_put 20 = .ok (.invokevirtual 220, 3) := by decide +kernel
theorem dX8_put_23 : decode cX8_put 23 = .ok (.ifCond .eq 9, 3) := by decide +kernel
theorem dX8_put_26 : decode cX8_put 26 = .ok (.aload_n 0, 1) := by decide +kernel
theorem dX8_put_27 : decode cX8_put 27 = .ok (.iconst 2, 1) := by decide +kernel
theorem dX8_put_28 : decode cX8_put 28 = .ok (.invokevirtual 84, 3) := by decide +kernel
theorem dX8_put_31 : decode cX8_put 31 = .ok (.ireturn, 1) := by decide +kernel
theorem dX8_put_32 : decode cX8_put 32 = .ok (.aload 4, 2) := by decide +kernel
theorem dX8_put_34 : decode cX8_put 34 = .ok (.iload_n 2, 1) := by decide +kernel
theorem dX8_put_35 : decode cX8_put 35 = .ok (.invokevirtual 247, 3) := by decide +kernel
theorem dX8_put_38 : decode cX8_put 38 = .ok (.ifCond .ne 9, 3) := by decide +kernel
theorem dX8_put_41 : decode cX8_put 41 = .ok (.aload_n 0, 1) := by decide +kernel
theorem dX8_put_42 : decode cX8_put 42 = .ok (.iconst 1, 1) := by decide +kernel
theorem dX8_put_43 : decode cX8_put 43 = .ok (.invokevirtual 84, 3) := by decide +kernel
theorem dX8_put_46 : decode cX8_put 46 = .ok (.ireturn, 1) := by decide +kernel
theorem dX8_put_47 : decode cX8_put 47 = .ok (.aload 4, 2) := by decide +kernel
theorem dX8_put_49 : decode cX8_put 49 = .ok (.iload_n 2, 1) := by decide +kernel
theorem dX8_put_50 : decode cX8_put 50 = .ok (.iload_n 3, 1) := by decide +kernel
theorem dX8_put_51 : decode cX8_put 51 = .ok (.invokevirtual 248, 3) := by decide +kernel
theorem dX8_put_54 : decode cX8_put 54 = .ok (.iconst 1, 1) := by decide +kernel
theorem dX8_put_55 : decode cX8_put 55 = .ok (.ireturn, 1) := by decide +kernel
theorem dX8_move_0 : decode cX8_move 0 = .ok (.aload_n 0, 1) := by decide +kernel
theorem dX8_move_1 : decode cX8_move 1 = .ok (.iload_n 1, 1) := by decide +kernel
theorem dX8_move_2 : decode cX8_move 2 = .ok (.invokevirtual 216, 3) := by decide +kernel
theorem dX8_move_5 : decode cX8_move 5 = .ok (.astore 6, 2) := by decide +kernel
theorem dX8_move_7 : decode cX8_move 7 = .ok (.aload_n 0, 1) := by decide +kernel
theorem dX8_move_8 : decode cX8_move 8 = .ok (.iload_n 3, 1) := by decide +kernel
theorem dX8_move_9 : decode cX8_move 9 = .ok (.invokevirtual 216, 3) := by decide +kernel
theorem dX8_move_12 : decode cX8_move 12 = .ok (.astore 7, 2) := by decide +kernel
theorem dX8_move_14 : decode cX8_move 14 = .ok (.aload 6, 2) := by decide +kernel
theorem dX8_move_16 : decode cX8_move 16 = .ok (.ifnull 8, 3) := by decide +kernel
theorem dX8_move_19 : decode cX8_move 19 = .ok (.aload 7, 2) := by decide +kernel
theorem dX8_move_21 : decode cX8_move 21 = .ok (.ifnonnull 9, 3) := by decide +kernel
theorem dX8_move_24 : decode cX8_move 24 = .ok (.aload_n 0, 1) := by decide +kernel
theorem dX8_move_25 : decode cX8_move 25 = .ok (.iconst 1, 1) := by decide +kernel
theorem dX8_move_26 : decode cX8_move 26 = .ok (.invokevirtual 84, 3) := by decide +kernel
theorem dX8_move_29 : decode cX8_move 29 = .ok (.ireturn, 1) := by decide +kernel
theorem dX8_move_30 : decode cX8_move 30 = .ok (.aload 6, 2) := by decide +kernel
theorem dX8_move_32 : decode cX8_move 32 = .ok (.invokevirtual 220, 3) := by decide +kernel
theorem dX8_move_35 : decode cX8_move 35 = .ok (.ifCond .ne 11, 3) := by decide +kernel
theorem dX8_move_38 : decode cX8_move 38 = .ok (.aload 7, 2) := by decide +kernel
theorem dX8_move_40 : decode cX8_move 40 = .ok (.invokevirtual 220, 3) := by decide +kernel
theorem dX8_move_43 : decode cX8_move 43 = .ok (.ifCond .eq 9, 3) := by decide +kernel
theorem dX8_move_46 : decode cX8_move 46 = .ok (.aload_n 0, 1) := by decide +kernel
theorem dX8_move_47 : decode cX8_move 47 = .ok (.iconst 2, 1) := by decide +kernel
theorem dX8_move_48 : decode cX8_move 48 = .ok (.invokevirtual 84, 3) := by decide +kernel
theorem dX8_move_51 : decode cX8_move 51 = .ok (.ireturn, 1) := by decide +kernel
theorem dX8_move_52 : decode cX8_move 52 = .ok (.aload 6, 2) := by decide +kernel
theorem dX8_move_54 : decode cX8_move 54 = .ok (.getfield 251, 3) := by decide +kernel
theorem dX8_move_57 : decode cX8_move 57 = .ok (.aload 7, 2) := by decide +kernel
theorem dX8_move_59 : decode cX8_move 59 = .ok (.getfield 251, 3) := by decide +kernel
theorem dX8_move_62 : decode cX8_move 62 = .ok (.if_icmp .eq 9, 3) := by decide +kernel
theorem dX8_move_65 : decode cX8_move 65 = .ok (.aload_n 0, 1) := by decide +kernel
theorem dX8_move_66 : decode cX8_move 66 = .ok (.iconst 5, 1) := by decide +kernel
theorem dX8_move_67 : decode cX8_move 67 = .ok (.invokevirtual 84, 3) := by decide +kernel
theorem dX8_move_70 : decode cX8_move 70 = .ok (.ireturn, 1) := by decide +kernel
theorem dX8_move_71 : decode cX8_move 71 = .ok (.aload 6, 2) := by decide +kernel
theorem dX8_move_73 : decode cX8_move 73 = .ok (.iload_n 2, 1) := by decide +kernel
theorem dX8_move_74 : decode cX8_move 74 = .ok (.iload 5, 2) := by decide +kernel
theorem dX8_move_76 : decode cX8_move 76 = .ok (.invokevirtual 254, 3) := by decide +kernel
theorem dX8_move_79 : decode cX8_move 79 = .ok (.ifCond .eq 15, 3) := by decide +kernel
theorem dX8_move_82 : decode cX8_move 82 = .ok (.aload 7, 2) := by decide +kernel
theorem dX8_move_84 : decode cX8_move 84 = .ok (.iload 4, 2) := by decide +kernel
theorem dX8_move_86 : decode cX8_move 86 = .ok (.iload 5, 2) := by decide +kernel
theorem dX8_move_88 : decode cX8_move 88 = .ok (.invokevirtual 254, 3) := by decide +kernel
theorem dX8_move_91 : decode cX8_move 91 = .ok (.ifCond .ne 9, 3) := by decide +kernel
theorem dX8_move_94 : decode cX8_move 94 = .ok (.aload_n 0, 1) := by decide +kernel
theorem dX8_move_95 : decode cX8_move 95 = .ok (.iconst 1, 1) := by decide +kernel
theorem dX8_move_96 : decode cX8_move 96 = .ok (.invokevirtual 84, 3) := by decide +kernel
theorem dX8_move_99 : decode cX8_move 99 = .ok (.ireturn, 1) := by decide +kernel
theorem dX8_move_100 : decode cX8_move 100 = .ok (.aload 7, 2) := by decide +kernel
theorem dX8_move_102 : decode cX8_move 102 = .ok (.aload 6, 2) := by decide +kernel
theorem dX8_move_104 : decode cX8_move 104 = .ok (.iload_n 2, 1) := by decide +kernel
theorem dX8_move_105 : decode cX8_move 105 = .ok (.iload 4, 2) := by decide +kernel
theorem dX8_move_107 : decode cX8_move 107 = .ok (.iload 5, 2) := by decide +kernel
theorem dX8_move_109 : decode cX8_move 109 = .ok (.invokevirtual 258, 3) := by decide +kernel
theorem dX8_move_112 : decode cX8_move 112 = .ok (.iload 5, 2) := by decide +kernel
theorem dX8_move_114 : decode cX8_move 114 = .ok (.ireturn, 1) := by decide +kernel
theorem dX8_dears_0 : decode cX8_dears 0 = .ok (.aload_n 0, 1) := by decide +kernel
theorem dX8_dears_1 : decode cX8_dears 1 = .ok (.iload_n 1, 1) := by decide +kernel
theorem dX8_dears_2 : decode cX8_dears 2 = .ok (.invokevirtual 216, 3) := by decide +kernel
theorem dX8_dears_5 : decode cX8_dears 5 = .ok (.astore_n 2, 1) := by decide +kernel
theorem dX8_dears_6 : decode cX8_dears 6 = .ok (.aload_n 2, 1) := by decide +kernel
theorem dX8_dears_7 : decode cX8_dears 7 = .ok (.ifnonnull 9, 3) := by decide +kernel
theorem dX8_dears_10 : decode cX8_dears 10 = .ok (.aload_n 0, 1) := by decide +kernel
theorem dX8_dears_11 : decode cX8_dears 11 = .ok (.iconst 1, 1) := by decide +kernel
theorem dX8_dears_12 : decode cX8_dears 12 = .ok (.invokevirtual 84, 3) := by decide +kernel
theorem dX8_dears_15 : decode cX8_dears 15 = .ok (.ireturn, 1) := by decide +kernel
theorem dX8_dears_16 : decode cX8_dears 16 = .ok (.aload_n 2, 1) := by decide +kernel
theorem dX8_dears_17 : decode cX8_dears 17 = .ok (.invokevirtual 220, 3) := by decide +kernel
theorem dX8_dears_20 : decode cX8_dears 20 = .ok (.ifCond .eq 9, 3) := by decide +kernel
theorem dX8_dears_23 : decode cX8_dears 23 = .ok (.aload_n 0, 1) := by decide +kernel
theorem dX8_dears_24 : decode cX8_dears 24 = .ok (.iconst 2, 1) := by decide +kernel
theorem dX8_dears_25 : decode cX8_dears 25 = .ok (.invokevirtual 84, 3) := by decide +kernel
theorem dX8_dears_28 : decode cX8_dears 28 = .ok (.ireturn, 1) := by decide +kernel
theorem dX8_dears_29 : decode cX8_dears 29 = .ok (.iconst 0, 1) := by decide +kernel
theorem dX8_dears_30 : decode cX8_dears 30 = .ok (.istore_n 3, 1) := by decide +kernel
theorem dX8_dears_31 : decode cX8_dears 31 = .ok (.iload_n 3, 1) := by decide +kernel
theorem dX8_dears_32 : decode cX8_dears 32 = .ok (.bipush 24, 2) := by decide +kernel
theorem dX8_dears_34 : decode cX8_dears 34 = .ok (.if_icmp .ge 59, 3) := by decide +kernel
theorem dX8_dears_37 : decode cX8_dears 37 = .ok (.aload_n 2, 1) := by decide +kernel
theorem dX8_dears_38 : decode cX8_dears 38 = .ok (.iload_n 3, 1) := by decide +kernel
theorem dX8_dears_39 : decode cX8_dears 39 = .ok (.invokevirtual 247, 3) := by decide +kernel
theorem dX8_dears_42 : decode cX8_dears 42 = .ok (.ifCond .eq 51, 3) := by decide +kernel
theorem dX8_dears_45 : decode cX8_dears 45 = .ok (.aload_n 0, 1) := by decide +kernel
theorem dX8_dears_46 : decode cX8_dears 46 = .ok (.getfield 10, 3) := by decide +kernel
theorem dX8_dears_49 : decode cX8_dears 49 = .ok (.iload_n 3, 1) := by decide +kernel
theorem dX8_dears_50 : decode cX8_dears 50 = .ok (.invokevirtual 96, 3) := by decide +kernel
theorem dX8_dears_53 : decode cX8_dears 53 = .ok (.astore 4, 2) := by decide +kernel
theorem dX8_dears_55 : decode cX8_dears 55 = .ok (.aload 4, 2) := by decide +kernel
theorem dX8_dears_57 : decode cX8_dears 57 = .ok (.ifnull 36, 3) := by decide +kernel
theorem dX8_dears_60 : decode cX8_dears 60 = .ok (.aload_n 2, 1) := by decide +kernel
theorem dX8_dears_61 : decode cX8_dears 61 = .ok (.iload_n 3, 1) := by decide +kernel
theorem dX8_dears_62 : decode cX8_dears 62 = .ok (.invokevirtual 262, 3) := by decide +kernel
theorem dX8_dears_65 : decode cX8_dears 65 = .ok (.iconst 0, 1) := by decide +kernel
theorem dX8_dears_66 : decode cX8_dears 66 = .ok (.bipush 99, 2) := by decide +kernel
theorem dX8_dears_68 : decode cX8_dears 68 = .ok (.invokestatic 80, 3) := by decide +kernel
theorem dX8_dears_71 : decode cX8_dears 71 = .ok (.ifCond .ne 6, 3) := by decide +kernel
theorem dX8_dears_74 : decode cX8_dears 74 = .ok (.goto 19, 3) := by decide +kernel
theorem dX8_dears_77 : decode cX8_dears 77 = .ok (.aload 4, 2) := by decide +kernel
theorem dX8_dears_79 : decode cX8_dears 79 = .ok (.aload_n 2, 1) := by decide +kernel
theorem dX8_dears_80 : decode cX8_dears 80 = .ok (.iload_n 3, 1) := by decide +kernel
theorem dX8_dears_81 : decode cX8_dears 81 = .ok (.invokevirtual 262, 3) := by decide +kernel
theorem dX8_dears_84 : decode cX8_dears 84 = .ok (.putfield 114, 3) := by decide +kernel
theorem dX8_dears_87 : decode cX8_dears 87 = .ok (.iinc 3 1, 3) := by decide +kernel
theorem dX8_dears_90 : decode cX8_dears 90 = .ok (.goto (-59), 3) := by decide +kernel
theorem dX8_dears_93 : decode cX8_dears 93 = .ok (.iload_n 3, 1) := by decide +kernel
theorem dX8_dears_94 : decode cX8_dears 94 = .ok (.ireturn, 1) := by decide +kernel
theorem dX8_judge_0 : decode cX8_judge 0 = .ok (.aload_n 0, 1) := by decide +kernel
theorem dX8_judge_1 : decode cX8_judge 1 = .ok (.iload_n 1, 1) := by decide +kernel
theorem dX8_judge_2 : decode cX8_judge 2 = .ok (.invokevirtual 216, 3) := by decide +kernel
theorem dX8_judge_5 : decode cX8_judge 5 = .ok (.astore_n 2, 1) := by decide +kernel
theorem dX8_judge_6 : decode cX8_judge 6 = .ok (.aload_n 2, 1) := by decide +kernel
theorem dX8_judge_7 : decode cX8_judge 7 = .ok (.ifnonnull 9, 3) := by decide +kernel
theorem dX8_judge_10 : decode cX8_judge 10 = .ok (.aload_n 0, 1) := by decide +kernel
theorem dX8_judge_11 : decode cX8_judge 11 = .ok (.iconst 1, 1) := by decide +kernel
theorem dX8_judge_12 : decode cX8_judge 12 = .ok (.invokevirtual 84, 3) := by decide +kernel
theorem dX8_judge_15 : decode cX8_judge 15 = .ok (.ireturn, 1) := by decide +kernel
theorem dX8_judge_16 : decode cX8_judge 16 = .ok (.aload_n 2, 1) := by decide +kernel
theorem dX8_judge_17 : decode cX8_judge 17 = .ok (.invokevirtual 220, 3) := by decide +kernel
theorem dX8_judge_20 : decode cX8_judge 20 = .ok (.ifCond .eq 9, 3) := by decide +kernel
theorem dX8_judge_23 : decode cX8_judge 23 = .ok (.aload_n 0, 1) := by decide +kernel
theorem dX8_judge_24 : decode cX8_judge 24 = .ok (.iconst 2, 1) := by decide +kernel
theorem dX8_judge_25 : decode cX8_judge 25 = .ok (.invokevirtual 84, 3) := by decide +kernel
theorem dX8_judge_28 : decode cX8_judge 28 = .ok (.ireturn, 1) := by decide +kernel
theorem dX8_judge_29 : decode cX8_judge 29 = .ok (.iconst 0, 1) := by decide +kernel
theorem dX8_judge_30 : decode cX8_judge 30 = .ok (.istore_n 3, 1) := by decide +kernel
theorem dX8_judge_31 : decode cX8_judge 31 = .ok (.iload_n 3, 1) := by decide +kernel
theorem dX8_judge_32 : decode cX8_judge 32 = .ok (.bipush 24, 2) := by decide +kernel
theorem dX8_judge_34 : decode cX8_judge 34 = .ok (.if_icmp .ge 52, 3) := by decide +kernel
theorem dX8_judge_37 : decode cX8_judge 37 = .ok (.aload_n 2, 1) := by decide +kernel
theorem dX8_judge_38 : decode cX8_judge 38 = .ok (.iload_n 3, 1) := by decide +kernel
theorem dX8_judge_39 : decode cX8_judge 39 = .ok (.invokevirtual 247, 3) := by decide +kernel
theorem dX8_judge_42 : decode cX8_judge 42 = .ok (.ifCond .eq 44, 3) := by decide +kernel
theorem dX8_judge_45 : decode cX8_judge 45 = .ok (.aload_n 0, 1) := by decide +kernel
theorem dX8_judge_46 : decode cX8_judge 46 = .ok (.getfield 10, 3) := by decide +kernel
theorem dX8_judge_49 : decode cX8_judge 49 = .ok (.iload_n 3, 1) := by decide +kernel
theorem dX8_judge_50 : decode cX8_judge 50 = .ok (.invokevirtual 96, 3) := by decide +kernel
theorem dX8_judge_53 : decode cX8_judge 53 = .ok (.astore 4, 2) := by decide +kernel
theorem dX8_judge_55 : decode cX8_judge 55 = .ok (.aload 4, 2) := by decide +kernel
theorem dX8_judge_57 : decode cX8_judge 57 = .ok (.ifnull 29, 3) := by decide +kernel
theorem dX8_judge_60 : decode cX8_judge 60 = .ok (.aload_n 2, 1) := by decide +kernel
theorem dX8_judge_61 : decode cX8_judge 61 = .ok (.iload_n 3, 1) := by decide +kernel
theorem dX8_judge_62 : decode cX8_judge 62 = .ok (.invokevirtual 262, 3) := by decide +kernel
theorem dX8_judge_65 : decode cX8_judge 65 = .ok (.aload_n 0, 1) := by decide +kernel
theorem dX8_judge_66 : decode cX8_judge 66 = .ok (.getfield 10, 3) := by decide +kernel
theorem dX8_judge_69 : decode cX8_judge 69 = .ok (.aload 4, 2) := by decide +kernel
theorem dX8_judge_71 : decode cX8_judge 71 = .ok (.invokevirtual 117, 3) := by decide +kernel
theorem dX8_judge_74 : decode cX8_judge 74 = .ok (.if_icmp .eq 6, 3) := by decide +kernel
theorem dX8_judge_77 : decode cX8_judge 77 = .ok (.goto 9, 3) := by decide +kernel
theorem dX8_judge_80 : decode cX8_judge 80 = .ok (.iinc 3 1, 3) := by decide +kernel
theorem dX8_judge_83 : decode cX8_judge 83 = .ok (.goto (-52), 3) := by decide +kernel
theorem dX8_judge_86 : decode cX8_judge 86 = .ok (.iload_n 3, 1) := by decide +kernel
theorem dX8_judge_87 : decode cX8_judge 87 = .ok (.ireturn, 1) := by decide +kernel
theorem dX8_image_0 : decode cX8_image 0 = .ok (.aload_n 0, 1) := by decide +kernel
theorem dX8_image_1 : decode cX8_image 1 = .ok (.getfield 16, 3) := by decide +kernel
theorem dX8_image_4 : decode cX8_image 4 = .ok (.aload_n 0, 1) := by decide +kernel
theorem dX8_image_5 : decode cX8_image 5 = .ok (.getfield 10, 3) := by decide +kernel
theorem dX8_image_8 : decode cX8_image 8 = .ok (.invokevirtual 199, 3) := by decide +kernel
theorem dX8_image_11 : decode cX8_image 11 = .ok (.aload_n 0, 1) := by decide +kernel
theorem dX8_image_12 : decode cX8_image 12 = .ok (.getfield 38, 3) := by decide +kernel
theorem dX8_image_15 : decode cX8_image 15 = .ok (.aload_n 0, 1) := by decide +kernel
theorem dX8_image_16 : decode cX8_image 16 = .ok (.getfield 34, 3) := by decide +kernel
theorem dX8_image_19 : decode cX8_image 19 = .ok (.invokevirtual 263, 3) := by decide +kernel
theorem dX8_image_22 : decode cX8_image 22 = .ok (.aload_n 0, 1) := by decide +kernel
theorem dX8_image_23 : decode cX8_image 23 = .ok (.getfield 44, 3) := by decide +kernel
theorem dX8_image_26 : decode cX8_image 26 = .ok (.aload_n 0, 1) := by decide +kernel
theorem dX8_image_27 : decode cX8_image 27 = .ok (.getfield 41, 3) := by decide +kernel
theorem dX8_image_30 : decode cX8_image 30 = .ok (.invokevirtual 263, 3) := by decide +kernel
theorem dX8_image_33 : decode cX8_image 33 = .ok (.aload_n 0, 1) := by decide +kernel
theorem dX8_image_34 : decode cX8_image 34 = .ok (.dup, 1) := by decide +kernel
theorem dX8_image_35 : decode cX8_image 35 = .ok (.getfield 71, 3) := by decide +kernel
theorem dX8_image_38 : decode cX8_image 38 = .ok (.iconst 1, 1) := by decide +kernel
theorem dX8_image_39 : decode cX8_image 39 = .ok (.iadd, 1) := by decide +kernel
theorem dX8_image_40 : decode cX8_image 40 = .ok (.putfield 71, 3) := by decide +kernel
theorem dX8_image_43 : decode cX8_image 43 = .ok (.aload_n 0, 1) := by decide +kernel
theorem dX8_image_44 : decode cX8_image 44 = .ok (.getfield 71, 3) := by decide +kernel
theorem dX8_image_47 : decode cX8_image 47 = .ok (.ireturn, 1) := by decide +kernel
theorem dX8_restore_0 : decode cX8_restore 0 = .ok (.aload_n 0, 1) := by decide +kernel
theorem dX8_restore_1 : decode cX8_restore 1 = .ok (.getfield 71, 3) := by decide +kernel
theorem dX8_restore_4 : decode cX8_restore 4 = .ok (.ifCond .ne 9, 3) := by decide +kernel
theorem dX8_restore_7 : decode cX8_restore 7 = .ok (.aload_n 0, 1) := by decide +kernel
theorem dX8_restore_8 : decode cX8_restore 8 = .ok (.iconst 2, 1) := by decide +kernel
theorem dX8_restore_9 : decode cX8_restore 9 = .ok (.invokevirtual 84, 3) := by decide +kernel
theorem dX8_restore_12 : decode cX8_restore 12 = .ok (.ireturn, 1) := by decide +kernel
theorem dX8_restore_13 : decode cX8_restore 13 = .ok (.aload_n 0, 1) := by decide +kernel
theorem dX8_restore_14 : decode cX8_restore 14 = .ok (.getfield 10, 3) := by decide +kernel
theorem dX8_restore_17 : decode cX8_restore 17 = .ok (.aload_n 0, 1) := by decide +kernel
theorem dX8_restore_18 : decode cX8_restore 18 = .ok (.getfield 16, 3) := by decide +kernel
theorem dX8_restore_21 : decode cX8_restore 21 = .ok (.invokevirtual 199, 3) := by decide +kernel
theorem dX8_restore_24 : decode cX8_restore 24 = .ok (.aload_n 0, 1) := by decide +kernel
theorem dX8_restore_25 : decode cX8_restore 25 = .ok (.getfield 34, 3) := by decide +kernel
theorem dX8_restore_28 : decode cX8_restore 28 = .ok (.aload_n 0, 1) := by decide +kernel
theorem dX8_restore_29 : decode cX8_restore 29 = .ok (.getfield 38, 3) := by decide +kernel
theorem dX8_restore_32 : decode cX8_restore 32 = .ok (.invokevirtual 263, 3) := by decide +kernel
theorem dX8_restore_35 : decode cX8_restore 35 = .ok (.aload_n 0, 1) := by decide +kernel
theorem dX8_restore_36 : decode cX8_restore 36 = .ok (.getfield 41, 3) := by decide +kernel
theorem dX8_restore_39 : decode cX8_restore 39 = .ok (.aload_n 0, 1) := by decide +kernel
theorem dX8_restore_40 : decode cX8_restore 40 = .ok (.getfield 44, 3) := by decide +kernel
theorem dX8_restore_43 : decode cX8_restore 43 = .ok (.invokevirtual 263, 3) := by decide +kernel
theorem dX8_restore_46 : decode cX8_restore 46 = .ok (.aload_n 0, 1) := by decide +kernel
theorem dX8_restore_47 : decode cX8_restore 47 = .ok (.getfield 10, 3) := by decide +kernel
theorem dX8_restore_50 : decode cX8_restore 50 = .ok (.getfield 167, 3) := by decide +kernel
theorem dX8_restore_53 : decode cX8_restore 53 = .ok (.ireturn, 1) := by decide +kernel
theorem dX8_tell_0 : decode cX8_tell 0 = .ok (.aload_n 0, 1) := by decide +kernel
theorem dX8_tell_1 : decode cX8_tell 1 = .ok (.getfield 41, 3) := by decide +kernel
theorem dX8_tell_4 : decode cX8_tell 4 = .ok (.iload_n 1, 1) := by decide +kernel
theorem dX8_tell_5 : decode cX8_tell 5 = .ok (.invokevirtual 137, 3) := by decide +kernel
theorem dX8_tell_8 : decode cX8_tell 8 = .ok (.ifCond .ne 9, 3) := by decide +kernel
theorem dX8_tell_11 : decode cX8_tell 11 = .ok (.aload_n 0, 1) := by decide +kernel
theorem dX8_tell_12 : decode cX8_tell 12 = .ok (.iconst 4, 1) := by decide +kernel
theorem dX8_tell_13 : decode cX8_tell 13 = .ok (.invokevirtual 84, 3) := by decide +kernel
theorem dX8_tell_16 : decode cX8_tell 16 = .ok (.ireturn, 1) := by decide +kernel
theorem dX8_tell_17 : decode cX8_tell 17 = .ok (.aload_n 0, 1) := by decide +kernel
theorem dX8_tell_18 : decode cX8_tell 18 = .ok (.getfield 41, 3) := by decide +kernel
theorem dX8_tell_21 : decode cX8_tell 21 = .ok (.invokevirtual 133, 3) := by decide +kernel
theorem dX8_tell_24 : decode cX8_tell 24 = .ok (.ireturn, 1) := by decide +kernel
theorem dX8_check_0 : decode cX8_check 0 = .ok (.iconst 0, 1) := by decide +kernel
theorem dX8_check_1 : decode cX8_check 1 = .ok (.istore_n 1, 1) := by decide +kernel
theorem dX8_check_2 : decode cX8_check 2 = .ok (.iconst 0, 1) := by decide +kernel
theorem dX8_check_3 : decode cX8_check 3 = .ok (.istore_n 2, 1) := by decide +kernel
theorem dX8_check_4 : decode cX8_check 4 = .ok (.iload_n 2, 1) := by decide +kernel
theorem dX8_check_5 : decode cX8_check 5 = .ok (.aload_n 0, 1) := by decide +kernel
theorem dX8_check_6 : decode cX8_check 6 = .ok (.getfield 41, 3) := by decide +kernel
theorem dX8_check_9 : decode cX8_check 9 = .ok (.invokevirtual 133, 3) := by decide +kernel
theorem dX8_check_12 : decode cX8_check 12 = .ok (.if_icmp .ge 45, 3) := by decide +kernel
theorem dX8_check_15 : decode cX8_check 15 = .ok (.iload_n 1, 1) := by decide +kernel
theorem dX8_check_16 : decode cX8_check 16 = .ok (.ifCond .ne 41, 3) := by decide +kernel
theorem dX8_check_19 : decode cX8_check 19 = .ok (.aload_n 0, 1) := by decide +kernel
theorem dX8_check_20 : decode cX8_check 20 = .ok (.getfield 10, 3) := by decide +kernel
theorem dX8_check_23 : decode cX8_check 23 = .ok (.iload_n 2, 1) := by decide +kernel
theorem dX8_check_24 : decode cX8_check 24 = .ok (.invokevirtual 96, 3) := by decide +kernel
theorem dX8_check_27 : decode cX8_check 27 = .ok (.astore_n 3, 1) := by decide +kernel
theorem dX8_check_28 : decode cX8_check 28 = .ok (.aload_n 3, 1) := by decide +kernel
theorem dX8_check_29 : decode cX8_check 29 = .ok (.ifnull 18, 3) := by decide +kernel
theorem dX8_check_32 : decode cX8_check 32 = .ok (.aload_n 3, 1) := by decide +kernel
theorem dX8_check_33 : decode cX8_check 33 = .ok (.getfield 111, 3) := by decide +kernel
theorem dX8_check_36 : decode cX8_check 36 = .ok (.aload_n 0, 1) := by decide +kernel
theorem dX8_check_37 : decode cX8_check 37 = .ok (.getfield 41, 3) := by decide +kernel
theorem dX8_check_40 : decode cX8_check 40 = .ok (.iload_n 2, 1) := by decide +kernel
theorem dX8_check_41 : decode cX8_check 41 = .ok (.invokevirtual 241, 3) := by decide +kernel
theorem dX8_check_44 : decode cX8_check 44 = .ok (.if_icmp .eq 7, 3) := by decide +kernel
theorem dX8_check_47 : decode cX8_check 47 = .ok (.iconst 1, 1) := by decide +kernel
theorem dX8_check_48 : decode cX8_check 48 = .ok (.iload_n 2, 1) := by decide +kernel
theorem dX8_check_49 : decode cX8_check 49 = .ok (.iadd, 1) := by decide +kernel
theorem dX8_check_50 : decode cX8_check 50 = .ok (.istore_n 1, 1) := by decide +kernel
theorem dX8_check_51 : decode cX8_check 51 = .ok (.iinc 2 1, 3) := by decide +kernel
theorem dX8_check_54 : decode cX8_check 54 = .ok (.goto (-50), 3) := by decide +kernel
theorem dX8_check_57 : decode cX8_check 57 = .ok (.aload_n 0, 1) := by decide +kernel
theorem dX8_check_58 : decode cX8_check 58 = .ok (.getfield 41, 3) := by decide +kernel
theorem dX8_check_61 : decode cX8_check 61 = .ok (.invokevirtual 147, 3) := by decide +kernel
theorem dX8_check_64 : decode cX8_check 64 = .ok (.iload_n 1, 1) := by decide +kernel
theorem dX8_check_65 : decode cX8_check 65 = .ok (.ireturn, 1) := by decide +kernel
theorem dX8_count_0 : decode cX8_count 0 = .ok (.iload_n 1, 1) := by decide +kernel
theorem dX8_count_1 : decode cX8_count 1 = .ok (.tableswitch 114 0 7 #[47, 55, 63, 71, 79, 87, 95, 106], 47) := by decide +kernel
theorem dX8_count_48 : decode cX8_count 48 = .ok (.aload_n 0, 1) := by decide +kernel
theorem dX8_count_49 : decode cX8_count 49 = .ok (.getfield 10, 3) := by decide +kernel
theorem dX8_count_52 : decode cX8_count 52 = .ok (.getfield 202, 3) := by decide +kernel
theorem dX8_count_55 : decode cX8_count 55 = .ok (.ireturn, 1) := by decide +kernel
theorem dX8_count_56 : decode cX8_count 56 = .ok (.aload_n 0, 1) := by decide +kernel
theorem dX8_count_57 : decode cX8_count 57 = .ok (.getfield 10, 3) := by decide +kernel
theorem dX8_count_60 : decode cX8_count 60 = .ok (.getfield 121, 3) := by decide +kernel
theorem dX8_count_63 : decode cX8_count 63 = .ok (.ireturn, 1) := by decide +kernel
theorem dX8_count_64 : decode cX8_count 64 = .ok (.aload_n 0, 1) := by decide +kernel
theorem dX8_count_65 : decode cX8_count 65 = .ok (.getfield 10, 3) := by decide +kernel
theorem dX8_count_68 : decode cX8_count 68 = .ok (.getfield 167, 3) := by decide +kernel
theorem dX8_count_71 : decode cX8_count 71 = .ok (.ireturn, 1) := by decide +kernel
theorem dX8_count_72 : decode cX8_count 72 = .ok (.aload_n 0, 1) := by decide +kernel
theorem dX8_count_73 : decode cX8_count 73 = .ok (.getfield 10, 3) := by decide +kernel
theorem dX8_count_76 : decode cX8_count 76 = .ok (.getfield 266, 3) := by decide +kernel
theorem dX8_count_79 : decode cX8_count 79 = .ok (.ireturn, 1) := by decide +kernel
theorem dX8_count_80 : decode cX8_count 80 = .ok (.aload_n 0, 1) := by decide +kernel
theorem dX8_count_81 : decode cX8_count 81 = .ok (.getfield 34, 3) := by decide +kernel
theorem dX8_count_84 : decode cX8_count 84 = .ok (.invokevirtual 133, 3) := by decide +kernel
theorem dX8_count_87 : decode cX8_count 87 = .ok (.ireturn, 1) := by decide +kernel
theorem dX8_count_88 : decode cX8_count 88 = .ok (.aload_n 0, 1) := by decide +kernel
theorem dX8_count_89 : decode cX8_count 89 = .ok (.getfield 41, 3) := by decide +kernel
theorem dX8_count_92 : decode cX8_count 92 = .ok (.invokevirtual 133, 3) := by decide +kernel
theorem dX8_count_95 : decode cX8_count 95 = .ok (.ireturn, 1) := by decide +kernel
theorem dX8_count_96 : decode cX8_count 96 = .ok (.aload_n 0, 1) := by decide +kernel
theorem dX8_count_97 : decode cX8_count 97 = .ok (.getfield 57, 3) := by decide +kernel
theorem dX8_count_100 : decode cX8_count 100 = .ok (.getfield 235, 3) := by decide +kernel
theorem dX8_count_103 : decode cX8_count 103 = .ok (.invokevirtual 133, 3) := by decide +kernel
theorem dX8_count_106 : decode cX8_count 106 = .ok (.ireturn, 1) := by decide +kernel
theorem dX8_count_107 : decode cX8_count 107 = .ok (.aload_n 0, 1) := by decide +kernel
theorem dX8_count_108 : decode cX8_count 108 = .ok (.getfield 10, 3) := by decide +kernel
theorem dX8_count_111 : decode cX8_count 111 = .ok (.getfield 177, 3) := by decide +kernel
theorem dX8_count_114 : decode cX8_count 114 = .ok (.ireturn, 1) := by decide +kernel
theorem dX8_count_115 : decode cX8_count 115 = .ok (.aload_n 0, 1) := by decide +kernel
theorem dX8_count_116 : decode cX8_count 116 = .ok (.iconst 1, 1) := by decide +kernel
theorem dX8_count_117 : decode cX8_count 117 = .ok (.invokevirtual 84, 3) := by decide +kernel
theorem dX8_count_120 : decode cX8_count 120 = .ok (.ireturn, 1) := by decide +kernel
theorem dX8_told_0 : decode cX8_told 0 = .ok (.iload_n 1, 1) := by decide +kernel
theorem dX8_told_1 : decode cX8_told 1 = .ok (.iconst 1, 1) := by decide +kernel
theorem dX8_told_2 : decode cX8_told 2 = .ok (.bipush 6, 2) := by decide +kernel
theorem dX8_told_4 : decode cX8_told 4 = .ok (.invokestatic 80, 3) := by decide +kernel
theorem dX8_told_7 : decode cX8_told 7 = .ok (.ifCond .eq 12, 3) := by decide +kernel
theorem dX8_told_10 : decode cX8_told 10 = .ok (.aload_n 0, 1) := by decide +kernel
theorem dX8_told_11 : decode cX8_told 11 = .ok (.getfield 67, 3) := by decide +kernel
theorem dX8_told_14 : decode cX8_told 14 = .ok (.iload_n 1, 1) := by decide +kernel
theorem dX8_told_15 : decode cX8_told 15 = .ok (.iaload, 1) := by decide +kernel
theorem dX8_told_16 : decode cX8_told 16 = .ok (.goto 8, 3) := by decide +kernel
theorem dX8_told_19 : decode cX8_told 19 = .ok (.aload_n 0, 1) := by decide +kernel
theorem dX8_told_20 : decode cX8_told 20 = .ok (.iconst 1, 1) := by decide +kernel
theorem dX8_told_21 : decode cX8_told 21 = .ok (.invokevirtual 84, 3) := by decide +kernel
theorem dX8_told_24 : decode cX8_told 24 = .ok (.ireturn, 1) := by decide +kernel
theorem dX8_refuse_0 : decode cX8_refuse 0 = .ok (.iload_n 1, 1) := by decide +kernel
theorem dX8_refuse_1 : decode cX8_refuse 1 = .ok (.ifCond .lt 22, 3) := by decide +kernel
theorem dX8_refuse_4 : decode cX8_refuse 4 = .ok (.iload_n 1, 1) := by decide +kernel
theorem dX8_refuse_5 : decode cX8_refuse 5 = .ok (.aload_n 0, 1) := by decide +kernel
theorem dX8_refuse_6 : decode cX8_refuse 6 = .ok (.getfield 67, 3) := by decide +kernel
theorem dX8_refuse_9 : decode cX8_refuse 9 = .ok (.arraylength, 1) := by decide +kernel
theorem dX8_refuse_10 : decode cX8_refuse 10 = .ok (.if_icmp .ge 13, 3) := by decide +kernel
theorem dX8_refuse_13 : decode cX8_refuse 13 = .ok (.aload_n 0, 1) := by decide +kernel
theorem dX8_refuse_14 : decode cX8_refuse 14 = .ok (.getfield 67, 3) := by decide +kernel
theorem dX8_refuse_17 : decode cX8_refuse 17 = .ok (.iload_n 1, 1) := by decide +kernel
theorem dX8_refuse_18 : decode cX8_refuse 18 = .ok (.dup2, 1) := by decide +kernel
theorem dX8_refuse_19 : decode cX8_refuse 19 = .ok (.iaload, 1) := by decide +kernel
theorem dX8_refuse_20 : decode cX8_refuse 20 = .ok (.iconst 1, 1) := by decide +kernel
theorem dX8_refuse_21 : decode cX8_refuse 21 = .ok (.iadd, 1) := by decide +kernel
theorem dX8_refuse_22 : decode cX8_refuse 22 = .ok (.iastore, 1) := by decide +kernel
theorem dX8_refuse_23 : decode cX8_refuse 23 = .ok (.ldc_w 269, 3) := by decide +kernel
theorem dX8_refuse_26 : decode cX8_refuse 26 = .ok (.iload_n 1, 1) := by decide +kernel
theorem dX8_refuse_27 : decode cX8_refuse 27 = .ok (.isub, 1) := by decide +kernel
theorem dX8_refuse_28 : decode cX8_refuse 28 = .ok (.ireturn, 1) := by decide +kernel
theorem dX8_sheetAt_0 : decode cX8_sheetAt 0 = .ok (.iload_n 1, 1) := by decide +kernel
theorem dX8_sheetAt_1 : decode cX8_sheetAt 1 = .ok (.ifCond .lt 21, 3) := by decide +kernel
theorem dX8_sheetAt_4 : decode cX8_sheetAt 4 = .ok (.iload_n 1, 1) := by decide +kernel
theorem dX8_sheetAt_5 : decode cX8_sheetAt 5 = .ok (.aload_n 0, 1) := by decide +kernel
theorem dX8_sheetAt_6 : decode cX8_sheetAt 6 = .ok (.getfield 63, 3) := by decide +kernel
theorem dX8_sheetAt_9 : decode cX8_sheetAt 9 = .ok (.arraylength, 1) := by decide +kernel
theorem dX8_sheetAt_10 : decode cX8_sheetAt 10 = .ok (.if_icmp .ge 12, 3) := by decide +kernel
theorem dX8_sheetAt_13 : decode cX8_sheetAt 13 = .ok (.aload_n 0, 1) := by decide +kernel
theorem dX8_sheetAt_14 : decode cX8_sheetAt 14 = .ok (.getfield 63, 3) := by decide +kernel
theorem dX8_sheetAt_17 : decode cX8_sheetAt 17 = .ok (.iload_n 1, 1) := by decide +kernel
theorem dX8_sheetAt_18 : decode cX8_sheetAt 18 = .ok (.aaload, 1) := by decide +kernel
theorem dX8_sheetAt_19 : decode cX8_sheetAt 19 = .ok (.goto 4, 3) := by decide +kernel
theorem dX8_sheetAt_22 : decode cX8_sheetAt 22 = .ok (.aconst_null, 1) := by decide +kernel
theorem dX8_sheetAt_23 : decode cX8_sheetAt 23 = .ok (.areturn, 1) := by decide +kernel
theorem dX8_litNightsAhead_0 : decode cX8_litNightsAhead 0 = .ok (.aload_n 0, 1) := by decide +kernel
theorem dX8_litNightsAhead_1 : decode cX8_litNightsAhead 1 = .ok (.getfield 19, 3) := by decide +kernel
theorem dX8_litNightsAhead_4 : decode cX8_litNightsAhead 4 = .ok (.aload_n 0, 1) := by decide +kernel
theorem dX8_litNightsAhead_5 : decode cX8_litNightsAhead 5 = .ok (.getfield 10, 3) := by decide +kernel
theorem dX8_litNightsAhead_8 : decode cX8_litNightsAhead 8 = .ok (.invokevirtual 199, 3) := by decide +kernel
theorem dX8_litNightsAhead_11 : decode cX8_litNightsAhead 11 = .ok (.iconst 0, 1) := by decide +kernel
theorem dX8_litNightsAhead_12 : decode cX8_litNightsAhead 12 = .ok (.istore_n 2, 1) := by decide +kernel
theorem dX8_litNightsAhead_13 : decode cX8_litNightsAhead 13 = .ok (.iload_n 2, 1) := by decide +kernel
theorem dX8_litNightsAhead_14 : decode cX8_litNightsAhead 14 = .ok (.bipush 60, 2) := by decide +kernel
theorem dX8_litNightsAhead_16 : decode cX8_litNightsAhead 16 = .ok (.if_icmp .ge 24, 3) := by decide +kernel
theorem dX8_litNightsAhead_19 : decode cX8_litNightsAhead 19 = .ok (.aload_n 0, 1) := by decide +kernel
theorem dX8_litNightsAhead_20 : decode cX8_litNightsAhead 20 = .ok (.getfield 19, 3) := by decide +kernel
theorem dX8_litNightsAhead_23 : decode cX8_litNightsAhead 23 = .ok (.aload_n 0, 1) := by decide +kernel
theorem dX8_litNightsAhead_24 : decode cX8_litNightsAhead 24 = .ok (.getfield 25, 3) := by decide +kernel
theorem dX8_litNightsAhead_27 : decode cX8_litNightsAhead 27 = .ok (.iload_n 1, 1) := by decide +kernel
theorem dX8_litNightsAhead_28 : decode cX8_litNightsAhead 28 = .ok (.invokevirtual 170, 3) := by decide +kernel
theorem dX8_litNightsAhead_31 : decode cX8_litNightsAhead 31 = .ok (.ifCond .eq 9, 3) := by decide +kernel
theorem dX8_litNightsAhead_34 : decode cX8_litNightsAhead 34 = .ok (.iinc 2 1, 3) := by decide +kernel
theorem dX8_litNightsAhead_37 : decode cX8_litNightsAhead 37 = .ok (.goto (-24), 3) := by decide +kernel
theorem dX8_litNightsAhead_40 : decode cX8_litNightsAhead 40 = .ok (.iload_n 2, 1) := by decide +kernel
theorem dX8_litNightsAhead_41 : decode cX8_litNightsAhead 41 = .ok (.ireturn, 1) := by decide +kernel
theorem dX8_tellsWhatIsLeft_0 : decode cX8_tellsWhatIsLeft 0 = .ok (.iconst 0, 1) := by decide +kernel
theorem dX8_tellsWhatIsLeft_1 : decode cX8_tellsWhatIsLeft 1 = .ok (.istore_n 2, 1) := by decide +kernel
theorem dX8_tellsWhatIsLeft_2 : decode cX8_tellsWhatIsLeft 2 = .ok (.iload_n 2, 1) := by decide +kernel
theorem dX8_tellsWhatIsLeft_3 : decode cX8_tellsWhatIsLeft 3 = .ok (.bipush 24, 2) := by decide +kernel
theorem dX8_tellsWhatIsLeft_5 : decode cX8_tellsWhatIsLeft 5 = .ok (.if_icmp .ge 41, 3) := by decide +kernel
theorem dX8_tellsWhatIsLeft_8 : decode cX8_tellsWhatIsLeft 8 = .ok (.aload_n 0, 1) := by decide +kernel
theorem dX8_tellsWhatIsLeft_9 : decode cX8_tellsWhatIsLeft 9 = .ok (.iload_n 2, 1) := by decide +kernel
theorem dX8_tellsWhatIsLeft_10 : decode cX8_tellsWhatIsLeft 10 = .ok (.invokevirtual 247, 3) := by decide +kernel
theorem dX8_tellsWhatIsLeft_13 : decode cX8_tellsWhatIsLeft 13 = .ok (.ifCond .eq 33, 3) := by decide +kernel
theorem dX8_tellsWhatIsLeft_16 : decode cX8_tellsWhatIsLeft 16 = .ok (.aload_n 1, 1) := by decide +kernel
theorem dX8_tellsWhatIsLeft_17 : decode cX8_tellsWhatIsLeft 17 = .ok (.iload_n 2, 1) := by decide +kernel
theorem dX8_tellsWhatIsLeft_18 : decode cX8_tellsWhatIsLeft 18 = .ok (.invokevirtual 96, 3) := by decide +kernel
theorem dX8_tellsWhatIsLeft_21 : decode cX8_tellsWhatIsLeft 21 = .ok (.astore_n 3, 1) := by decide +kernel
theorem dX8_tellsWhatIsLeft_22 : decode cX8_tellsWhatIsLeft 22 = .ok (.aload_n 3, 1) := by decide +kernel
theorem dX8_tellsWhatIsLeft_23 : decode cX8_tellsWhatIsLeft 23 = .ok (.ifnull 15, 3) := by decide +kernel
theorem dX8_tellsWhatIsLeft_26 : decode cX8_tellsWhatIsLeft 26 = .ok (.aload_n 3, 1) := by decide +kernel
theorem dX8_tellsWhatIsLeft_27 : decode cX8_tellsWhatIsLeft 27 = .ok (.getfield 111, 3) := by decide +kernel
theorem dX8_tellsWhatIsLeft_30 : decode cX8_tellsWhatIsLeft 30 = .ok (.aload_n 0, 1) := by decide +kernel
theorem dX8_tellsWhatIsLeft_31 : decode cX8_tellsWhatIsLeft 31 = .ok (.iload_n 2, 1) := by decide +kernel
theorem dX8_tellsWhatIsLeft_32 : decode cX8_tellsWhatIsLeft 32 = .ok (.invokevirtual 262, 3) := by decide +kernel
theorem dX8_tellsWhatIsLeft_35 : decode cX8_tellsWhatIsLeft 35 = .ok (.if_icmp .eq 5, 3) := by decide +kernel
theorem dX8_tellsWhatIsLeft_38 : decode cX8_tellsWhatIsLeft 38 = .ok (.iconst 0, 1) := by decide +kernel
theorem dX8_tellsWhatIsLeft_39 : decode cX8_tellsWhatIsLeft 39 = .ok (.ireturn, 1) := by decide +kernel
theorem dX8_tellsWhatIsLeft_40 : decode cX8_tellsWhatIsLeft 40 = .ok (.iinc 2 1, 3) := by decide +kernel
theorem dX8_tellsWhatIsLeft_43 : decode cX8_tellsWhatIsLeft 43 = .ok (.goto (-41), 3) := by decide +kernel
theorem dX8_tellsWhatIsLeft_46 : decode cX8_tellsWhatIsLeft 46 = .ok (.iconst 1, 1) := by decide +kernel
theorem dX8_tellsWhatIsLeft_47 : decode cX8_tellsWhatIsLeft 47 = .ok (.ireturn, 1) := by decide +kernel
theorem dX8_inLowestTerms_0 : decode cX8_inLowestTerms 0 = .ok (.bipush 10, 2) := by decide +kernel
theorem dX8_inLowestTerms_2 : decode cX8_inLowestTerms 2 = .ok (.istore_n 2, 1) := by decide +kernel
theorem dX8_inLowestTerms_3 : decode cX8_inLowestTerms 3 = .ok (.iload_n 2, 1) := by decide +kernel
theorem dX8_inLowestTerms_4 : decode cX8_inLowestTerms 4 = .ok (.iconst 1, 1) := by decide +kernel
theorem dX8_inLowestTerms_5 : decode cX8_inLowestTerms 5 = .ok (.if_icmp .le 25, 3) := by decide +kernel
theorem dX8_inLowestTerms_8 : decode cX8_inLowestTerms 8 = .ok (.iload_n 0, 1) := by decide +kernel
theorem dX8_inLowestTerms_9 : decode cX8_inLowestTerms 9 = .ok (.iload_n 2, 1) := by decide +kernel
theorem dX8_inLowestTerms_10 : decode cX8_inLowestTerms 10 = .ok (.irem, 1) := by decide +kernel
theorem dX8_inLowestTerms_11 : decode cX8_inLowestTerms 11 = .ok (.ifCond .ne 13, 3) := by decide +kernel
theorem dX8_inLowestTerms_14 : decode cX8_inLowestTerms 14 = .ok (.iload_n 1, 1) := by decide +kernel
theorem dX8_inLowestTerms_15 : decode cX8_inLowestTerms 15 = .ok (.iload_n 2, 1) := by decide +kernel
theorem dX8_inLowestTerms_16 : decode cX8_inLowestTerms 16 = .ok (.irem, 1) := by decide +kernel
theorem dX8_inLowestTerms_17 : decode cX8_inLowestTerms 17 = .ok (.ifCond .ne 7, 3) := by decide +kernel
theorem dX8_inLowestTerms_20 : decode cX8_inLowestTerms 20 = .ok (.iload_n 0, 1) := by decide +kernel
theorem dX8_inLowestTerms_21 : decode cX8_inLowestTerms 21 = .ok (.iload_n 2, 1) := by decide +kernel
theorem dX8_inLowestTerms_22 : decode cX8_inLowestTerms 22 = .ok (.idiv, 1) := by decide +kernel
theorem dX8_inLowestTerms_23 : decode cX8_inLowestTerms 23 = .ok (.ireturn, 1) := by decide +kernel
theorem dX8_inLowestTerms_24 : decode cX8_inLowestTerms 24 = .ok (.iinc 2 (-1), 3) := by decide +kernel
theorem dX8_inLowestTerms_27 : decode cX8_inLowestTerms 27 = .ok (.goto (-24), 3) := by decide +kernel
theorem dX8_inLowestTerms_30 : decode cX8_inLowestTerms 30 = .ok (.iload_n 0, 1) := by decide +kernel
theorem dX8_inLowestTerms_31 : decode cX8_inLowestTerms 31 = .ok (.ireturn, 1) := by decide +kernel
theorem dX8_isWithin_0 : decode cX8_isWithin 0 = .ok (.iload_n 0, 1) := by decide +kernel
theorem dX8_isWithin_1 : decode cX8_isWithin 1 = .ok (.iload_n 1, 1) := by decide +kernel
theorem dX8_isWithin_2 : decode cX8_isWithin 2 = .ok (.if_icmp .lt 12, 3) := by decide +kernel
theorem dX8_isWithin_5 : decode cX8_isWithin 5 = .ok (.iload_n 0, 1) := by decide +kernel
theorem dX8_isWithin_6 : decode cX8_isWithin 6 = .ok (.iload_n 2, 1) := by decide +kernel
theorem dX8_isWithin_7 : decode cX8_isWithin 7 = .ok (.if_icmp .gt 7, 3) := by decide +kernel
theorem dX8_isWithin_10 : decode cX8_isWithin 10 = .ok (.iconst 1, 1) := by decide +kernel
theorem dX8_isWithin_11 : decode cX8_isWithin 11 = .ok (.goto 4, 3) := by decide +kernel
theorem dX8_isWithin_14 : decode cX8_isWithin 14 = .ok (.iconst 0, 1) := by decide +kernel
theorem dX8_isWithin_15 : decode cX8_isWithin 15 = .ok (.ireturn, 1) := by decide +kernel
theorem dX8_isKeeper_0 : decode cX8_isKeeper 0 = .ok (.iload_n 0, 1) := by decide +kernel
theorem dX8_isKeeper_1 : decode cX8_isKeeper 1 = .ok (.ifCond .lt 12, 3) := by decide +kernel
theorem dX8_isKeeper_4 : decode cX8_isKeeper 4 = .ok (.iload_n 0, 1) := by decide +kernel
theorem dX8_isKeeper_5 : decode cX8_isKeeper 5 = .ok (.iconst 4, 1) := by decide +kernel
theorem dX8_isKeeper_6 : decode cX8_isKeeper 6 = .ok (.if_icmp .ge 7, 3) := by decide +kernel
theorem dX8_isKeeper_9 : decode cX8_isKeeper 9 = .ok (.iconst 1, 1) := by decide +kernel
theorem dX8_isKeeper_10 : decode cX8_isKeeper 10 = .ok (.goto 4, 3) := by decide +kernel
theorem dX8_isKeeper_13 : decode cX8_isKeeper 13 = .ok (.iconst 0, 1) := by decide +kernel
theorem dX8_isKeeper_14 : decode cX8_isKeeper 14 = .ok (.ireturn, 1) := by decide +kernel
theorem dX8_isKindAndNumber_0 : decode cX8_isKindAndNumber 0 = .ok (.iload_n 0, 1) := by decide +kernel
theorem dX8_isKindAndNumber_1 : decode cX8_isKindAndNumber 1 = .ok (.ifCond .lt 13, 3) := by decide +kernel
theorem dX8_isKindAndNumber_4 : decode cX8_isKindAndNumber 4 = .ok (.iload_n 0, 1) := by decide +kernel
theorem dX8_isKindAndNumber_5 : decode cX8_isKindAndNumber 5 = .ok (.bipush 69, 2) := by decide +kernel
theorem dX8_isKindAndNumber_7 : decode cX8_isKindAndNumber 7 = .ok (.if_icmp .gt 7, 3) := by decide +kernel
theorem dX8_isKindAndNumber_10 : decode cX8_isKindAndNumber 10 = .ok (.iconst 1, 1) := by decide +kernel
theorem dX8_isKindAndNumber_11 : decode cX8_isKindAndNumber 11 = .ok (.goto 4, 3) := by decide +kernel
theorem dX8_isKindAndNumber_14 : decode cX8_isKindAndNumber 14 = .ok (.iconst 0, 1) := by decide +kernel
theorem dX8_isKindAndNumber_15 : decode cX8_isKindAndNumber 15 = .ok (.ireturn, 1) := by decide +kernel
theorem dX9_init_0 : decode cX9_init 0 = .ok (.aload_n 0, 1) := by decide +kernel
theorem dX9_init_1 : decode cX9_init 1 = .ok (.invokespecial 1, 3) := by decide +kernel
theorem dX9_init_4 : decode cX9_init 4 = .ok (.aload_n 0, 1) := by decide +kernel
theorem dX9_init_5 : decode cX9_init 5 = .ok (.sipush 387, 3) := by decide +kernel
theorem dX9_init_8 : decode cX9_init 8 = .ok (.newarray .int, 2) := by decide +kernel
theorem dX9_init_10 : decode cX9_init 10 = .ok (.putfield 7, 3) := by decide +kernel
theorem dX9_init_13 : decode cX9_init 13 = .ok (.aload_n 0, 1) := by decide +kernel
theorem dX9_init_14 : decode cX9_init 14 = .ok (.sipush 387, 3) := by decide +kernel
theorem dX9_init_17 : decode cX9_init 17 = .ok (.newarray .int, 2) := by decide +kernel
theorem dX9_init_19 : decode cX9_init 19 = .ok (.putfield 13, 3) := by decide +kernel
theorem dX9_init_22 : decode cX9_init 22 = .ok (.aload_n 0, 1) := by decide +kernel
theorem dX9_init_23 : decode cX9_init 23 = .ok (.bipush 53, 2) := by decide +kernel
theorem dX9_init_25 : decode cX9_init 25 = .ok (.newarray .int, 2) := by decide +kernel
theorem dX9_init_27 : decode cX9_init 27 = .ok (.putfield 16, 3) := by decide +kernel
theorem dX9_init_30 : decode cX9_init 30 = .ok (.aload_n 0, 1) := by decide +kernel
theorem dX9_init_31 : decode cX9_init 31 = .ok (.bipush 7, 2) := by decide +kernel
theorem dX9_init_33 : decode cX9_init 33 = .ok (.newarray .int, 2) := by decide +kernel
theorem dX9_init_35 : decode cX9_init 35 = .ok (.putfield 19, 3) := by decide +kernel
theorem dX9_init_38 : decode cX9_init 38 = .ok (.aload_n 0, 1) := by decide +kernel
theorem dX9_init_39 : decode cX9_init 39 = .ok (.iconst (-1), 1) := by decide +kernel
theorem dX9_init_40 : decode cX9_init 40 = .ok (.putfield 22, 3) := by decide +kernel
theorem dX9_init_43 : decode cX9_init 43 = .ok (.aload_n 0, 1) := by decide +kernel
theorem dX9_init_44 : decode cX9_init 44 = .ok (.bipush 124, 2) := by decide +kernel
theorem dX9_init_46 : decode cX9_init 46 = .ok (.newarray .int, 2) := by decide +kernel
theorem dX9_init_48 : decode cX9_init 48 = .ok (.putfield 26, 3) := by decide +kernel
theorem dX9_init_51 : decode cX9_init 51 = .ok (.aload_n 0, 1) := by decide +kernel
theorem dX9_init_52 : decode cX9_init 52 = .ok (.sipush 128, 3) := by decide +kernel
theorem dX9_init_55 : decode cX9_init 55 = .ok (.newarray .int, 2) := by decide +kernel
theorem dX9_init_57 : decode cX9_init 57 = .ok (.putfield 29, 3) := by decide +kernel
theorem dX9_init_60 : decode cX9_init 60 = .ok (.aload_n 0, 1) := by decide +kernel
theorem dX9_init_61 : decode cX9_init 61 = .ok (.bipush 64, 2) := by decide +kernel
theorem dX9_init_63 : decode cX9_init 63 = .ok (.newarray .int, 2) := by decide +kernel
theorem dX9_init_65 : decode cX9_init 65 = .ok (.putfield 32, 3) := by decide +kernel
theorem dX9_init_68 : decode cX9_init 68 = .ok (.aload_n 0, 1) := by decide +kernel
theorem dX9_init_69 : decode cX9_init 69 = .ok (.sipush 512, 3) := by decide +kernel
theorem dX9_init_72 : decode cX9_init 72 = .ok (.newarray .int, 2) := by decide +kernel
theorem dX9_init_74 : decode cX9_init 74 = .ok (.putfield 35, 3) := by decide +kernel
theorem dX9_init_77 : decode cX9_init 77 = .ok (.aload_n 0, 1) := by decide +kernel
theorem dX9_init_78 : decode cX9_init 78 = .ok (.sipush 512, 3) := by decide +kernel
theorem dX9_init_81 : decode cX9_init 81 = .ok (.newarray .int, 2) := by decide +kernel
theorem dX9_init_83 : decode cX9_init 83 = .ok (.putfield 38, 3) := by decide +kernel
theorem dX9_init_86 : decode cX9_init 86 = .ok (.aload_n 0, 1) := by decide +kernel
theorem dX9_init_87 : decode cX9_init 87 = .ok (.bipush 30, 2) := by decide +kernel
theorem dX9_init_89 : decode cX9_init 89 = .ok (.newarray .int, 2) := by decide +kernel
theorem dX9_init_91 : decode cX9_init 91 = .ok (.putfield 41, 3) := by decide +kernel
theorem dX9_init_94 : decode cX9_init 94 = .ok (.aload_n 0, 1) := by decide +kernel
theorem dX9_init_95 : decode cX9_init 95 = .ok (.iconst 4, 1) := by decide +kernel
theorem dX9_init_96 : decode cX9_init 96 = .ok (.newarray .int, 2) := by decide +kernel
theorem dX9_init_98 : decode cX9_init 98 = .ok (.putfield 44, 3) := by decide +kernel
theorem dX9_init_101 : decode cX9_init 101 = .ok (.aload_n 0, 1) := by decide +kernel
theorem dX9_init_102 : decode cX9_init 102 = .ok (.iconst 4, 1) := by decide +kernel
theorem dX9_init_103 : decode cX9_init 103 = .ok (.newarray .int, 2) := by decide +kernel
theorem dX9_init_105 : decode cX9_init 105 = .ok (.putfield 47, 3) := by decide +kernel
theorem dX9_init_108 : decode cX9_init 108 = .ok (.aload_n 0, 1) := by decide +kernel
theorem dX9_init_109 : decode cX9_init 109 = .ok (.bipush 96, 2) := by decide +kernel
theorem dX9_init_111 : decode cX9_init 111 = .ok (.newarray .int, 2) := by decide +kernel
theorem dX9_init_113 : decode cX9_init 113 = .ok (.putfield 50, 3) := by decide +kernel
theorem dX9_init_116 : decode cX9_init 116 = .ok (.aload_n 0, 1) := by decide +kernel
theorem dX9_init_117 : decode cX9_init 117 = .ok (.bipush 24, 2) := by decide +kernel
theorem dX9_init_119 : decode cX9_init 119 = .ok (.newarray .int, 2) := by decide +kernel
theorem dX9_init_121 : decode cX9_init 121 = .ok (.putfield 53, 3) := by decide +kernel
theorem dX9_init_124 : decode cX9_init 124 = .ok (.aload_n 0, 1) := by decide +kernel
theorem dX9_init_125 : decode cX9_init 125 = .ok (.getfield 7, 3) := by decide +kernel
theorem dX9_init_128 : decode cX9_init 128 = .ok (.iconst 3, 1) := by decide +kernel
theorem dX9_init_129 : decode cX9_init 129 = .ok (.iconst 1, 1) := by decide +kernel
theorem dX9_init_130 : decode cX9_init 130 = .ok (.iastore, 1) := by decide +kernel
theorem dX9_init_131 : decode cX9_init 131 = .ok (.return_, 1) := by decide +kernel
theorem dX9_error_0 : decode cX9_error 0 = .ok (.aload_n 0, 1) := by decide +kernel
theorem dX9_error_1 : decode cX9_error 1 = .ok (.getfield 19, 3) := by decide +kernel
theorem dX9_error_4 : decode cX9_error 4 = .ok (.iload_n 1, 1) := by decide +kernel
theorem dX9_error_5 : decode cX9_error 5 = .ok (.dup2, 1) := by decide +kernel
theorem dX9_error_6 : decode cX9_error 6 = .ok (.iaload, 1) := by decide +kernel
theorem dX9_error_7 : decode cX9_error 7 = .ok (.iconst 1, 1) := by decide +kernel
theorem dX9_error_8 : decode cX9_error 8 = .ok (.iadd, 1) := by decide +kernel
theorem dX9_error_9 : decode cX9_error 9 = .ok (.iastore, 1) := by decide +kernel
theorem dX9_error_10 : decode cX9_error 10 = .ok (.ldc 56, 2) := by decide +kernel
theorem dX9_error_12 : decode cX9_error 12 = .ok (.iload_n 1, 1) := by decide +kernel
theorem dX9_error_13 : decode cX9_error 13 = .ok (.isub, 1) := by decide +kernel
theorem dX9_error_14 : decode cX9_error 14 = .ok (.ireturn, 1) := by decide +kernel
theorem dX9_in_0 : decode cX9_in 0 = .ok (.iload_n 0, 1) := by decide +kernel
theorem dX9_in_1 : decode cX9_in 1 = .ok (.iload_n 1, 1) := by decide +kernel
theorem dX9_in_2 : decode cX9_in 2 = .ok (.if_icmp .lt 12, 3) := by decide +kernel
theorem dX9_in_5 : decode cX9_in 5 = .ok (.iload_n 0, 1) := by decide +kernel
theorem dX9_in_6 : decode cX9_in 6 = .ok (.iload_n 2, 1) := by decide +kernel
theorem dX9_in_7 : decode cX9_in 7 = .ok (.if_icmp .gt 7, 3) := by decide +kernel
theorem dX9_in_10 : decode cX9_in 10 = .ok (.iconst 1, 1) := by decide +kernel
theorem dX9_in_11 : decode cX9_in 11 = .ok (.goto 4, 3) := by decide +kernel
theorem dX9_in_14 : decode cX9_in 14 = .ok (.iconst 0, 1) := by decide +kernel
theorem dX9_in_15 : decode cX9_in 15 = .ok (.ireturn, 1) := by decide +kernel
theorem dX9_held_0 : decode cX9_held 0 = .ok (.iload_n 0, 1) := by decide +kernel
theorem dX9_held_1 : decode cX9_held 1 = .ok (.iload_n 1, 1) := by decide +kernel
theorem dX9_held_2 : decode cX9_held 2 = .ok (.if_icmp .ge 7, 3) := by decide +kernel
theorem dX9_held_5 : decode cX9_held 5 = .ok (.iload_n 1, 1) := by decide +kernel
theorem dX9_held_6 : decode cX9_held 6 = .ok (.goto 13, 3) := by decide +kernel
theorem dX9_held_9 : decode cX9_held 9 = .ok (.iload_n 0, 1) := by decide +kernel
theorem dX9_held_10 : decode cX9_held 10 = .ok (.iload_n 2, 1) := by decide +kernel
theorem dX9_held_11 : decode cX9_held 11 = .ok (.if_icmp .le 7, 3) := by decide +kernel
theorem dX9_held_14 : decode cX9_held 14 = .ok (.iload_n 2, 1) := by decide +kernel
theorem dX9_held_15 : decode cX9_held 15 = .ok (.goto 4, 3) := by decide +kernel
theorem dX9_held_18 : decode cX9_held 18 = .ok (.iload_n 0, 1) := by decide +kernel
theorem dX9_held_19 : decode cX9_held 19 = .ok (.ireturn, 1) := by decide +kernel
theorem dX9_copyAll_0 : decode cX9_copyAll 0 = .ok (.iconst 0, 1) := by decide +kernel
theorem dX9_copyAll_1 : decode cX9_copyAll 1 = .ok (.istore_n 2, 1) := by decide +kernel
theorem dX9_copyAll_2 : decode cX9_copyAll 2 = .ok (.iload_n 2, 1) := by decide +kernel
theorem dX9_copyAll_3 : decode cX9_copyAll 3 = .ok (.sipush 387, 3) := by decide +kernel
theorem dX9_copyAll_6 : decode cX9_copyAll 6 = .ok (.if_icmp .ge 15, 3) := by decide +kernel
theorem dX9_copyAll_9 : decode cX9_copyAll 9 = .ok (.aload_n 1, 1) := by decide +kernel
theorem dX9_copyAll_10 : decode cX9_copyAll 10 = .ok (.iload_n 2, 1) := by decide +kernel
theorem dX9_copyAll_11 : decode cX9_copyAll 11 = .ok (.aload_n 0, 1) := by decide +kernel
theorem dX9_copyAll_12 : decode cX9_copyAll 12 = .ok (.iload_n 2, 1) := by decide +kernel
theorem dX9_copyAll_13 : decode cX9_copyAll 13 = .ok (.iaload, 1) := by decide +kernel
theorem dX9_copyAll_14 : decode cX9_copyAll 14 = .ok (.iastore, 1) := by decide +kernel
theorem dX9_copyAll_15 : decode cX9_copyAll 15 = .ok (.iinc 2 1, 3) := by decide +kernel
theorem dX9_copyAll_18 : decode cX9_copyAll 18 = .ok (.goto (-16), 3) := by decide +kernel
theorem dX9_copyAll_21 : decode cX9_copyAll 21 = .ok (.return_, 1) := by decide +kernel
theorem dX9_layDown_0 : decode cX9_layDown 0 = .ok (.iconst 0, 1) := by decide +kernel
theorem dX9_layDown_1 : decode cX9_layDown 1 = .ok (.istore_n 1, 1) := by decide +kernel
theorem dX9_layDown_2 : decode cX9_layDown 2 = .ok (.iload_n 1, 1) := by decide +kernel
theorem dX9_layDown_3 : decode cX9_layDown 3 = .ok (.bipush 53, 2) := by decide +kernel
theorem dX9_layDown_5 : decode cX9_layDown 5 = .ok (.if_icmp .ge 21, 3) := by decide +kernel
theorem dX9_layDown_8 : decode cX9_layDown 8 = .ok (.aload_n 0, 1) := by decide +kernel
theorem dX9_layDown_9 : decode cX9_layDown 9 = .ok (.getfield 16, 3) := by decide +kernel
theorem dX9_layDown_12 : decode cX9_layDown 12 = .ok (.iload_n 1, 1) := by decide +kernel
theorem dX9_layDown_13 : decode cX9_layDown 13 = .ok (.aload_n 0, 1) := by decide +kernel
theorem dX9_layDown_14 : decode cX9_layDown 14 = .ok (.getfield 7, 3) := by decide +kernel
theorem dX9_layDown_17 : decode cX9_layDown 17 = .ok (.iload_n 1, 1) := by decide +kernel
theorem dX9_layDown_18 : decode cX9_layDown 18 = .ok (.iaload, 1) := by decide +kernel
theorem dX9_layDown_19 : decode cX9_layDown 19 = .ok (.iastore, 1) := by decide +kernel
theorem dX9_layDown_20 : decode cX9_layDown 20 = .ok (.iinc 1 1, 3) := by decide +kernel
theorem dX9_layDown_23 : decode cX9_layDown 23 = .ok (.goto (-21), 3) := by decide +kernel
theorem dX9_layDown_26 : decode cX9_layDown 26 = .ok (.return_, 1) := by decide +kernel
theorem dX9_layBack_0 : decode cX9_layBack 0 = .ok (.iconst 0, 1) := by decide +kernel
theorem dX9_layBack_1 : decode cX9_layBack 1 = .ok (.istore_n 1, 1) := by decide +kernel
theorem dX9_layBack_2 : decode cX9_layBack 2 = .ok (.iload_n 1, 1) := by decide +kernel
theorem dX9_layBack_3 : decode cX9_layBack 3 = .ok (.bipush 53, 2) := by decide +kernel
theorem dX9_layBack_5 : decode cX9_layBack 5 = .ok (.if_icmp .ge 21, 3) := by decide +kernel
theorem dX9_layBack_8 : decode cX9_layBack 8 = .ok (.aload_n 0, 1) := by decide +kernel
theorem dX9_layBack_9 : decode cX9_layBack 9 = .ok (.getfield 7, 3) := by decide +kernel
theorem dX9_layBack_12 : decode cX9_layBack 12 = .ok (.iload_n 1, 1) := by decide +kernel
theorem dX9_layBack_13 : decode cX9_layBack 13 = .ok (.aload_n 0, 1) := by decide +kernel
theorem dX9_layBack_14 : decode cX9_layBack 14 = .ok (.getfield 16, 3) := by decide +kernel
theorem dX9_layBack_17 : decode cX9_layBack 17 = .ok (.iload_n 1, 1) := by decide +kernel
theorem dX9_layBack_18 : decode cX9_layBack 18 = .ok (.iaload, 1) := by decide +kernel
theorem dX9_layBack_19 : decode cX9_layBack 19 = .ok (.iastore, 1) := by decide +kernel
theorem dX9_layBack_20 : decode cX9_layBack 20 = .ok (.iinc 1 1, 3) := by decide +kernel
theorem dX9_layBack_23 : decode cX9_layBack 23 = .ok (.goto (-21), 3) := by decide +kernel
theorem dX9_layBack_26 : decode cX9_layBack 26 = .ok (.return_, 1) := by decide +kernel
theorem dX9_isMemory_0 : decode cX9_isMemory 0 = .ok (.iload_n 1, 1) := by decide +kernel
theorem dX9_isMemory_1 : decode cX9_isMemory 1 = .ok (.iconst 0, 1) := by decide +kernel
theorem dX9_isMemory_2 : decode cX9_isMemory 2 = .ok (.aload_n 0, 1) := by decide +kernel
theorem dX9_isMemory_3 : decode cX9_isMemory 3 = .ok (.getfield 7, 3) := by decide +kernel
theorem dX9_isMemory_6 : decode cX9_isMemory 6 = .ok (.bipush 6, 2) := by decide +kernel
theorem dX9_isMemory_8 : decode cX9_isMemory 8 = .ok (.iaload, 1) := by decide +kernel
theorem dX9_isMemory_9 : decode cX9_isMemory 9 = .ok (.iconst 1, 1) := by decide +kernel
theorem dX9_isMemory_10 : decode cX9_isMemory 10 = .ok (.isub, 1) := by decide +kernel
theorem dX9_isMemory_11 : decode cX9_isMemory 11 = .ok (.invokestatic 57, 3) := by decide +kernel
theorem dX9_isMemory_14 : decode cX9_isMemory 14 = .ok (.ireturn, 1) := by decide +kernel
theorem dX9_isKeeper_0 : decode cX9_isKeeper 0 = .ok (.iload_n 0, 1) := by decide +kernel
theorem dX9_isKeeper_1 : decode cX9_isKeeper 1 = .ok (.iconst 0, 1) := by decide +kernel
theorem dX9_isKeeper_2 : decode cX9_isKeeper 2 = .ok (.iconst 3, 1) := by decide +kernel
theorem dX9_isKeeper_3 : decode cX9_isKeeper 3 = .ok (.invokestatic 57, 3) := by decide +kernel
theorem dX9_isKeeper_6 : decode cX9_isKeeper 6 = .ok (.ireturn, 1) := by decide +kernel
theorem dX9_its_0 : decode cX9_its 0 = .ok (.aload_n 0, 1) := by decide +kernel
theorem dX9_its_1 : decode cX9_its 1 = .ok (.getfield 7, 3) := by decide +kernel
theorem dX9_its_4 : decode cX9_its 4 = .ok (.bipush 8, 2) := by decide +kernel
theorem dX9_its_6 : decode cX9_its 6 = .ok (.iconst 5, 1) := by decide +kernel
theorem dX9_its_7 : decode cX9_its 7 = .ok (.iload_n 1, 1) := by decide +kernel
theorem dX9_its_8 : decode cX9_its 8 = .ok (.imul, 1) := by decide +kernel
theorem dX9_its_9 : decode cX9_its 9 = .ok (.iadd, 1) := by decide +kernel
theorem dX9_its_10 : decode cX9_its 10 = .ok (.iload_n 2, 1) := by decide +kernel
theorem dX9_its_11 : decode cX9_its 11 = .ok (.iadd, 1) := by decide +kernel
theorem dX9_its_12 : decode cX9_its 12 = .ok (.iaload, 1) := by decide +kernel
theorem dX9_its_13 : decode cX9_its 13 = .ok (.ireturn, 1) := by decide +kernel
theorem dX9_lays1_0 : decode cX9_lays1 0 = .ok (.aload_n 0, 1) := by decide +kernel
theorem dX9_lays1_1 : decode cX9_lays1 1 = .ok (.getfield 7, 3) := by decide +kernel
theorem dX9_lays1_4 : decode cX9_lays1 4 = .ok (.bipush 8, 2) := by decide +kernel
theorem dX9_lays1_6 : decode cX9_lays1 6 = .ok (.iconst 5, 1) := by decide +kernel
theorem dX9_lays1_7 : decode cX9_lays1 7 = .ok (.iload_n 1, 1) := by decide +kernel
theorem dX9_lays1_8 : decode cX9_lays1 8 = .ok (.imul, 1) := by decide +kernel
theorem dX9_lays1_9 : decode cX9_lays1 9 = .ok (.iadd, 1) := by decide +kernel
theorem dX9_lays1_10 : decode cX9_lays1 10 = .ok (.iload_n 2, 1) := by decide +kernel
theorem dX9_lays1_11 : decode cX9_lays1 11 = .ok (.iadd, 1) := by decide +kernel
theorem dX9_lays1_12 : decode cX9_lays1 12 = .ok (.iload_n 3, 1) := by decide +kernel
theorem dX9_lays1_13 : decode cX9_lays1 13 = .ok (.iastore, 1) := by decide +kernel
theorem dX9_lays1_14 : decode cX9_lays1 14 = .ok (.return_, 1) := by decide +kernel
theorem dX9_change1_0 : decode cX9_change1 0 = .ok (.aload_n 0, 1) := by decide +kernel
theorem dX9_change1_1 : decode cX9_change1 1 = .ok (.getfield 7, 3) := by decide +kernel
theorem dX9_change1_4 : decode cX9_change1 4 = .ok (.iload_n 1, 1) := by decide +kernel
theorem dX9_change1_5 : decode cX9_change1 5 = .ok (.iaload, 1) := by decide +kernel
theorem dX9_change1_6 : decode cX9_change1 6 = .ok (.istore_n 3, 1) := by decide +kernel
theorem dX9_change1_7 : decode cX9_change1 7 = .ok (.aload_n 0, 1) := by decide +kernel
theorem dX9_change1_8 : decode cX9_change1 8 = .ok (.getfield 7, 3) := by decide +kernel
theorem dX9_change1_11 : decode cX9_change1 11 = .ok (.iload_n 1, 1) := by decide +kernel
theorem dX9_change1_12 : decode cX9_change1 12 = .ok (.iload_n 2, 1) := by decide +kernel
theorem dX9_change1_13 : decode cX9_change1 13 = .ok (.iastore, 1) := by decide +kernel
theorem dX9_change1_14 : decode cX9_change1 14 = .ok (.iload_n 3, 1) := by decide +kernel
theorem dX9_change1_15 : decode cX9_change1 15 = .ok (.ireturn, 1) := by decide +kernel
theorem dX9_manyIn_0 : decode cX9_manyIn 0 = .ok (.iconst 0, 1) := by decide +kernel
theorem dX9_manyIn_1 : decode cX9_manyIn 1 = .ok (.istore_n 1, 1) := by decide +kernel
theorem dX9_manyIn_2 : decode cX9_manyIn 2 = .ok (.iconst 0, 1) := by decide +kernel
theorem dX9_manyIn_3 : decode cX9_manyIn 3 = .ok (.istore_n 2, 1) := by decide +kernel
theorem dX9_manyIn_4 : decode cX9_manyIn 4 = .ok (.iload_n 2, 1) := by decide +kernel
theorem dX9_manyIn_5 : decode cX9_manyIn 5 = .ok (.iconst 4, 1) := by decide +kernel
theorem dX9_manyIn_6 : decode cX9_manyIn 6 = .ok (.if_icmp .ge 17, 3) := by decide +kernel
theorem dX9_manyIn_9 : decode cX9_manyIn 9 = .ok (.iload_n 1, 1) := by decide +kernel
theorem dX9_manyIn_10 : decode cX9_manyIn 10 = .ok (.iload_n 0, 1) := by decide +kernel
theorem dX9_manyIn_11 : decode cX9_manyIn 11 = .ok (.iload_n 2, 1) := by decide +kernel
theorem dX9_manyIn_12 : decode cX9_manyIn 12 = .ok (.ishr, 1) := by decide +kernel
theorem dX9_manyIn_13 : decode cX9_manyIn 13 = .ok (.iconst 1, 1) := by decide +kernel
theorem dX9_manyIn_14 : decode cX9_manyIn 14 = .ok (.iand, 1) := by decide +kernel
theorem dX9_manyIn_15 : decode cX9_manyIn 15 = .ok (.iadd, 1) := by decide +kernel
theorem dX9_manyIn_16 : decode cX9_manyIn 16 = .ok (.istore_n 1, 1) := by decide +kernel
theorem dX9_manyIn_17 : decode cX9_manyIn 17 = .ok (.iinc 2 1, 3) := by decide +kernel
theorem dX9_manyIn_20 : decode cX9_manyIn 20 = .ok (.goto (-16), 3) := by decide +kernel
theorem dX9_manyIn_23 : decode cX9_manyIn 23 = .ok (.iload_n 1, 1) := by decide +kernel
theorem dX9_manyIn_24 : decode cX9_manyIn 24 = .ok (.ireturn, 1) := by decide +kernel
theorem dX9_feed_0 : decode cX9_feed 0 = .ok (.iload_n 3, 1) := by decide +kernel
theorem dX9_feed_1 : decode cX9_feed 1 = .ok (.iconst 1, 1) := by decide +kernel
theorem dX9_feed_2 : decode cX9_feed 2 = .ok (.bipush 8, 2) := by decide +kernel
theorem dX9_feed_4 : decode cX9_feed 4 = .ok (.invokestatic 57, 3) := by decide +kernel
theorem dX9_feed_7 : decode cX9_feed 7 = .ok (.ifCond .ne 9, 3) := by decide +kernel
theorem dX9_feed_10 : decode cX9_feed 10 = .ok (.aload_n 0, 1) := by decide +kernel
theorem dX9_feed_11 : decode cX9_feed 11 = .ok (.iconst 1, 1) := by decide +kernel
theorem dX9_feed_12 : decode cX9_feed 12 = .ok (.invokevirtual 61, 3) := by decide +kernel
theorem dX9_feed_15 : decode cX9_feed 15 = .ok (.ireturn, 1) := by decide +kernel
theorem dX9_feed_16 : decode cX9_feed 16 = .ok (.aload_n 0, 1) := by decide +kernel
theorem dX9_feed_17 : decode cX9_feed 17 = .ok (.getfield 7, 3) := by decide +kernel
theorem dX9_feed_20 : decode cX9_feed 20 = .ok (.iconst 4, 1) := by decide +kernel
theorem dX9_feed_21 : decode cX9_feed 21 = .ok (.iaload, 1) := by decide +kernel
theorem dX9_feed_22 : decode cX9_feed 22 = .ok (.iload_n 3, 1) := by decide +kernel
theorem dX9_feed_23 : decode cX9_feed 23 = .ok (.iadd, 1) := by decide +kernel
theorem dX9_feed_24 : decode cX9_feed 24 = .ok (.bipush 60, 2) := by decide +kernel
theorem dX9_feed_26 : decode cX9_feed 26 = .ok (.if_icmp .le 9, 3) := by decide +kernel
theorem dX9_feed_29 : decode cX9_feed 29 = .ok (.aload_n 0, 1) := by decide +kernel
theorem dX9_feed_30 : decode cX9_feed 30 = .ok (.iconst 4, 1) := by decide +kernel
theorem dX9_feed_31 : decode cX9_feed 31 = .ok (.invokevirtual 61, 3) := by decide +kernel
theorem dX9_feed_34 : decode cX9_feed 34 = .ok (.ireturn, 1) := by decide +kernel
theorem dX9_feed_35 : decode cX9_feed 35 = .ok (.iconst 0, 1) := by decide +kernel
theorem dX9_feed_36 : decode cX9_feed 36 = .ok (.istore 4, 2) := by decide +kernel
theorem dX9_feed_38 : decode cX9_feed 38 = .ok (.iload 4, 2) := by decide +kernel
theorem dX9_feed_40 : decode cX9_feed 40 = .ok (.iload_n 3, 1) := by decide +kernel
theorem dX9_feed_41 : decode cX9_feed 41 = .ok (.if_icmp .ge 46, 3) := by decide +kernel
theorem dX9_feed_44 : decode cX9_feed 44 = .ok (.aload_n 0, 1) := by decide +kernel
theorem dX9_feed_45 : decode cX9_feed 45 = .ok (.getfield 7, 3) := by decide +kernel
theorem dX9_feed_48 : decode cX9_feed 48 = .ok (.sipush 303, 3) := by decide +kernel
theorem dX9_feed_51 : decode cX9_feed 51 = .ok (.aload_n 0, 1) := by decide +kernel
theorem dX9_feed_52 : decode cX9_feed 52 = .ok (.getfield 7, 3) := by decide +kernel
theorem dX9_feed_55 : decode cX9_feed 55 = .ok (.iconst 4, 1) := by decide +kernel
theorem dX9_feed_56 : decode cX9_feed 56 = .ok (.iaload, 1) := by decide +kernel
theorem dX9_feed_57 : decode cX9_feed 57 = .ok (.iadd, 1) := by decide +kernel
theorem dX9_feed_58 : decode cX9_feed 58 = .ok (.lload_n 1, 1) := by decide +kernel
theorem dX9_feed_59 : decode cX9_feed 59 = .ok (.bipush 8, 2) := by decide +kernel
theorem dX9_feed_61 : decode cX9_feed 61 = .ok (.iload 4, 2) := by decide +kernel
theorem dX9_feed_63 : decode cX9_feed 63 = .ok (.imul, 1) := by decide +kernel
theorem dX9_feed_64 : decode cX9_feed 64 = .ok (.lshr, 1) := by decide +kernel
theorem dX9_feed_65 : decode cX9_feed 65 = .ok (.ldc2_w 65, 3) := by decide +kernel
theorem dX9_feed_68 : decode cX9_feed 68 = .ok (.land, 1) := by decide +kernel
theorem dX9_feed_69 : decode cX9_feed 69 = .ok (.l2i, 1) := by decide +kernel
theorem dX9_feed_70 : decode cX9_feed 70 = .ok (.iastore, 1) := by decide +kernel
theorem dX9_feed_71 : decode cX9_feed 71 = .ok (.aload_n 0, 1) := by decide +kernel
theorem dX9_feed_72 : decode cX9_feed 72 = .ok (.getfield 7, 3) := by decide +kernel
theorem dX9_feed_75 : decode cX9_feed 75 = .ok (.iconst 4, 1) := by decide +kernel
theorem dX9_feed_76 : decode cX9_feed 76 = .ok (.dup2, 1) := by decide +kernel
theorem dX9_feed_77 : decode cX9_feed 77 = .ok (.iaload, 1) := by decide +kernel
theorem dX9_feed_78 : decode cX9_feed 78 = .ok (.iconst 1, 1) := by decide +kernel
theorem dX9_feed_79 : decode cX9_feed 79 = .ok (.iadd, 1) := by decide +kernel
theorem dX9_feed_80 : decode cX9_feed 80 = .ok (.iastore, 1) := by decide +kernel
theorem dX9_feed_81 : decode cX9_feed 81 = .ok (.iinc 4 1, 3) := by decide +kernel
theorem dX9_feed_84 : decode cX9_feed 84 = .ok (.goto (-46), 3) := by decide +kernel
theorem dX9_feed_87 : decode cX9_feed 87 = .ok (.aload_n 0, 1) := by decide +kernel
theorem dX9_feed_88 : decode cX9_feed 88 = .ok (.getfield 7, 3) := by decide +kernel
theorem dX9_feed_91 : decode cX9_feed 91 = .ok (.iconst 4, 1) := by decide +kernel
theorem dX9_feed_92 : decode cX9_feed 92 = .ok (.iaload, 1) := by decide +kernel
theorem dX9_feed_93 : decode cX9_feed 93 = .ok (.ireturn, 1) := by decide +kernel
theorem dX9_look_0 : decode cX9_look 0 = .ok (.aload_n 0, 1) := by decide +kernel
theorem dX9_look_1 : decode cX9_look 1 = .ok (.getfield 67, 3) := by decide +kernel
theorem dX9_look_4 : decode cX9_look 4 = .ok (.aload_n 0, 1) := by decide +kernel
theorem dX9_look_5 : decode cX9_look 5 = .ok (.getfield 7, 3) := by decide +kernel
theorem dX9_look_8 : decode cX9_look 8 = .ok (.iconst 4, 1) := by decide +kernel
theorem dX9_look_9 : decode cX9_look 9 = .ok (.iaload, 1) := by decide +kernel
theorem dX9_look_10 : decode cX9_look 10 = .ok (.if_icmp .ge 19, 3) := by decide +kernel
theorem dX9_look_13 : decode cX9_look 13 = .ok (.aload_n 0, 1) := by decide +kernel
theorem dX9_look_14 : decode cX9_look 14 = .ok (.getfield 7, 3) := by decide +kernel
theorem dX9_look_17 : decode cX9_look 17 = .ok (.sipush 303, 3) := by decide +kernel
theorem dX9_look_20 : decode cX9_look 20 = .ok (.aload_n 0, 1) := by decide +kernel
theorem dX9_look_21 : decode cX9_look 21 = .ok (.getfield 67, 3) := by decide +kernel
theorem dX9_look_24 : decode cX9_look 24 = .ok (.iadd, 1) := by decide +kernel
theorem dX9_look_25 : decode cX9_look 25 = .ok (.iaload, 1) := by decide +kernel
theorem dX9_look_26 : decode cX9_look 26 = .ok (.goto 4, 3) := by decide +kernel
theorem dX9_look_29 : decode cX9_look 29 = .ok (.iconst (-1), 1) := by decide +kernel
theorem dX9_look_30 : decode cX9_look 30 = .ok (.ireturn, 1) := by decide +kernel
theorem dX9_isName_0 : decode cX9_isName 0 = .ok (.iload_n 1, 1) := by decide +kernel
theorem dX9_isName_1 : decode cX9_isName 1 = .ok (.aload_n 0, 1) := by decide +kernel
theorem dX9_isName_2 : decode cX9_isName 2 = .ok (.getfield 70, 3) := by decide +kernel
theorem dX9_isName_5 : decode cX9_isName 5 = .ok (.ifCond .ne 8, 3) := by decide +kernel
theorem dX9_isName_8 : decode cX9_isName 8 = .ok (.bipush 108, 2) := by decide +kernel
theorem dX9_isName_10 : decode cX9_isName 10 = .ok (.goto 5, 3) := by decide +kernel
theorem dX9_isName_13 : decode cX9_isName 13 = .ok (.bipush 119, 2) := by decide +kernel
theorem dX9_isName_15 : decode cX9_isName 15 = .ok (.if_icmp .ne 5, 3) := by decide +kernel
theorem dX9_isName_18 : decode cX9_isName 18 = .ok (.iconst 1, 1) := by decide +kernel
theorem dX9_isName_19 : decode cX9_isName 19 = .ok (.ireturn, 1) := by decide +kernel
theorem dX9_isName_20 : decode cX9_isName 20 = .ok (.aload_n 0, 1) := by decide +kernel
theorem dX9_isName_21 : decode cX9_isName 21 = .ok (.getfield 70, 3) := by decide +kernel
theorem dX9_isName_24 : decode cX9_isName 24 = .ok (.ifCond .ne 23, 3) := by decide +kernel
theorem dX9_isName_27 : decode cX9_isName 27 = .ok (.iload_n 1, 1) := by decide +kernel
theorem dX9_isName_28 : decode cX9_isName 28 = .ok (.bipush 111, 2) := by decide +kernel
theorem dX9_isName_30 : decode cX9_isName 30 = .ok (.if_icmp .eq 9, 3) := by decide +kernel
theorem dX9_isName_33 : decode cX9_isName 33 = .ok (.iload_n 1, 1) := by decide +kernel
theorem dX9_isName_34 : decode cX9_isName 34 = .ok (.bipush 110, 2) := by decide +kernel
theorem dX9_isName_36 : decode cX9_isName 36 = .ok (.if_icmp .ne 7, 3) := by decide +kernel
theorem dX9_isName_39 : decode cX9_isName 39 = .ok (.iconst 1, 1) := by decide +kernel
theorem dX9_isName_40 : decode cX9_isName 40 = .ok (.goto 24, 3) := by decide +kernel
theorem dX9_isName_43 : decode cX9_isName 43 = .ok (.iconst 0, 1) := by decide +kernel
theorem dX9_isName_44 : decode cX9_isName 44 = .ok (.goto 20, 3) := by decide +kernel
theorem dX9_isName_47 : decode cX9_isName 47 = .ok (.iload_n 1, 1) := by decide +kernel
theorem dX9_isName_48 : decode cX9_isName 48 = .ok (.bipush 100, 2) := by decide +kernel
theorem dX9_isName_50 : decode cX9_isName 50 = .ok (.if_icmp .eq 9, 3) := by decide +kernel
theorem dX9_isName_53 : decode cX9_isName 53 = .ok (.iload_n 1, 1) := by decide +kernel
theorem dX9_isName_54 : decode cX9_isName 54 = .ok (.bipush 107, 2) := by decide +kernel
theorem dX9_isName_56 : decode cX9_isName 56 = .ok (.if_icmp .ne 7, 3) := by decide +kernel
theorem dX9_isName_59 : decode cX9_isName 59 = .ok (.iconst 1, 1) := by decide +kernel
theorem dX9_isName_60 : decode cX9_isName 60 = .ok (.goto 4, 3) := by decide +kernel
theorem dX9_isName_63 : decode cX9_isName 63 = .ok (.iconst 0, 1) := by decide +kernel
theorem dX9_isName_64 : decode cX9_isName 64 = .ok (.ireturn, 1) := by decide +kernel
theorem dX9_step1_0 : decode cX9_step1 0 = .ok (.aload_n 0, 1) := by decide +kernel
theorem dX9_step1_1 : decode cX9_step1 1 = .ok (.getfield 26, 3) := by decide +kernel
theorem dX9_step1_4 : decode cX9_step1 4 = .ok (.iconst 2, 1) := by decide +kernel
theorem dX9_step1_5 : decode cX9_step1 5 = .ok (.aload_n 0, 1) := by decide +kernel
theorem dX9_step1_6 : decode cX9_step1 6 = .ok (.getfield 73, 3) := by decide +kernel
theorem dX9_step1_9 : decode cX9_step1 9 = .ok (.imul, 1) := by decide +kernel
theorem dX9_step1_10 : decode cX9_step1 10 = .ok (.iload_n 1, 1) := by decide +kernel
theorem dX9_step1_11 : decode cX9_step1 11 = .ok (.iastore, 1) := by decide +kernel
theorem dX9_step1_12 : decode cX9_step1 12 = .ok (.aload_n 0, 1) := by decide +kernel
theorem dX9_step1_13 : decode cX9_step1 13 = .ok (.getfield 26, 3) := by decide +kernel
theorem dX9_step1_16 : decode cX9_step1 16 = .ok (.iconst 2, 1) := by decide +kernel
theorem dX9_step1_17 : decode cX9_step1 17 = .ok (.aload_n 0, 1) := by decide +kernel
theorem dX9_step1_18 : decode cX9_step1 18 = .ok (.getfield 73, 3) := by decide +kernel
theorem dX9_step1_21 : decode cX9_step1 21 = .ok (.imul, 1) := by decide +kernel
theorem dX9_step1_22 : decode cX9_step1 22 = .ok (.iconst 1, 1) := by decide +kernel
theorem dX9_step1_23 : decode cX9_step1 23 = .ok (.iadd, 1) := by decide +kernel
theorem dX9_step1_24 : decode cX9_step1 24 = .ok (.iload_n 2, 1) := by decide +kernel
theorem dX9_step1_25 : decode cX9_step1 25 = .ok (.iastore, 1) := by decide +kernel
theorem dX9_step1_26 : decode cX9_step1 26 = .ok (.aload_n 0, 1) := by decide +kernel
theorem dX9_step1_27 : decode cX9_step1 27 = .ok (.dup, 1) := by decide +kernel
theorem dX9_step1_28 : decode cX9_step1 28 = .ok (.getfield 73, 3) := by decide +kernel
theorem dX9_step1_31 : decode cX9_step1 31 = .ok (.iconst 1, 1) := by decide +kernel
theorem dX9_step1_32 : decode cX9_step1 32 = .ok (.iadd, 1) := by decide +kernel
theorem dX9_step1_33 : decode cX9_step1 33 = .ok (.putfield 73, 3) := by decide +kernel
theorem dX9_step1_36 : decode cX9_step1 36 = .ok (.return_, 1) := by decide +kernel
theorem dX9_whole_0 : decode cX9_whole 0 = .ok (.aload_n 0, 1) := by decide +kernel
theorem dX9_whole_1 : decode cX9_whole 1 = .ok (.invokevirtual 76, 3) := by decide +kernel
theorem dX9_whole_4 : decode cX9_whole 4 = .ok (.ifCond .ne 5, 3) := by decide +kernel
theorem dX9_whole_7 : decode cX9_whole 7 = .ok (.iconst 0, 1) := by decide +kernel
theorem dX9_whole_8 : decode cX9_whole 8 = .ok (.ireturn, 1) := by decide +kernel
theorem dX9_whole_9 : decode cX9_whole 9 = .ok (.aload_n 0, 1) := by decide +kernel
theorem dX9_whole_10 : decode cX9_whole 10 = .ok (.invokevirtual 80, 3) := by decide +kernel
theorem dX9_whole_13 : decode cX9_whole 13 = .ok (.bipush 124, 2) := by decide +kernel
theorem dX9_whole_15 : decode cX9_whole 15 = .ok (.if_icmp .ne 32, 3) := by decide +kernel
theorem dX9_whole_18 : decode cX9_whole 18 = .ok (.aload_n 0, 1) := by decide +kernel
theorem dX9_whole_19 : decode cX9_whole 19 = .ok (.dup, 1) := by decide +kernel
theorem dX9_whole_20 : decode cX9_whole 20 = .ok (.getfield 67, 3) := by decide +kernel
theorem dX9_whole_23 : decode cX9_whole 23 = .ok (.iconst 1, 1) := by decide +kernel
theorem dX9_whole_24 : decode cX9_whole 24 = .ok (.iadd, 1) := by decide +kernel
theorem dX9_whole_25 : decode cX9_whole 25 = .ok (.putfield 67, 3) := by decide +kernel
theorem dX9_whole_28 : decode cX9_whole 28 = .ok (.aload_n 0, 1) := by decide +kernel
theorem dX9_whole_29 : decode cX9_whole 29 = .ok (.invokevirtual 76, 3) := by decide +kernel
theorem dX9_whole_32 : decode cX9_whole 32 = .ok (.ifCond .ne 5, 3) := by decide +kernel
theorem dX9_whole_35 : decode cX9_whole 35 = .ok (.iconst 0, 1) := by decide +kernel
theorem dX9_whole_36 : decode cX9_whole 36 = .ok (.ireturn, 1) := by decide +kernel
theorem dX9_whole_37 : decode cX9_whole 37 = .ok (.aload_n 0, 1) := by decide +kernel
theorem dX9_whole_38 : decode cX9_whole 38 = .ok (.iconst 3, 1) := by decide +kernel
theorem dX9_whole_39 : decode cX9_whole 39 = .ok (.bipush 124, 2) := by decide +kernel
theorem dX9_whole_41 : decode cX9_whole 41 = .ok (.invokevirtual 84, 3) := by decide +kernel
theorem dX9_whole_44 : decode cX9_whole 44 = .ok (.goto (-35), 3) := by decide +kernel
theorem dX9_whole_47 : decode cX9_whole 47 = .ok (.iconst 1, 1) := by decide +kernel
theorem dX9_whole_48 : decode cX9_whole 48 = .ok (.ireturn, 1) := by decide +kernel
theorem dX9_both_0 : decode cX9_both 0 = .ok (.aload_n 0, 1) := by decide +kernel
theorem dX9_both_1 : decode cX9_both 1 = .ok (.invokevirtual 88, 3) := by decide +kernel
theorem dX9_both_4 : decode cX9_both 4 = .ok (.ifCond .ne 5, 3) := by decide +kernel
theorem dX9_both_7 : decode cX9_both 7 = .ok (.iconst 0, 1) := by decide +kernel
theorem dX9_both_8 : decode cX9_both 8 = .ok (.ireturn, 1) := by decide +kernel
theorem dX9_both_9 : decode cX9_both 9 = .ok (.aload_n 0, 1) := by decide +kernel
theorem dX9_both_10 : decode cX9_both 10 = .ok (.invokevirtual 80, 3) := by decide +kernel
theorem dX9_both_13 : decode cX9_both 13 = .ok (.bipush 38, 2) := by decide +kernel
theorem dX9_both_15 : decode cX9_both 15 = .ok (.if_icmp .ne 32, 3) := by decide +kernel
theorem dX9_both_18 : decode cX9_both 18 = .ok (.aload_n 0, 1) := by decide +kernel
theorem dX9_both_19 : decode cX9_both 19 = .ok (.dup, 1) := by decide +kernel
theorem dX9_both_20 : decode cX9_both 20 = .ok (.getfield 67, 3) := by decide +kernel
theorem dX9_both_23 : decode cX9_both 23 = .ok (.iconst 1, 1) := by decide +kernel
theorem dX9_both_24 : decode cX9_both 24 = .ok (.iadd, 1) := by decide +kernel
theorem dX9_both_25 : decode cX9_both 25 = .ok (.putfield 67, 3) := by decide +kernel
theorem dX9_both_28 : decode cX9_both 28 = .ok (.aload_n 0, 1) := by decide +kernel
theorem dX9_both_29 : decode cX9_both 29 = .ok (.invokevirtual 88, 3) := by decide +kernel
theorem dX9_both_32 : decode cX9_both 32 = .ok (.ifCond .ne 5, 3) := by decide +kernel
theorem dX9_both_35 : decode cX9_both 35 = .ok (.iconst 0, 1) := by decide +kernel
theorem dX9_both_36 : decode cX9_both 36 = .ok (.ireturn, 1) := by decide +kernel
theorem dX9_both_37 : decode cX9_both 37 = .ok (.aload_n 0, 1) := by decide +kernel
theorem dX9_both_38 : decode cX9_both 38 = .ok (.iconst 3, 1) := by decide +kernel
theorem dX9_both_39 : decode cX9_both 39 = .ok (.bipush 38, 2) := by decide +kernel
theorem dX9_both_41 : decode cX9_both 41 = .ok (.invokevirtual 84, 3) := by decide +kernel
theorem dX9_both_44 : decode cX9_both 44 = .ok (.goto (-35), 3) := by decide +kernel
theorem dX9_both_47 : decode cX9_both 47 = .ok (.iconst 1, 1) := by decide +kernel
theorem dX9_both_48 : decode cX9_both 48 = .ok (.ireturn, 1) := by decide +kernel
theorem dX9_compared_0 : decode cX9_compared 0 = .ok (.aload_n 0, 1) := by decide +kernel
theorem dX9_compared_1 : decode cX9_compared 1 = .ok (.invokevirtual 91, 3) := by decide +kernel
theorem dX9_compared_4 : decode cX9_compared 4 = .ok (.ifCond .ne 5, 3) := by decide +kernel
theorem dX9_compared_7 : decode cX9_compared 7 = .ok (.iconst 0, 1) := by decide +kernel
theorem dX9_compared_8 : decode cX9_compared 8 = .ok (.ireturn, 1) := by decide +kernel
theorem dX9_compared_9 : decode cX9_compared 9 = .ok (.aload_n 0, 1) := by decide +kernel
theorem dX9_compared_10 : decode cX9_compared 10 = .ok (.invokevirtual 80, 3) := by decide +kernel
theorem dX9_compared_13 : decode cX9_compared 13 = .ok (.istore_n 1, 1) := by decide +kernel
theorem dX9_compared_14 : decode cX9_compared 14 = .ok (.iload_n 1, 1) := by decide +kernel
theorem dX9_compared_15 : decode cX9_compared 15 = .ok (.bipush 60, 2) := by decide +kernel
theorem dX9_compared_17 : decode cX9_compared 17 = .ok (.if_icmp .eq 17, 3) := by decide +kernel
theorem dX9_compared_20 : decode cX9_compared 20 = .ok (.iload_n 1, 1) := by decide +kernel
theorem dX9_compared_21 : decode cX9_compared 21 = .ok (.bipush 61, 2) := by decide +kernel
theorem dX9_compared_23 : decode cX9_compared 23 = .ok (.if_icmp .eq 11, 3) := by decide +kernel
theorem dX9_compared_26 : decode cX9_compared 26 = .ok (.iload_n 1, 1) := by decide +kernel
theorem dX9_compared_27 : decode cX9_compared 27 = .ok (.bipush 62, 2) := by decide +kernel
theorem dX9_compared_29 : decode cX9_compared 29 = .ok (.if_icmp .eq 5, 3) := by decide +kernel
theorem dX9_compared_32 : decode cX9_compared 32 = .ok (.iconst 1, 1) := by decide +kernel
theorem dX9_compared_33 : decode cX9_compared 33 = .ok (.ireturn, 1) := by decide +kernel
theorem dX9_compared_34 : decode cX9_compared 34 = .ok (.aload_n 0, 1) := by decide +kernel
theorem dX9_compared_35 : decode cX9_compared 35 = .ok (.dup, 1) := by decide +kernel
theorem dX9_compared_36 : decode cX9_compared 36 = .ok (.getfield 67, 3) := by decide +kernel
theorem dX9_compared_39 : decode cX9_compared 39 = .ok (.iconst 1, 1) := by decide +kernel
theorem dX9_compared_40 : decode cX9_compared 40 = .ok (.iadd, 1) := by decide +kernel
theorem dX9_compared_41 : decode cX9_compared 41 = .ok (.putfield 67, 3) := by decide +kernel
theorem dX9_compared_44 : decode cX9_compared 44 = .ok (.aload_n 0, 1) := by decide +kernel
theorem dX9_compared_45 : decode cX9_compared 45 = .ok (.invokevirtual 91, 3) := by decide +kernel
theorem dX9_compared_48 : decode cX9_compared 48 = .ok (.ifCond .ne 5, 3) := by decide +kernel
theorem dX9_compared_51 : decode cX9_compared 51 = .ok (.iconst 0, 1) := by decide +kernel
theorem dX9_compared_52 : decode cX9_compared 52 = .ok (.ireturn, 1) := by decide +kernel
theorem dX9_compared_53 : decode cX9_compared 53 = .ok (.aload_n 0, 1) := by decide +kernel
theorem dX9_compared_54 : decode cX9_compared 54 = .ok (.iconst 3, 1) := by decide +kernel
theorem dX9_compared_55 : decode cX9_compared 55 = .ok (.iload_n 1, 1) := by decide +kernel
theorem dX9_compared_56 : decode cX9_compared 56 = .ok (.invokevirtual 84, 3) := by decide +kernel
theorem dX9_compared_59 : decode cX9_compared 59 = .ok (.iconst 1, 1) := by decide +kernel
theorem dX9_compared_60 : decode cX9_compared 60 = .ok (.ireturn, 1) := by decide +kernel
theorem dX9_sum_0 : decode cX9_sum 0 = .ok (.aload_n 0, 1) := by decide +kernel
theorem dX9_sum_1 : decode cX9_sum 1 = .ok (.invokevirtual 94, 3) := by decide +kernel
theorem dX9_sum_4 : decode cX9_sum 4 = .ok (.ifCond .ne 5, 3) := by decide +kernel
theorem dX9_sum_7 : decode cX9_sum 7 = .ok (.iconst 0, 1) := by decide +kernel
theorem dX9_sum_8 : decode cX9_sum 8 = .ok (.ireturn, 1) := by decide +kernel
theorem dX9_sum_9 : decode cX9_sum 9 = .ok (.aload_n 0, 1) := by decide +kernel
theorem dX9_sum_10 : decode cX9_sum 10 = .ok (.invokevirtual 80, 3) := by decide +kernel
theorem dX9_sum_13 : decode cX9_sum 13 = .ok (.bipush 43, 2) := by decide +kernel
theorem dX9_sum_15 : decode cX9_sum 15 = .ok (.if_icmp .eq 12, 3) := by decide +kernel
theorem dX9_sum_18 : decode cX9_sum 18 = .ok (.aload_n 0, 1) := by decide +kernel
theorem dX9_sum_19 : decode cX9_sum 19 = .ok (.invokevirtual 80, 3) := by decide +kernel
theorem dX9_sum_22 : decode cX9_sum 22 = .ok (.bipush 45, 2) := by decide +kernel
theorem dX9_sum_24 : decode cX9_sum 24 = .ok (.if_icmp .ne 36, 3) := by decide +kernel
theorem dX9_sum_27 : decode cX9_sum 27 = .ok (.aload_n 0, 1) := by decide +kernel
theorem dX9_sum_28 : decode cX9_sum 28 = .ok (.invokevirtual 80, 3) := by decide +kernel
theorem dX9_sum_31 : decode cX9_sum 31 = .ok (.istore_n 1, 1) := by decide +kernel
theorem dX9_sum_32 : decode cX9_sum 32 = .ok (.aload_n 0, 1) := by decide +kernel
theorem dX9_sum_33 : decode cX9_sum 33 = .ok (.dup, 1) := by decide +kernel
theorem dX9_sum_34 : decode cX9_sum 34 = .ok (.getfield 67, 3) := by decide +kernel
theorem dX9_sum_37 : decode cX9_sum 37 = .ok (.iconst 1, 1) := by decide +kernel
theorem dX9_sum_38 : decode cX9_sum 38 = .ok (.iadd, 1) := by decide +kernel
theorem dX9_sum_39 : decode cX9_sum 39 = .ok (.putfield 67, 3) := by decide +kernel
theorem dX9_sum_42 : decode cX9_sum 42 = .ok (.aload_n 0, 1) := by decide +kernel
theorem dX9_sum_43 : decode cX9_sum 43 = .ok (.invokevirtual 94, 3) := by decide +kernel
theorem dX9_sum_46 : decode cX9_sum 46 = .ok (.ifCond .ne 5, 3) := by decide +kernel
theorem dX9_sum_49 : decode cX9_sum 49 = .ok (.iconst 0, 1) := by decide +kernel
theorem dX9_sum_50 : decode cX9_sum 50 = .ok (.ireturn, 1) := by decide +kernel
theorem dX9_sum_51 : decode cX9_sum 51 = .ok (.aload_n 0, 1) := by decide +kernel
theorem dX9_sum_52 : decode cX9_sum 52 = .ok (.iconst 3, 1) := by decide +kernel
theorem dX9_sum_53 : decode cX9_sum 53 = .ok (.iload_n 1, 1) := by decide +kernel
theorem dX9_sum_54 : decode cX9_sum 54 = .ok (.invokevirtual 84, 3) := by decide +kernel
theorem dX9_sum_57 : decode cX9_sum 57 = .ok (.goto (-48), 3) := by decide +kernel
theorem dX9_sum_60 : decode cX9_sum 60 = .ok (.iconst 1, 1) := by decide +kernel
theorem dX9_sum_61 : decode cX9_sum 61 = .ok (.ireturn, 1) := by decide +kernel
theorem dX9_product_0 : decode cX9_product 0 = .ok (.aload_n 0, 1) := by decide +kernel
theorem dX9_product_1 : decode cX9_product 1 = .ok (.invokevirtual 97, 3) := by decide +kernel
theorem dX9_product_4 : decode cX9_product 4 = .ok (.ifCond .ne 5, 3) := by decide +kernel
theorem dX9_product_7 : decode cX9_product 7 = .ok (.iconst 0, 1) := by decide +kernel
theorem dX9_product_8 : decode cX9_product 8 = .ok (.ireturn, 1) := by decide +kernel
theorem dX9_product_9 : decode cX9_product 9 = .ok (.aload_n 0, 1) := by decide +kernel
theorem dX9_product_10 : decode cX9_product 10 = .ok (.invokevirtual 80, 3) := by decide +kernel
theorem dX9_product_13 : decode cX9_product 13 = .ok (.bipush 42, 2) := by decide +kernel
theorem dX9_product_15 : decode cX9_product 15 = .ok (.if_icmp .eq 21, 3) := by decide +kernel
theorem dX9_product_18 : decode cX9_product 18 = .ok (.aload_n 0, 1) := by decide +kernel
theorem dX9_product_19 : decode cX9_product 19 = .ok (.invokevirtual 80, 3) := by decide +kernel
theorem dX9_product_22 : decode cX9_product 22 = .ok (.bipush 47, 2) := by decide +kernel
theorem dX9_product_24 : decode cX9_product 24 = .ok (.if_icmp .eq 12, 3) := by decide +kernel
theorem dX9_product_27 : decode cX9_product 27 = .ok (.aload_n 0, 1) := by decide +kernel
theorem dX9_product_28 : decode cX9_product 28 = .ok (.invokevirtual 80, 3) := by decide +kernel
theorem dX9_product_31 : decode cX9_product 31 = .ok (.bipush 37, 2) := by decide +kernel
theorem dX9_product_33 : decode cX9_product 33 = .ok (.if_icmp .ne 36, 3) := by decide +kernel
theorem dX9_product_36 : decode cX9_product 36 = .ok (.aload_n 0, 1) := by decide +kernel
theorem dX9_product_37 : decode cX9_product 37 = .ok (.invokevirtual 80, 3) := by decide +kernel
theorem dX9_product_40 : decode cX9_product 40 = .ok (.istore_n 1, 1) := by decide +kernel
theorem dX9_product_41 : decode cX9_product 41 = .ok (.aload_n 0, 1) := by decide +kernel
theorem dX9_product_42 : decode cX9_product 42 = .ok (.dup, 1) := by decide +kernel
theorem dX9_product_43 : decode cX9_product 43 = .ok (.getfield 67, 3) := by decide +kernel
theorem dX9_product_46 : decode cX9_product 46 = .ok (.iconst 1, 1) := by decide +kernel
theorem dX9_product_47 : decode cX9_product 47 = .ok (.iadd, 1) := by decide +kernel
theorem dX9_product_48 : decode cX9_product 48 = .ok (.putfield 67, 3) := by decide +kernel
theorem dX9_product_51 : decode cX9_product 51 = .ok (.aload_n 0, 1) := by decide +kernel
theorem dX9_product_52 : decode cX9_product 52 = .ok (.invokevirtual 97, 3) := by decide +kernel
theorem dX9_product_55 : decode cX9_product 55 = .ok (.ifCond .ne 5, 3) := by decide +kernel
theorem dX9_product_58 : decode cX9_product 58 = .ok (.iconst 0, 1) := by decide +kernel
theorem dX9_product_59 : decode cX9_product 59 = .ok (.ireturn, 1) := by decide +kernel
theorem dX9_product_60 : decode cX9_product 60 = .ok (.aload_n 0, 1) := by decide +kernel
theorem dX9_product_61 : decode cX9_product 61 = .ok (.iconst 3, 1) := by decide +kernel
theorem dX9_product_62 : decode cX9_product 62 = .ok (.iload_n 1, 1) := by decide +kernel
theorem dX9_product_63 : decode cX9_product 63 = .ok (.invokevirtual 84, 3) := by decide +kernel
theorem dX9_product_66 : decode cX9_product 66 = .ok (.goto (-57), 3) := by decide +kernel
theorem dX9_product_69 : decode cX9_product 69 = .ok (.iconst 1, 1) := by decide +kernel
theorem dX9_product_70 : decode cX9_product 70 = .ok (.ireturn, 1) := by decide +kernel
theorem dX9_opens_0 : decode cX9_opens 0 = .ok (.aload_n 0, 1) := by decide +kernel
theorem dX9_opens_1 : decode cX9_opens 1 = .ok (.getfield 100, 3) := by decide +kernel
theorem dX9_opens_4 : decode cX9_opens 4 = .ok (.iconst 5, 1) := by decide +kernel
theorem dX9_opens_5 : decode cX9_opens 5 = .ok (.if_icmp .ne 5, 3) := by decide +kernel
theorem dX9_opens_8 : decode cX9_opens 8 = .ok (.iconst 0, 1) := by decide +kernel
theorem dX9_opens_9 : decode cX9_opens 9 = .ok (.ireturn, 1) := by decide +kernel
theorem dX9_opens_10 : decode cX9_opens 10 = .ok (.aload_n 0, 1) := by decide +kernel
theorem dX9_opens_11 : decode cX9_opens 11 = .ok (.dup, 1) := by decide +kernel
theorem dX9_opens_12 : decode cX9_opens 12 = .ok (.getfield 100, 3) := by decide +kernel
theorem dX9_opens_15 : decode cX9_opens 15 = .ok (.iconst 1, 1) := by decide +kernel
theorem dX9_opens_16 : decode cX9_opens 16 = .ok (.iadd, 1) := by decide +kernel
theorem dX9_opens_17 : decode cX9_opens 17 = .ok (.putfield 100, 3) := by decide +kernel
theorem dX9_opens_20 : decode cX9_opens 20 = .ok (.aload_n 0, 1) := by decide +kernel
theorem dX9_opens_21 : decode cX9_opens 21 = .ok (.dup, 1) := by decide +kernel
theorem dX9_opens_22 : decode cX9_opens 22 = .ok (.getfield 67, 3) := by decide +kernel
theorem dX9_opens_25 : decode cX9_opens 25 = .ok (.iconst 1, 1) := by decide +kernel
theorem dX9_opens_26 : decode cX9_opens 26 = .ok (.iadd, 1) := by decide +kernel
theorem dX9_opens_27 : decode cX9_opens 27 = .ok (.putfield 67, 3) := by decide +kernel
theorem dX9_opens_30 : decode cX9_opens 30 = .ok (.iconst 1, 1) := by decide +kernel
theorem dX9_opens_31 : decode cX9_opens 31 = .ok (.ireturn, 1) := by decide +kernel
theorem dX9_one_0 : decode cX9_one 0 = .ok (.aload_n 0, 1) := by decide +kernel
theorem dX9_one_1 : decode cX9_one 1 = .ok (.invokevirtual 80, 3) := by decide +kernel
theorem dX9_one_4 : decode cX9_one 4 = .ok (.istore_n 1, 1) := by decide +kernel
theorem dX9_one_5 : decode cX9_one 5 = .ok (.aload_n 0, 1) := by decide +kernel
theorem dX9_one_6 : decode cX9_one 6 = .ok (.iload_n 1, 1) := by decide +kernel
theorem dX9_one_7 : decode cX9_one 7 = .ok (.invokevirtual 103, 3) := by decide +kernel
theorem dX9_one_10 : decode cX9_one 10 = .ok (.ifCond .eq 21, 3) := by decide +kernel
theorem dX9_one_13 : decode cX9_one 13 = .ok (.aload_n 0, 1) := by decide +kernel
theorem dX9_one_14 : decode cX9_one 14 = .ok (.dup, 1) := by decide +kernel
theorem dX9_one_15 : decode cX9_one 15 = .ok (.getfield 67, 3) := by decide +kernel
theorem dX9_one_18 : decode cX9_one 18 = .ok (.iconst 1, 1) := by decide +kernel
theorem dX9_one_19 : decode cX9_one 19 = .ok (.iadd, 1) := by decide +kernel
theorem dX9_one_20 : decode cX9_one 20 = .ok (.putfield 67, 3) := by decide +kernel
theorem dX9_one_23 : decode cX9_one 23 = .ok (.aload_n 0, 1) := by decide +kernel
theorem dX9_one_24 : decode cX9_one 24 = .ok (.iconst 1, 1) := by decide +kernel
theorem dX9_one_25 : decode cX9_one 25 = .ok (.iload_n 1, 1) := by decide +kernel
theorem dX9_one_26 : decode cX9_one 26 = .ok (.invokevirtual 84, 3) := by decide +kernel
theorem dX9_one_29 : decode cX9_one 29 = .ok (.iconst 1, 1) := by decide +kernel
theorem dX9_one_30 : decode cX9_one 30 = .ok (.ireturn, 1) := by decide +kernel
theorem dX9_one_31 : decode cX9_one 31 = .ok (.iload_n 1, 1) := by decide +kernel
theorem dX9_one_32 : decode cX9_one 32 = .ok (.bipush 48, 2) := by decide +kernel
theorem dX9_one_34 : decode cX9_one 34 = .ok (.bipush 57, 2) := by decide +kernel
theorem dX9_one_36 : decode cX9_one 36 = .ok (.invokestatic 57, 3) := by decide +kernel
theorem dX9_one_39 : decode cX9_one 39 = .ok (.ifCond .eq 63, 3) := by decide +kernel
theorem dX9_one_42 : decode cX9_one 42 = .ok (.iconst 0, 1) := by decide +kernel
theorem dX9_one_43 : decode cX9_one 43 = .ok (.istore_n 2, 1) := by decide +kernel
theorem dX9_one_44 : decode cX9_one 44 = .ok (.iconst 0, 1) := by decide +kernel
theorem dX9_one_45 : decode cX9_one 45 = .ok (.istore_n 3, 1) := by decide +kernel
theorem dX9_one_46 : decode cX9_one 46 = .ok (.iload_n 3, 1) := by decide +kernel
theorem dX9_one_47 : decode cX9_one 47 = .ok (.iconst 4, 1) := by decide +kernel
theorem dX9_one_48 : decode cX9_one 48 = .ok (.if_icmp .ge 46, 3) := by decide +kernel
theorem dX9_one_51 : decode cX9_one 51 = .ok (.aload_n 0, 1) := by decide +kernel
theorem dX9_one_52 : decode cX9_one 52 = .ok (.invokevirtual 80, 3) := by decide +kernel
theorem dX9_one_55 : decode cX9_one 55 = .ok (.bipush 48, 2) := by decide +kernel
theorem dX9_one_57 : decode cX9_one 57 = .ok (.bipush 57, 2) := by decide +kernel
theorem dX9_one_59 : decode cX9_one 59 = .ok (.invokestatic 57, 3) := by decide +kernel
theorem dX9_one_62 : decode cX9_one 62 = .ok (.ifCond .eq 32, 3) := by decide +kernel
theorem dX9_one_65 : decode cX9_one 65 = .ok (.bipush 10, 2) := by decide +kernel
theorem dX9_one_67 : decode cX9_one 67 = .ok (.iload_n 2, 1) := by decide +kernel
theorem dX9_one_68 : decode cX9_one 68 = .ok (.imul, 1) := by decide +kernel
theorem dX9_one_69 : decode cX9_one 69 = .ok (.aload_n 0, 1) := by decide +kernel
theorem dX9_one_70 : decode cX9_one 70 = .ok (.invokevirtual 80, 3) := by decide +kernel
theorem dX9_one_73 : decode cX9_one 73 = .ok (.iadd, 1) := by decide +kernel
theorem dX9_one_74 : decode cX9_one 74 = .ok (.bipush 48, 2) := by decide +kernel
theorem dX9_one_76 : decode cX9_one 76 = .ok (.isub, 1) := by decide +kernel
theorem dX9_one_77 : decode cX9_one 77 = .ok (.istore_n 2, 1) := by decide +kernel
theorem dX9_one_78 : decode cX9_one 78 = .ok (.aload_n 0, 1) := by decide +kernel
theorem dX9_one_79 : decode cX9_one 79 = .ok (.dup, 1) := by decide +kernel
theorem dX9_one_80 : decode cX9_one 80 = .ok (.getfield 67, 3) := by decide +kernel
theorem dX9_one_83 : decode cX9_one 83 = .ok (.iconst 1, 1) := by decide +kernel
theorem dX9_one_84 : decode cX9_one 84 = .ok (.iadd, 1) := by decide +kernel
theorem dX9_one_85 : decode cX9_one 85 = .ok (.putfield 67, 3) := by decide +kernel
theorem dX9_one_88 : decode cX9_one 88 = .ok (.iinc 3 1, 3) := by decide +kernel
theorem dX9_one_91 : decode cX9_one 91 = .ok (.goto (-45), 3) := by decide +kernel
theorem dX9_one_94 : decode cX9_one 94 = .ok (.aload_n 0, 1) := by decide +kernel
theorem dX9_one_95 : decode cX9_one 95 = .ok (.iconst 0, 1) := by decide +kernel
theorem dX9_one_96 : decode cX9_one 96 = .ok (.iload_n 2, 1) := by decide +kernel
theorem dX9_one_97 : decode cX9_one 97 = .ok (.invokevirtual 84, 3) := by decide +kernel
theorem dX9_one_100 : decode cX9_one 100 = .ok (.iconst 1, 1) := by decide +kernel
theorem dX9_one_101 : decode cX9_one 101 = .ok (.ireturn, 1) := by decide +kernel
theorem dX9_one_102 : decode cX9_one 102 = .ok (.iload_n 1, 1) := by decide +kernel
theorem dX9_one_103 : decode cX9_one 103 = .ok (.bipush 33, 2) := by decide +kernel
theorem dX9_one_105 : decode cX9_one 105 = .ok (.if_icmp .ne 37, 3) := by decide +kernel
theorem dX9_one_108 : decode cX9_one 108 = .ok (.aload_n 0, 1) := by decide +kernel
theorem dX9_one_109 : decode cX9_one 109 = .ok (.invokevirtual 107, 3) := by decide +kernel
theorem dX9_one_112 : decode cX9_one 112 = .ok (.ifCond .eq 10, 3) := by decide +kernel
theorem dX9_one_115 : decode cX9_one 115 = .ok (.aload_n 0, 1) := by decide +kernel
theorem dX9_one_116 : decode cX9_one 116 = .ok (.invokevirtual 97, 3) := by decide +kernel
theorem dX9_one_119 : decode cX9_one 119 = .ok (.ifCond .ne 5, 3) := by decide +kernel
theorem dX9_one_122 : decode cX9_one 122 = .ok (.iconst 0, 1) := by decide +kernel
theorem dX9_one_123 : decode cX9_one 123 = .ok (.ireturn, 1) := by decide +kernel
theorem dX9_one_124 : decode cX9_one 124 = .ok (.aload_n 0, 1) := by decide +kernel
theorem dX9_one_125 : decode cX9_one 125 = .ok (.dup, 1) := by decide +kernel
theorem dX9_one_126 : decode cX9_one 126 = .ok (.getfield 100, 3) := by decide +kernel
theorem dX9_one_129 : decode cX9_one 129 = .ok (.iconst 1, 1) := by decide +kernel
theorem dX9_one_130 : decode cX9_one 130 = .ok (.isub, 1) := by decide +kernel
theorem dX9_one_131 : decode cX9_one 131 = .ok (.putfield 100, 3) := by decide +kernel
theorem dX9_one_134 : decode cX9_one 134 = .ok (.aload_n 0, 1) := by decide +kernel
theorem dX9_one_135 : decode cX9_one 135 = .ok (.iconst 2, 1) := by decide +kernel
theorem dX9_one_136 : decode cX9_one 136 = .ok (.iconst 0, 1) := by decide +kernel
theorem dX9_one_137 : decode cX9_one 137 = .ok (.invokevirtual 84, 3) := by decide +kernel
theorem dX9_one_140 : decode cX9_one 140 = .ok (.iconst 1, 1) := by decide +kernel
theorem dX9_one_141 : decode cX9_one 141 = .ok (.ireturn, 1) := by decide +kernel
theorem dX9_one_142 : decode cX9_one 142 = .ok (.iload_n 1, 1) := by decide +kernel
theorem dX9_one_143 : decode cX9_one 143 = .ok (.bipush 40, 2) := by decide +kernel
theorem dX9_one_145 : decode cX9_one 145 = .ok (.if_icmp .ne 26, 3) := by decide +kernel
theorem dX9_one_148 : decode cX9_one 148 = .ok (.aload_n 0, 1) := by decide +kernel
theorem dX9_one_149 : decode cX9_one 149 = .ok (.invokevirtual 107, 3) := by decide +kernel
theorem dX9_one_152 : decode cX9_one 152 = .ok (.ifCond .eq 19, 3) := by decide +kernel
theorem dX9_one_155 : decode cX9_one 155 = .ok (.aload_n 0, 1) := by decide +kernel
theorem dX9_one_156 : decode cX9_one 156 = .ok (.invokevirtual 110, 3) := by decide +kernel
theorem dX9_one_159 : decode cX9_one 159 = .ok (.ifCond .eq 12, 3) := by decide +kernel
theorem dX9_one_162 : decode cX9_one 162 = .ok (.aload_n 0, 1) := by decide +kernel
theorem dX9_one_163 : decode cX9_one 163 = .ok (.invokevirtual 80, 3) := by decide +kernel
theorem dX9_one_166 : decode cX9_one 166 = .ok (.bipush 41, 2) := by decide +kernel
theorem dX9_one_168 : decode cX9_one 168 = .ok (.if_icmp .eq 5, 3) := by decide +kernel
theorem dX9_one_171 : decode cX9_one 171 = .ok (.iconst 0, 1) := by decide +kernel
theorem dX9_one_172 : decode cX9_one 172 = .ok (.ireturn, 1) := by decide +kernel
theorem dX9_one_173 : decode cX9_one 173 = .ok (.aload_n 0, 1) := by decide +kernel
theorem dX9_one_174 : decode cX9_one 174 = .ok (.dup, 1) := by decide +kernel
theorem dX9_one_175 : decode cX9_one 175 = .ok (.getfield 67, 3) := by decide +kernel
theorem dX9_one_178 : decode cX9_one 178 = .ok (.iconst 1, 1) := by decide +kernel
theorem dX9_one_179 : decode cX9_one 179 = .ok (.iadd, 1) := by decide +kernel
theorem dX9_one_180 : decode cX9_one 180 = .ok (.putfield 67, 3) := by decide +kernel
theorem dX9_one_183 : decode cX9_one 183 = .ok (.aload_n 0, 1) := by decide +kernel
theorem dX9_one_184 : decode cX9_one 184 = .ok (.dup, 1) := by decide +kernel
theorem dX9_one_185 : decode cX9_one 185 = .ok (.getfield 100, 3) := by decide +kernel
theorem dX9_one_188 : decode cX9_one 188 = .ok (.iconst 1, 1) := by decide +kernel
theorem dX9_one_189 : decode cX9_one 189 = .ok (.isub, 1) := by decide +kernel
theorem dX9_one_190 : decode cX9_one 190 = .ok (.putfield 100, 3) := by decide +kernel
theorem dX9_one_193 : decode cX9_one 193 = .ok (.iconst 1, 1) := by decide +kernel
theorem dX9_one_194 : decode cX9_one 194 = .ok (.ireturn, 1) := by decide +kernel
theorem dX9_hasText_0 : decode cX9_hasText 0 = .ok (.aload_n 0, 1) := by decide +kernel
theorem dX9_hasText_1 : decode cX9_hasText 1 = .ok (.getfield 7, 3) := by decide +kernel
theorem dX9_hasText_4 : decode cX9_hasText 4 = .ok (.bipush 53, 2) := by decide +kernel
theorem dX9_hasText_6 : decode cX9_hasText 6 = .ok (.bipush 125, 2) := by decide +kernel
theorem dX9_hasText_8 : decode cX9_hasText 8 = .ok (.iload_n 1, 1) := by decide +kernel
theorem dX9_hasText_9 : decode cX9_hasText 9 = .ok (.imul, 1) := by decide +kernel
theorem dX9_hasText_10 : decode cX9_hasText 10 = .ok (.iadd, 1) := by decide +kernel
theorem dX9_hasText_11 : decode cX9_hasText 11 = .ok (.iaload, 1) := by decide +kernel
theorem dX9_hasText_12 : decode cX9_hasText 12 = .ok (.ifCond .le 7, 3) := by decide +kernel
theorem dX9_hasText_15 : decode cX9_hasText 15 = .ok (.iconst 1, 1) := by decide +kernel
theorem dX9_hasText_16 : decode cX9_hasText 16 = .ok (.goto 4, 3) := by decide +kernel
theorem dX9_hasText_19 : decode cX9_hasText 19 = .ok (.iconst 0, 1) := by decide +kernel
theorem dX9_hasText_20 : decode cX9_hasText 20 = .ok (.ireturn, 1) := by decide +kernel
theorem dX9_text_0 : decode cX9_text 0 = .ok (.iload_n 1, 1) := by decide +kernel
theorem dX9_text_1 : decode cX9_text 1 = .ok (.iconst 0, 1) := by decide +kernel
theorem dX9_text_2 : decode cX9_text 2 = .ok (.iconst 1, 1) := by decide +kernel
theorem dX9_text_3 : decode cX9_text 3 = .ok (.invokestatic 57, 3) := by decide +kernel
theorem dX9_text_6 : decode cX9_text 6 = .ok (.ifCond .ne 9, 3) := by decide +kernel
theorem dX9_text_9 : decode cX9_text 9 = .ok (.aload_n 0, 1) := by decide +kernel
theorem dX9_text_10 : decode cX9_text 10 = .ok (.iconst 1, 1) := by decide +kernel
theorem dX9_text_11 : decode cX9_text 11 = .ok (.invokevirtual 61, 3) := by decide +kernel
theorem dX9_text_14 : decode cX9_text 14 = .ok (.ireturn, 1) := by decide +kernel
theorem dX9_text_15 : decode cX9_text 15 = .ok (.aload_n 0, 1) := by decide +kernel
theorem dX9_text_16 : decode cX9_text 16 = .ok (.iload_n 1, 1) := by decide +kernel
theorem dX9_text_17 : decode cX9_text 17 = .ok (.putfield 70, 3) := by decide +kernel
theorem dX9_text_20 : decode cX9_text 20 = .ok (.aload_n 0, 1) := by decide +kernel
theorem dX9_text_21 : decode cX9_text 21 = .ok (.iconst 0, 1) := by decide +kernel
theorem dX9_text_22 : decode cX9_text 22 = .ok (.putfield 67, 3) := by decide +kernel
theorem dX9_text_25 : decode cX9_text 25 = .ok (.aload_n 0, 1) := by decide +kernel
theorem dX9_text_26 : decode cX9_text 26 = .ok (.iconst 0, 1) := by decide +kernel
theorem dX9_text_27 : decode cX9_text 27 = .ok (.putfield 100, 3) := by decide +kernel
theorem dX9_text_30 : decode cX9_text 30 = .ok (.aload_n 0, 1) := by decide +kernel
theorem dX9_text_31 : decode cX9_text 31 = .ok (.iconst 0, 1) := by decide +kernel
theorem dX9_text_32 : decode cX9_text 32 = .ok (.putfield 73, 3) := by decide +kernel
theorem dX9_text_35 : decode cX9_text 35 = .ok (.aload_n 0, 1) := by decide +kernel
theorem dX9_text_36 : decode cX9_text 36 = .ok (.invokevirtual 110, 3) := by decide +kernel
theorem dX9_text_39 : decode cX9_text 39 = .ok (.ifCond .eq 20, 3) := by decide +kernel
theorem dX9_text_42 : decode cX9_text 42 = .ok (.aload_n 0, 1) := by decide +kernel
theorem dX9_text_43 : decode cX9_text 43 = .ok (.getfield 67, 3) := by decide +kernel
theorem dX9_text_46 : decode cX9_text 46 = .ok (.aload_n 0, 1) := by decide +kernel
theorem dX9_text_47 : decode cX9_text 47 = .ok (.getfield 7, 3) := by decide +kernel
theorem dX9_text_50 : decode cX9_text 50 = .ok (.iconst 4, 1) := by decide +kernel
theorem dX9_text_51 : decode cX9_text 51 = .ok (.iaload, 1) := by decide +kernel
theorem dX9_text_52 : decode cX9_text 52 = .ok (.if_icmp .ne 7, 3) := by decide +kernel
theorem dX9_text_55 : decode cX9_text 55 = .ok (.iconst 1, 1) := by decide +kernel
theorem dX9_text_56 : decode cX9_text 56 = .ok (.goto 4, 3) := by decide +kernel
theorem dX9_text_59 : decode cX9_text 59 = .ok (.iconst 0, 1) := by decide +kernel
theorem dX9_text_60 : decode cX9_text 60 = .ok (.istore_n 2, 1) := by decide +kernel
theorem dX9_text_61 : decode cX9_text 61 = .ok (.aload_n 0, 1) := by decide +kernel
theorem dX9_text_62 : decode cX9_text 62 = .ok (.getfield 7, 3) := by decide +kernel
theorem dX9_text_65 : decode cX9_text 65 = .ok (.iconst 4, 1) := by decide +kernel
theorem dX9_text_66 : decode cX9_text 66 = .ok (.iconst 0, 1) := by decide +kernel
theorem dX9_text_67 : decode cX9_text 67 = .ok (.iastore, 1) := by decide +kernel
theorem dX9_text_68 : decode cX9_text 68 = .ok (.iload_n 2, 1) := by decide +kernel
theorem dX9_text_69 : decode cX9_text 69 = .ok (.ifCond .ne 11, 3) := by decide +kernel
theorem dX9_text_72 : decode cX9_text 72 = .ok (.bipush (-10), 2) := by decide +kernel
theorem dX9_text_74 : decode cX9_text 74 = .ok (.aload_n 0, 1) := by decide +kernel
theorem dX9_text_75 : decode cX9_text 75 = .ok (.getfield 67, 3) := by decide +kernel
theorem dX9_text_78 : decode cX9_text 78 = .ok (.isub, 1) := by decide +kernel
theorem dX9_text_79 : decode cX9_text 79 = .ok (.ireturn, 1) := by decide +kernel
theorem dX9_text_80 : decode cX9_text 80 = .ok (.bipush 53, 2) := by decide +kernel
theorem dX9_text_82 : decode cX9_text 82 = .ok (.bipush 125, 2) := by decide +kernel
theorem dX9_text_84 : decode cX9_text 84 = .ok (.iload_n 1, 1) := by decide +kernel
theorem dX9_text_85 : decode cX9_text 85 = .ok (.imul, 1) := by decide +kernel
theorem dX9_text_86 : decode cX9_text 86 = .ok (.iadd, 1) := by decide +kernel
theorem dX9_text_87 : decode cX9_text 87 = .ok (.istore_n 3, 1) := by decide +kernel
theorem dX9_text_88 : decode cX9_text 88 = .ok (.aload_n 0, 1) := by decide +kernel
theorem dX9_text_89 : decode cX9_text 89 = .ok (.getfield 7, 3) := by decide +kernel
theorem dX9_text_92 : decode cX9_text 92 = .ok (.iload_n 3, 1) := by decide +kernel
theorem dX9_text_93 : decode cX9_text 93 = .ok (.aload_n 0, 1) := by decide +kernel
theorem dX9_text_94 : decode cX9_text 94 = .ok (.getfield 73, 3) := by decide +kernel
theorem dX9_text_97 : decode cX9_text 97 = .ok (.iastore, 1) := by decide +kernel
theorem dX9_text_98 : decode cX9_text 98 = .ok (.iconst 0, 1) := by decide +kernel
theorem dX9_text_99 : decode cX9_text 99 = .ok (.istore 4, 2) := by decide +kernel
theorem dX9_text_101 : decode cX9_text 101 = .ok (.iload 4, 2) := by decide +kernel
theorem dX9_text_103 : decode cX9_text 103 = .ok (.iconst 2, 1) := by decide +kernel
theorem dX9_text_104 : decode cX9_text 104 = .ok (.aload_n 0, 1) := by decide +kernel
theorem dX9_text_105 : decode cX9_text 105 = .ok (.getfield 73, 3) := by decide +kernel
theorem dX9_text_108 : decode cX9_text 108 = .ok (.imul, 1) := by decide +kernel
theorem dX9_text_109 : decode cX9_text 109 = .ok (.if_icmp .ge 27, 3) := by decide +kernel
theorem dX9_text_112 : decode cX9_text 112 = .ok (.aload_n 0, 1) := by decide +kernel
theorem dX9_text_113 : decode cX9_text 113 = .ok (.getfield 7, 3) := by decide +kernel
theorem dX9_text_116 : decode cX9_text 116 = .ok (.iload_n 3, 1) := by decide +kernel
theorem dX9_text_117 : decode cX9_text 117 = .ok (.iconst 1, 1) := by decide +kernel
theorem dX9_text_118 : decode cX9_text 118 = .ok (.iadd, 1) := by decide +kernel
theorem dX9_text_119 : decode cX9_text 119 = .ok (.iload 4, 2) := by decide +kernel
theorem dX9_text_121 : decode cX9_text 121 = .ok (.iadd, 1) := by decide +kernel
theorem dX9_text_122 : decode cX9_text 122 = .ok (.aload_n 0, 1) := by decide +kernel
theorem dX9_text_123 : decode cX9_text 123 = .ok (.getfield 26, 3) := by decide +kernel
theorem dX9_text_126 : decode cX9_text 126 = .ok (.iload 4, 2) := by decide +kernel
theorem dX9_text_128 : decode cX9_text 128 = .ok (.iaload, 1) := by decide +kernel
theorem dX9_text_129 : decode cX9_text 129 = .ok (.iastore, 1) := by decide +kernel
theorem dX9_text_130 : decode cX9_text 130 = .ok (.iinc 4 1, 3) := by decide +kernel
theorem dX9_text_133 : decode cX9_text 133 = .ok (.goto (-32), 3) := by decide +kernel
theorem dX9_text_136 : decode cX9_text 136 = .ok (.iconst 1, 1) := by decide +kernel
theorem dX9_text_137 : decode cX9_text 137 = .ok (.ireturn, 1) := by decide +kernel
theorem dX9_untell_0 : decode cX9_untell 0 = .ok (.iload_n 1, 1) := by decide +kernel
theorem dX9_untell_1 : decode cX9_untell 1 = .ok (.iconst 0, 1) := by decide +kernel
theorem dX9_untell_2 : decode cX9_untell 2 = .ok (.iconst 1, 1) := by decide +kernel
theorem dX9_untell_3 : decode cX9_untell 3 = .ok (.invokestatic 57, 3) := by decide +kernel
theorem dX9_untell_6 : decode cX9_untell 6 = .ok (.ifCond .ne 9, 3) := by decide +kernel
theorem dX9_untell_9 : decode cX9_untell 9 = .ok (.aload_n 0, 1) := by decide +kernel
theorem dX9_untell_10 : decode cX9_untell 10 = .ok (.iconst 1, 1) := by decide +kernel
theorem dX9_untell_11 : decode cX9_untell 11 = .ok (.invokevirtual 61, 3) := by decide +kernel
theorem dX9_untell_14 : decode cX9_untell 14 = .ok (.ireturn, 1) := by decide +kernel
theorem dX9_untell_15 : decode cX9_untell 15 = .ok (.aload_n 0, 1) := by decide +kernel
theorem dX9_untell_16 : decode cX9_untell 16 = .ok (.iload_n 1, 1) := by decide +kernel
theorem dX9_untell_17 : decode cX9_untell 17 = .ok (.invokevirtual 113, 3) := by decide +kernel
theorem dX9_untell_20 : decode cX9_untell 20 = .ok (.ifCond .eq 7, 3) := by decide +kernel
theorem dX9_untell_23 : decode cX9_untell 23 = .ok (.iconst 1, 1) := by decide +kernel
theorem dX9_untell_24 : decode cX9_untell 24 = .ok (.goto 4, 3) := by decide +kernel
theorem dX9_untell_27 : decode cX9_untell 27 = .ok (.iconst 0, 1) := by decide +kernel
theorem dX9_untell_28 : decode cX9_untell 28 = .ok (.istore_n 2, 1) := by decide +kernel
theorem dX9_untell_29 : decode cX9_untell 29 = .ok (.aload_n 0, 1) := by decide +kernel
theorem dX9_untell_30 : decode cX9_untell 30 = .ok (.getfield 7, 3) := by decide +kernel
theorem dX9_untell_33 : decode cX9_untell 33 = .ok (.bipush 53, 2) := by decide +kernel
theorem dX9_untell_35 : decode cX9_untell 35 = .ok (.bipush 125, 2) := by decide +kernel
theorem dX9_untell_37 : decode cX9_untell 37 = .ok (.iload_n 1, 1) := by decide +kernel
theorem dX9_untell_38 : decode cX9_untell 38 = .ok (.imul, 1) := by decide +kernel
theorem dX9_untell_39 : decode cX9_untell 39 = .ok (.iadd, 1) := by decide +kernel
theorem dX9_untell_40 : decode cX9_untell 40 = .ok (.iconst 0, 1) := by decide +kernel
theorem dX9_untell_41 : decode cX9_untell 41 = .ok (.iastore, 1) := by decide +kernel
theorem dX9_untell_42 : decode cX9_untell 42 = .ok (.iload_n 2, 1) := by decide +kernel
theorem dX9_untell_43 : decode cX9_untell 43 = .ok (.ireturn, 1) := by decide +kernel
theorem dX9_joined_0 : decode cX9_joined 0 = .ok (.iload_n 0, 1) := by decide +kernel
theorem dX9_joined_1 : decode cX9_joined 1 = .ok (.tableswitch 217 37 62 #[153, 203, 217, 217, 217, 127, 119, 217, 123, 217, 131, 217, 217, 217, 217, 217, 217, 217, 217, 217, 217, 217, 217, 170, 192, 181], 119) := by decide +kernel
theorem dX9_joined_120 : decode cX9_joined 120 = .ok (.iload_n 1, 1) := by decide +kernel
theorem dX9_joined_121 : decode cX9_joined 121 = .ok (.iload_n 2, 1) := by decide +kernel
theorem dX9_joined_122 : decode cX9_joined 122 = .ok (.iadd, 1) := by decide +kernel
theorem dX9_joined_123 : decode cX9_joined 123 = .ok (.ireturn, 1) := by decide +kernel
theorem dX9_joined_124 : decode cX9_joined 124 = .ok (.iload_n 1, 1) := by decide +kernel
theorem dX9_joined_125 : decode cX9_joined 125 = .ok (.iload_n 2, 1) := by decide +kernel
theorem dX9_joined_126 : decode cX9_joined 126 = .ok (.isub, 1) := by decide +kernel
theorem dX9_joined_127 : decode cX9_joined 127 = .ok (.ireturn, 1) := by decide +kernel
theorem dX9_joined_128 : decode cX9_joined 128 = .ok (.iload_n 1, 1) := by decide +kernel
theorem dX9_joined_129 : decode cX9_joined 129 = .ok (.iload_n 2, 1) := by decide +kernel
theorem dX9_joined_130 : decode cX9_joined 130 = .ok (.imul, 1) := by decide +kernel
theorem dX9_joined_131 : decode cX9_joined 131 = .ok (.ireturn, 1) := by decide +kernel
theorem dX9_joined_132 : decode cX9_joined 132 = .ok (.iload_n 2, 1) := by decide +kernel
theorem dX9_joined_133 : decode cX9_joined 133 = .ok (.ifCond .ne 7, 3) := by decide +kernel
theorem dX9_joined_136 : decode cX9_joined 136 = .ok (.iconst 0, 1) := by decide +kernel
theorem dX9_joined_137 : decode cX9_joined 137 = .ok (.goto 16, 3) := by decide +kernel
theorem dX9_joined_140 : decode cX9_joined 140 = .ok (.iload_n 2, 1) := by decide +kernel
theorem dX9_joined_141 : decode cX9_joined 141 = .ok (.iconst (-1), 1) := by decide +kernel
theorem dX9_joined_142 : decode cX9_joined 142 = .ok (.if_icmp .ne 8, 3) := by decide +kernel
theorem dX9_joined_145 : decode cX9_joined 145 = .ok (.iload_n 1, 1) := by decide +kernel
theorem dX9_joined_146 : decode cX9_joined 146 = .ok (.ineg, 1) := by decide +kernel
theorem dX9_joined_147 : decode cX9_joined 147 = .ok (.goto 6, 3) := by decide +kernel
theorem dX9_joined_150 : decode cX9_joined 150 = .ok (.iload_n 1, 1) := by decide +kernel
theorem dX9_joined_151 : decode cX9_joined 151 = .ok (.iload_n 2, 1) := by decide +kernel
theorem dX9_joined_152 : decode cX9_joined 152 = .ok (.idiv, 1) := by decide +kernel
theorem dX9_joined_153 : decode cX9_joined 153 = .ok (.ireturn, 1) := by decide +kernel
theorem dX9_joined_154 : decode cX9_joined 154 = .ok (.iload_n 2, 1) := by decide +kernel
theorem dX9_joined_155 : decode cX9_joined 155 = .ok (.ifCond .eq 8, 3) := by decide +kernel
theorem dX9_joined_158 : decode cX9_joined 158 = .ok (.iload_n 2, 1) := by decide +kernel
theorem dX9_joined_159 : decode cX9_joined 159 = .ok (.iconst (-1), 1) := by decide +kernel
theorem dX9_joined_160 : decode cX9_joined 160 = .ok (.if_icmp .ne 7, 3) := by decide +kernel
theorem dX9_joined_163 : decode cX9_joined 163 = .ok (.iconst 0, 1) := by decide +kernel
theorem dX9_joined_164 : decode cX9_joined 164 = .ok (.goto 6, 3) := by decide +kernel
theorem dX9_joined_167 : decode cX9_joined 167 = .ok (.iload_n 1, 1) := by decide +kernel
theorem dX9_joined_168 : decode cX9_joined 168 = .ok (.iload_n 2, 1) := by decide +kernel
theorem dX9_joined_169 : decode cX9_joined 169 = .ok (.irem, 1) := by decide +kernel
theorem dX9_joined_170 : decode cX9_joined 170 = .ok (.ireturn, 1) := by decide +kernel
theorem dX9_joined_171 : decode cX9_joined 171 = .ok (.iload_n 1, 1) := by decide +kernel
theorem dX9_joined_172 : decode cX9_joined 172 = .ok (.iload_n 2, 1) := by decide +kernel
theorem dX9_joined_173 : decode cX9_joined 173 = .ok (.if_icmp .ge 7, 3) := by decide +kernel
theorem dX9_joined_176 : decode cX9_joined 176 = .ok (.iconst 1, 1) := by decide +kernel
theorem dX9_joined_177 : decode cX9_joined 177 = .ok (.goto 4, 3) := by decide +kernel
theorem dX9_joined_180 : decode cX9_joined 180 = .ok (.iconst 0, 1) := by decide +kernel
theorem dX9_joined_181 : decode cX9_joined 181 = .ok (.ireturn, 1) := by decide +kernel
theorem dX9_joined_182 : decode cX9_joined 182 = .ok (.iload_n 1, 1) := by decide +kernel
theorem dX9_joined_183 : decode cX9_joined 183 = .ok (.iload_n 2, 1) := by decide +kernel
theorem dX9_joined_184 : decode cX9_joined 184 = .ok (.if_icmp .le 7, 3) := by decide +kernel
theorem dX9_joined_187 : decode cX9_joined 187 = .ok (.iconst 1, 1) := by decide +kernel
theorem dX9_joined_188 : decode cX9_joined 188 = .ok (.goto 4, 3) := by decide +kernel
theorem dX9_joined_191 : decode cX9_joined 191 = .ok (.iconst 0, 1) := by decide +kernel
theorem dX9_joined_192 : decode cX9_joined 192 = .ok (.ireturn, 1) := by decide +kernel
theorem dX9_joined_193 : decode cX9_joined 193 = .ok (.iload_n 1, 1) := by decide +kernel
theorem dX9_joined_194 : decode cX9_joined 194 = .ok (.iload_n 2, 1) := by decide +kernel
theorem dX9_joined_195 : decode cX9_joined 195 = .ok (.if_icmp .ne 7, 3) := by decide +kernel
theorem dX9_joined_198 : decode cX9_joined 198 = .ok (.iconst 1, 1) := by decide +kernel
theorem dX9_joined_199 : decode cX9_joined 199 = .ok (.goto 4, 3) := by decide +kernel
theorem dX9_joined_202 : decode cX9_joined 202 = .ok (.iconst 0, 1) := by decide +kernel
theorem dX9_joined_203 : decode cX9_joined 203 = .ok (.ireturn, 1) := by decide +kernel
theorem dX9_joined_204 : decode cX9_joined 204 = .ok (.iload_n 1, 1) := by decide +kernel
theorem dX9_joined_205 : decode cX9_joined 205 = .ok (.ifCond .eq 11, 3) := by decide +kernel
theorem dX9_joined_208 : decode cX9_joined 208 = .ok (.iload_n 2, 1) := by decide +kernel
theorem dX9_joined_209 : decode cX9_joined 209 = .ok (.ifCond .eq 7, 3) := by decide +kernel
theorem dX9_joined_212 : decode cX9_joined 212 = .ok (.iconst 1, 1) := by decide +kernel
theorem dX9_joined_213 : decode cX9_joined 213 = .ok (.goto 4, 3) := by decide +kernel
theorem dX9_joined_216 : decode cX9_joined 216 = .ok (.iconst 0, 1) := by decide +kernel
theorem dX9_joined_217 : decode cX9_joined 217 = .ok (.ireturn, 1) := by decide +kernel
theorem dX9_joined_218 : decode cX9_joined 218 = .ok (.iload_n 1, 1) := by decide +kernel
theorem dX9_joined_219 : decode cX9_joined 219 = .ok (.ifCond .ne 7, 3) := by decide +kernel
theorem dX9_joined_222 : decode cX9_joined 222 = .ok (.iload_n 2, 1) := by decide +kernel
theorem dX9_joined_223 : decode cX9_joined 223 = .ok (.ifCond .eq 7, 3) := by decide +kernel
theorem dX9_joined_226 : decode cX9_joined 226 = .ok (.iconst 1, 1) := by decide +kernel
theorem dX9_joined_227 : decode cX9_joined 227 = .ok (.goto 4, 3) := by decide +kernel
theorem dX9_joined_230 : decode cX9_joined 230 = .ok (.iconst 0, 1) := by decide +kernel
theorem dX9_joined_231 : decode cX9_joined 231 = .ok (.ireturn, 1) := by decide +kernel
theorem dX9_worked_0 : decode cX9_worked 0 = .ok (.bipush 53, 2) := by decide +kernel
theorem dX9_worked_2 : decode cX9_worked 2 = .ok (.bipush 125, 2) := by decide +kernel
theorem dX9_worked_4 : decode cX9_worked 4 = .ok (.iload_n 1, 1) := by decide +kernel
theorem dX9_worked_5 : decode cX9_worked 5 = .ok (.imul, 1) := by decide +kernel
theorem dX9_worked_6 : decode cX9_worked 6 = .ok (.iadd, 1) := by decide +kernel
theorem dX9_worked_7 : decode cX9_worked 7 = .ok (.istore_n 2, 1) := by decide +kernel
theorem dX9_worked_8 : decode cX9_worked 8 = .ok (.iconst 0, 1) := by decide +kernel
theorem dX9_worked_9 : decode cX9_worked 9 = .ok (.istore_n 3, 1) := by decide +kernel
theorem dX9_worked_10 : decode cX9_worked 10 = .ok (.iconst 0, 1) := by decide +kernel
theorem dX9_worked_11 : decode cX9_worked 11 = .ok (.istore 4, 2) := by decide +kernel
theorem dX9_worked_13 : decode cX9_worked 13 = .ok (.iload 4, 2) := by decide +kernel
theorem dX9_worked_15 : decode cX9_worked 15 = .ok (.aload_n 0, 1) := by decide +kernel
theorem dX9_worked_16 : decode cX9_worked 16 = .ok (.getfield 7, 3) := by decide +kernel
theorem dX9_worked_19 : decode cX9_worked 19 = .ok (.iload_n 2, 1) := by decide +kernel
theorem dX9_worked_20 : decode cX9_worked 20 = .ok (.iaload, 1) := by decide +kernel
theorem dX9_worked_21 : decode cX9_worked 21 = .ok (.if_icmp .ge 142, 3) := by decide +kernel
theorem dX9_worked_24 : decode cX9_worked 24 = .ok (.aload_n 0, 1) := by decide +kernel
theorem dX9_worked_25 : decode cX9_worked 25 = .ok (.getfield 7, 3) := by decide +kernel
theorem dX9_worked_28 : decode cX9_worked 28 = .ok (.iload_n 2, 1) := by decide +kernel
theorem dX9_worked_29 : decode cX9_worked 29 = .ok (.iconst 1, 1) := by decide +kernel
theorem dX9_worked_30 : decode cX9_worked 30 = .ok (.iadd, 1) := by decide +kernel
theorem dX9_worked_31 : decode cX9_worked 31 = .ok (.iconst 2, 1) := by decide +kernel
theorem dX9_worked_32 : decode cX9_worked 32 = .ok (.iload 4, 2) := by decide +kernel
theorem dX9_worked_34 : decode cX9_worked 34 = .ok (.imul, 1) := by decide +kernel
theorem dX9_worked_35 : decode cX9_worked 35 = .ok (.iadd, 1) := by decide +kernel
theorem dX9_worked_36 : decode cX9_worked 36 = .ok (.iaload, 1) := by decide +kernel
theorem dX9_worked_37 : decode cX9_worked 37 = .ok (.istore 5, 2) := by decide +kernel
theorem dX9_worked_39 : decode cX9_worked 39 = .ok (.aload_n 0, 1) := by decide +kernel
theorem dX9_worked_40 : decode cX9_worked 40 = .ok (.getfield 7, 3) := by decide +kernel
theorem dX9_worked_43 : decode cX9_worked 43 = .ok (.iload_n 2, 1) := by decide +kernel
theorem dX9_worked_44 : decode cX9_worked 44 = .ok (.iconst 2, 1) := by decide +kernel
theorem dX9_worked_45 : decode cX9_worked 45 = .ok (.iadd, 1) := by decide +kernel
theorem dX9_worked_46 : decode cX9_worked 46 = .ok (.iconst 2, 1) := by decide +kernel
theorem dX9_worked_47 : decode cX9_worked 47 = .ok (.iload 4, 2) := by decide +kernel
theorem dX9_worked_49 : decode cX9_worked 49 = .ok (.imul, 1) := by decide +kernel
theorem dX9_worked_50 : decode cX9_worked 50 = .ok (.iadd, 1) := by decide +kernel
theorem dX9_worked_51 : decode cX9_worked 51 = .ok (.iaload, 1) := by decide +kernel
theorem dX9_worked_52 : decode cX9_worked 52 = .ok (.istore 6, 2) := by decide +kernel
theorem dX9_worked_54 : decode cX9_worked 54 = .ok (.iload 5, 2) := by decide +kernel
theorem dX9_worked_56 : decode cX9_worked 56 = .ok (.ifCond .eq 9, 3) := by decide +kernel
theorem dX9_worked_59 : decode cX9_worked 59 = .ok (.iload 5, 2) := by decide +kernel
theorem dX9_worked_61 : decode cX9_worked 61 = .ok (.iconst 1, 1) := by decide +kernel
theorem dX9_worked_62 : decode cX9_worked 62 = .ok (.if_icmp .ne 32, 3) := by decide +kernel
theorem dX9_worked_65 : decode cX9_worked 65 = .ok (.aload_n 0, 1) := by decide +kernel
theorem dX9_worked_66 : decode cX9_worked 66 = .ok (.getfield 32, 3) := by decide +kernel
theorem dX9_worked_69 : decode cX9_worked 69 = .ok (.iload_n 3, 1) := by decide +kernel
theorem dX9_worked_70 : decode cX9_worked 70 = .ok (.iload 5, 2) := by decide +kernel
theorem dX9_worked_72 : decode cX9_worked 72 = .ok (.ifCond .ne 8, 3) := by decide +kernel
theorem dX9_worked_75 : decode cX9_worked 75 = .ok (.iload 6, 2) := by decide +kernel
theorem dX9_worked_77 : decode cX9_worked 77 = .ok (.goto 10, 3) := by decide +kernel
theorem dX9_worked_80 : decode cX9_worked 80 = .ok (.aload_n 0, 1) := by decide +kernel
theorem dX9_worked_81 : decode cX9_worked 81 = .ok (.getfield 29, 3) := by decide +kernel
theorem dX9_worked_84 : decode cX9_worked 84 = .ok (.iload 6, 2) := by decide +kernel
theorem dX9_worked_86 : decode cX9_worked 86 = .ok (.iaload, 1) := by decide +kernel
theorem dX9_worked_87 : decode cX9_worked 87 = .ok (.iastore, 1) := by decide +kernel
theorem dX9_worked_88 : decode cX9_worked 88 = .ok (.iinc 3 1, 3) := by decide +kernel
theorem dX9_worked_91 : decode cX9_worked 91 = .ok (.goto 66, 3) := by decide +kernel
theorem dX9_worked_94 : decode cX9_worked 94 = .ok (.iload 5, 2) := by decide +kernel
theorem dX9_worked_96 : decode cX9_worked 96 = .ok (.iconst 2, 1) := by decide +kernel
theorem dX9_worked_97 : decode cX9_worked 97 = .ok (.if_icmp .ne 30, 3) := by decide +kernel
theorem dX9_worked_100 : decode cX9_worked 100 = .ok (.aload_n 0, 1) := by decide +kernel
theorem dX9_worked_101 : decode cX9_worked 101 = .ok (.getfield 32, 3) := by decide +kernel
theorem dX9_worked_104 : decode cX9_worked 104 = .ok (.iload_n 3, 1) := by decide +kernel
theorem dX9_worked_105 : decode cX9_worked 105 = .ok (.iconst 1, 1) := by decide +kernel
theorem dX9_worked_106 : decode cX9_worked 106 = .ok (.isub, 1) := by decide +kernel
theorem dX9_worked_107 : decode cX9_worked 107 = .ok (.aload_n 0, 1) := by decide +kernel
theorem dX9_worked_108 : decode cX9_worked 108 = .ok (.getfield 32, 3) := by decide +kernel
theorem dX9_worked_111 : decode cX9_worked 111 = .ok (.iload_n 3, 1) := by decide +kernel
theorem dX9_worked_112 : decode cX9_worked 112 = .ok (.iconst 1, 1) := by decide +kernel
theorem dX9_worked_113 : decode cX9_worked 113 = .ok (.isub, 1) := by decide +kernel
theorem dX9_worked_114 : decode cX9_worked 114 = .ok (.iaload, 1) := by decide +kernel
theorem dX9_worked_115 : decode cX9_worked 115 = .ok (.ifCond .ne 7, 3) := by decide +kernel
theorem dX9_worked_118 : decode cX9_worked 118 = .ok (.iconst 1, 1) := by decide +kernel
theorem dX9_worked_119 : decode cX9_worked 119 = .ok (.goto 4, 3) := by decide +kernel
theorem dX9_worked_122 : decode cX9_worked 122 = .ok (.iconst 0, 1) := by decide +kernel
theorem dX9_worked_123 : decode cX9_worked 123 = .ok (.iastore, 1) := by decide +kernel
theorem dX9_worked_124 : decode cX9_worked 124 = .ok (.goto 33, 3) := by decide +kernel
theorem dX9_worked_127 : decode cX9_worked 127 = .ok (.iinc 3 (-1), 3) := by decide +kernel
theorem dX9_worked_130 : decode cX9_worked 130 = .ok (.aload_n 0, 1) := by decide +kernel
theorem dX9_worked_131 : decode cX9_worked 131 = .ok (.getfield 32, 3) := by decide +kernel
theorem dX9_worked_134 : decode cX9_worked 134 = .ok (.iload_n 3, 1) := by decide +kernel
theorem dX9_worked_135 : decode cX9_worked 135 = .ok (.iconst 1, 1) := by decide +kernel
theorem dX9_worked_136 : decode cX9_worked 136 = .ok (.isub, 1) := by decide +kernel
theorem dX9_worked_137 : decode cX9_worked 137 = .ok (.iload 6, 2) := by decide +kernel
theorem dX9_worked_139 : decode cX9_worked 139 = .ok (.aload_n 0, 1) := by decide +kernel
theorem dX9_worked_140 : decode cX9_worked 140 = .ok (.getfield 32, 3) := by decide +kernel
theorem dX9_worked_143 : decode cX9_worked 143 = .ok (.iload_n 3, 1) := by decide +kernel
theorem dX9_worked_144 : decode cX9_worked 144 = .ok (.iconst 1, 1) := by decide +kernel
theorem dX9_worked_145 : decode cX9_worked 145 = .ok (.isub, 1) := by decide +kernel
theorem dX9_worked_146 : decode cX9_worked 146 = .ok (.iaload, 1) := by decide +kernel
theorem dX9_worked_147 : decode cX9_worked 147 = .ok (.aload_n 0, 1) := by decide +kernel
theorem dX9_worked_148 : decode cX9_worked 148 = .ok (.getfield 32, 3) := by decide +kernel
theorem dX9_worked_151 : decode cX9_worked 151 = .ok (.iload_n 3, 1) := by decide +kernel
theorem dX9_worked_152 : decode cX9_worked 152 = .ok (.iaload, 1) := by decide +kernel
theorem dX9_worked_153 : decode cX9_worked 153 = .ok (.invokestatic 116, 3) := by decide +kernel
theorem dX9_worked_156 : decode cX9_worked 156 = .ok (.iastore, 1) := by decide +kernel
theorem dX9_worked_157 : decode cX9_worked 157 = .ok (.iinc 4 1, 3) := by decide +kernel
theorem dX9_worked_160 : decode cX9_worked 160 = .ok (.goto (-147), 3) := by decide +kernel
theorem dX9_worked_163 : decode cX9_worked 163 = .ok (.aload_n 0, 1) := by decide +kernel
theorem dX9_worked_164 : decode cX9_worked 164 = .ok (.getfield 32, 3) := by decide +kernel
theorem dX9_worked_167 : decode cX9_worked 167 = .ok (.iconst 0, 1) := by decide +kernel
theorem dX9_worked_168 : decode cX9_worked 168 = .ok (.iaload, 1) := by decide +kernel
theorem dX9_worked_169 : decode cX9_worked 169 = .ok (.ireturn, 1) := by decide +kernel
theorem dX9_burnsOf_0 : decode cX9_burnsOf 0 = .ok (.bipush 10, 2) := by decide +kernel
theorem dX9_burnsOf_2 : decode cX9_burnsOf 2 = .ok (.aload_n 0, 1) := by decide +kernel
theorem dX9_burnsOf_3 : decode cX9_burnsOf 3 = .ok (.iload_n 1, 1) := by decide +kernel
theorem dX9_burnsOf_4 : decode cX9_burnsOf 4 = .ok (.iconst 1, 1) := by decide +kernel
theorem dX9_burnsOf_5 : decode cX9_burnsOf 5 = .ok (.invokevirtual 120, 3) := by decide +kernel
theorem dX9_burnsOf_8 : decode cX9_burnsOf 8 = .ok (.iadd, 1) := by decide +kernel
theorem dX9_burnsOf_9 : decode cX9_burnsOf 9 = .ok (.istore_n 3, 1) := by decide +kernel
theorem dX9_burnsOf_10 : decode cX9_burnsOf 10 = .ok (.aload_n 0, 1) := by decide +kernel
theorem dX9_burnsOf_11 : decode cX9_burnsOf 11 = .ok (.iload_n 1, 1) := by decide +kernel
theorem dX9_burnsOf_12 : decode cX9_burnsOf 12 = .ok (.iconst 0, 1) := by decide +kernel
theorem dX9_burnsOf_13 : decode cX9_burnsOf 13 = .ok (.invokevirtual 120, 3) := by decide +kernel
theorem dX9_burnsOf_16 : decode cX9_burnsOf 16 = .ok (.tableswitch 88 1 6 #[40, 44, 48, 52, 63, 76], 40) := by decide +kernel
theorem dX9_burnsOf_56 : decode cX9_burnsOf 56 = .ok (.iload_n 3, 1) := by decide +kernel
theorem dX9_burnsOf_57 : decode cX9_burnsOf 57 = .ok (.iconst 5, 1) := by decide +kernel
theorem dX9_burnsOf_58 : decode cX9_burnsOf 58 = .ok (.iadd, 1) := by decide +kernel
theorem dX9_burnsOf_59 : decode cX9_burnsOf 59 = .ok (.ireturn, 1) := by decide +kernel
theorem dX9_burnsOf_60 : decode cX9_burnsOf 60 = .ok (.iconst 2, 1) := by decide +kernel
theorem dX9_burnsOf_61 : decode cX9_burnsOf 61 = .ok (.iload_n 3, 1) := by decide +kernel
theorem dX9_burnsOf_62 : decode cX9_burnsOf 62 = .ok (.imul, 1) := by decide +kernel
theorem dX9_burnsOf_63 : decode cX9_burnsOf 63 = .ok (.ireturn, 1) := by decide +kernel
theorem dX9_burnsOf_64 : decode cX9_burnsOf 64 = .ok (.iload_n 3, 1) := by decide +kernel
theorem dX9_burnsOf_65 : decode cX9_burnsOf 65 = .ok (.iconst 2, 1) := by decide +kernel
theorem dX9_burnsOf_66 : decode cX9_burnsOf 66 = .ok (.idiv, 1) := by decide +kernel
theorem dX9_burnsOf_67 : decode cX9_burnsOf 67 = .ok (.ireturn, 1) := by decide +kernel
theorem dX9_burnsOf_68 : decode cX9_burnsOf 68 = .ok (.iload_n 3, 1) := by decide +kernel
theorem dX9_burnsOf_69 : decode cX9_burnsOf 69 = .ok (.iconst 5, 1) := by decide +kernel
theorem dX9_burnsOf_70 : decode cX9_burnsOf 70 = .ok (.iadd, 1) := by decide +kernel
theorem dX9_burnsOf_71 : decode cX9_burnsOf 71 = .ok (.bipush 10, 2) := by decide +kernel
theorem dX9_burnsOf_73 : decode cX9_burnsOf 73 = .ok (.iload_n 2, 1) := by decide +kernel
theorem dX9_burnsOf_74 : decode cX9_burnsOf 74 = .ok (.iconst 1, 1) := by decide +kernel
theorem dX9_burnsOf_75 : decode cX9_burnsOf 75 = .ok (.isub, 1) := by decide +kernel
theorem dX9_burnsOf_76 : decode cX9_burnsOf 76 = .ok (.imul, 1) := by decide +kernel
theorem dX9_burnsOf_77 : decode cX9_burnsOf 77 = .ok (.iadd, 1) := by decide +kernel
theorem dX9_burnsOf_78 : decode cX9_burnsOf 78 = .ok (.ireturn, 1) := by decide +kernel
theorem dX9_burnsOf_79 : decode cX9_burnsOf 79 = .ok (.iconst 2, 1) := by decide +kernel
theorem dX9_burnsOf_80 : decode cX9_burnsOf 80 = .ok (.iload_n 3, 1) := by decide +kernel
theorem dX9_burnsOf_81 : decode cX9_burnsOf 81 = .ok (.imul, 1) := by decide +kernel
theorem dX9_burnsOf_82 : decode cX9_burnsOf 82 = .ok (.aload_n 0, 1) := by decide +kernel
theorem dX9_burnsOf_83 : decode cX9_burnsOf 83 = .ok (.getfield 7, 3) := by decide +kernel
theorem dX9_burnsOf_86 : decode cX9_burnsOf 86 = .ok (.iconst 1, 1) := by decide +kernel
theorem dX9_burnsOf_87 : decode cX9_burnsOf 87 = .ok (.iaload, 1) := by decide +kernel
theorem dX9_burnsOf_88 : decode cX9_burnsOf 88 = .ok (.iconst 5, 1) := by decide +kernel
theorem dX9_burnsOf_89 : decode cX9_burnsOf 89 = .ok (.irem, 1) := by decide +kernel
theorem dX9_burnsOf_90 : decode cX9_burnsOf 90 = .ok (.iadd, 1) := by decide +kernel
theorem dX9_burnsOf_91 : decode cX9_burnsOf 91 = .ok (.ireturn, 1) := by decide +kernel
theorem dX9_burnsOf_92 : decode cX9_burnsOf 92 = .ok (.iconst 4, 1) := by decide +kernel
theorem dX9_burnsOf_93 : decode cX9_burnsOf 93 = .ok (.aload_n 0, 1) := by decide +kernel
theorem dX9_burnsOf_94 : decode cX9_burnsOf 94 = .ok (.iload_n 1, 1) := by decide +kernel
theorem dX9_burnsOf_95 : decode cX9_burnsOf 95 = .ok (.iconst 3, 1) := by decide +kernel
theorem dX9_burnsOf_96 : decode cX9_burnsOf 96 = .ok (.invokevirtual 120, 3) := by decide +kernel
theorem dX9_burnsOf_99 : decode cX9_burnsOf 99 = .ok (.bipush 10, 2) := by decide +kernel
theorem dX9_burnsOf_101 : decode cX9_burnsOf 101 = .ok (.idiv, 1) := by decide +kernel
theorem dX9_burnsOf_102 : decode cX9_burnsOf 102 = .ok (.iadd, 1) := by decide +kernel
theorem dX9_burnsOf_103 : decode cX9_burnsOf 103 = .ok (.ireturn, 1) := by decide +kernel
theorem dX9_burnsOf_104 : decode cX9_burnsOf 104 = .ok (.iload_n 3, 1) := by decide +kernel
theorem dX9_burnsOf_105 : decode cX9_burnsOf 105 = .ok (.ireturn, 1) := by decide +kernel
theorem dX9_smokeOf_0 : decode cX9_smokeOf 0 = .ok (.aload_n 0, 1) := by decide +kernel
theorem dX9_smokeOf_1 : decode cX9_smokeOf 1 = .ok (.getfield 7, 3) := by decide +kernel
theorem dX9_smokeOf_4 : decode cX9_smokeOf 4 = .ok (.iconst 0, 1) := by decide +kernel
theorem dX9_smokeOf_5 : decode cX9_smokeOf 5 = .ok (.iaload, 1) := by decide +kernel
theorem dX9_smokeOf_6 : decode cX9_smokeOf 6 = .ok (.iconst 3, 1) := by decide +kernel
theorem dX9_smokeOf_7 : decode cX9_smokeOf 7 = .ok (.idiv, 1) := by decide +kernel
theorem dX9_smokeOf_8 : decode cX9_smokeOf 8 = .ok (.istore_n 3, 1) := by decide +kernel
theorem dX9_smokeOf_9 : decode cX9_smokeOf 9 = .ok (.iload_n 2, 1) := by decide +kernel
theorem dX9_smokeOf_10 : decode cX9_smokeOf 10 = .ok (.iconst 2, 1) := by decide +kernel
theorem dX9_smokeOf_11 : decode cX9_smokeOf 11 = .ok (.if_icmp .le 7, 3) := by decide +kernel
theorem dX9_smokeOf_14 : decode cX9_smokeOf 14 = .ok (.iconst 3, 1) := by decide +kernel
theorem dX9_smokeOf_15 : decode cX9_smokeOf 15 = .ok (.goto 4, 3) := by decide +kernel
theorem dX9_smokeOf_18 : decode cX9_smokeOf 18 = .ok (.iconst 0, 1) := by decide +kernel
theorem dX9_smokeOf_19 : decode cX9_smokeOf 19 = .ok (.istore 4, 2) := by decide +kernel
theorem dX9_smokeOf_21 : decode cX9_smokeOf 21 = .ok (.aload_n 0, 1) := by decide +kernel
theorem dX9_smokeOf_22 : decode cX9_smokeOf 22 = .ok (.iload_n 1, 1) := by decide +kernel
theorem dX9_smokeOf_23 : decode cX9_smokeOf 23 = .ok (.iconst 0, 1) := by decide +kernel
theorem dX9_smokeOf_24 : decode cX9_smokeOf 24 = .ok (.invokevirtual 120, 3) := by decide +kernel
theorem dX9_smokeOf_27 : decode cX9_smokeOf 27 = .ok (.tableswitch 69 1 6 #[37, 42, 44, 55, 62, 42], 37) := by decide +kernel
theorem dX9_smokeOf_64 : decode cX9_smokeOf 64 = .ok (.iload_n 3, 1) := by decide +kernel
theorem dX9_smokeOf_65 : decode cX9_smokeOf 65 = .ok (.iload 4, 2) := by decide +kernel
theorem dX9_smokeOf_67 : decode cX9_smokeOf 67 = .ok (.iadd, 1) := by decide +kernel
theorem dX9_smokeOf_68 : decode cX9_smokeOf 68 = .ok (.ireturn, 1) := by decide +kernel
theorem dX9_smokeOf_69 : decode cX9_smokeOf 69 = .ok (.iconst 0, 1) := by decide +kernel
theorem dX9_smokeOf_70 : decode cX9_smokeOf 70 = .ok (.ireturn, 1) := by decide +kernel
theorem dX9_smokeOf_71 : decode cX9_smokeOf 71 = .ok (.iload_n 3, 1) := by decide +kernel
theorem dX9_smokeOf_72 : decode cX9_smokeOf 72 = .ok (.aload_n 0, 1) := by decide +kernel
theorem dX9_smokeOf_73 : decode cX9_smokeOf 73 = .ok (.iload_n 1, 1) := by decide +kernel
theorem dX9_smokeOf_74 : decode cX9_smokeOf 74 = .ok (.iconst 1, 1) := by decide +kernel
theorem dX9_smokeOf_75 : decode cX9_smokeOf 75 = .ok (.invokevirtual 120, 3) := by decide +kernel
theorem dX9_smokeOf_78 : decode cX9_smokeOf 78 = .ok (.iadd, 1) := by decide +kernel
theorem dX9_smokeOf_79 : decode cX9_smokeOf 79 = .ok (.iconst 2, 1) := by decide +kernel
theorem dX9_smokeOf_80 : decode cX9_smokeOf 80 = .ok (.iadd, 1) := by decide +kernel
theorem dX9_smokeOf_81 : decode cX9_smokeOf 81 = .ok (.ireturn, 1) := by decide +kernel
theorem dX9_smokeOf_82 : decode cX9_smokeOf 82 = .ok (.iload_n 3, 1) := by decide +kernel
theorem dX9_smokeOf_83 : decode cX9_smokeOf 83 = .ok (.iload 4, 2) := by decide +kernel
theorem dX9_smokeOf_85 : decode cX9_smokeOf 85 = .ok (.iadd, 1) := by decide +kernel
theorem dX9_smokeOf_86 : decode cX9_smokeOf 86 = .ok (.iload_n 2, 1) := by decide +kernel
theorem dX9_smokeOf_87 : decode cX9_smokeOf 87 = .ok (.iadd, 1) := by decide +kernel
theorem dX9_smokeOf_88 : decode cX9_smokeOf 88 = .ok (.ireturn, 1) := by decide +kernel
theorem dX9_smokeOf_89 : decode cX9_smokeOf 89 = .ok (.aload_n 0, 1) := by decide +kernel
theorem dX9_smokeOf_90 : decode cX9_smokeOf 90 = .ok (.getfield 7, 3) := by decide +kernel
theorem dX9_smokeOf_93 : decode cX9_smokeOf 93 = .ok (.iconst 0, 1) := by decide +kernel
theorem dX9_smokeOf_94 : decode cX9_smokeOf 94 = .ok (.iaload, 1) := by decide +kernel
theorem dX9_smokeOf_95 : decode cX9_smokeOf 95 = .ok (.ireturn, 1) := by decide +kernel
theorem dX9_smokeOf_96 : decode cX9_smokeOf 96 = .ok (.iload_n 3, 1) := by decide +kernel
theorem dX9_smokeOf_97 : decode cX9_smokeOf 97 = .ok (.ireturn, 1) := by decide +kernel
theorem dX9_lightTold_0 : decode cX9_lightTold 0 = .ok (.aload_n 0, 1) := by decide +kernel
theorem dX9_lightTold_1 : decode cX9_lightTold 1 = .ok (.getfield 29, 3) := by decide +kernel
theorem dX9_lightTold_4 : decode cX9_lightTold 4 = .ok (.bipush 108, 2) := by decide +kernel
theorem dX9_lightTold_6 : decode cX9_lightTold 6 = .ok (.iload_n 1, 1) := by decide +kernel
theorem dX9_lightTold_7 : decode cX9_lightTold 7 = .ok (.iastore, 1) := by decide +kernel
theorem dX9_lightTold_8 : decode cX9_lightTold 8 = .ok (.aload_n 0, 1) := by decide +kernel
theorem dX9_lightTold_9 : decode cX9_lightTold 9 = .ok (.getfield 29, 3) := by decide +kernel
theorem dX9_lightTold_12 : decode cX9_lightTold 12 = .ok (.bipush 111, 2) := by decide +kernel
theorem dX9_lightTold_14 : decode cX9_lightTold 14 = .ok (.iload_n 2, 1) := by decide +kernel
theorem dX9_lightTold_15 : decode cX9_lightTold 15 = .ok (.iastore, 1) := by decide +kernel
theorem dX9_lightTold_16 : decode cX9_lightTold 16 = .ok (.aload_n 0, 1) := by decide +kernel
theorem dX9_lightTold_17 : decode cX9_lightTold 17 = .ok (.getfield 29, 3) := by decide +kernel
theorem dX9_lightTold_20 : decode cX9_lightTold 20 = .ok (.bipush 110, 2) := by decide +kernel
theorem dX9_lightTold_22 : decode cX9_lightTold 22 = .ok (.iload_n 3, 1) := by decide +kernel
theorem dX9_lightTold_23 : decode cX9_lightTold 23 = .ok (.iastore, 1) := by decide +kernel
theorem dX9_lightTold_24 : decode cX9_lightTold 24 = .ok (.aload_n 0, 1) := by decide +kernel
theorem dX9_lightTold_25 : decode cX9_lightTold 25 = .ok (.iconst 0, 1) := by decide +kernel
theorem dX9_lightTold_26 : decode cX9_lightTold 26 = .ok (.invokevirtual 113, 3) := by decide +kernel
theorem dX9_lightTold_29 : decode cX9_lightTold 29 = .ok (.ifCond .eq 11, 3) := by decide +kernel
theorem dX9_lightTold_32 : decode cX9_lightTold 32 = .ok (.aload_n 0, 1) := by decide +kernel
theorem dX9_lightTold_33 : decode cX9_lightTold 33 = .ok (.iconst 0, 1) := by decide +kernel
theorem dX9_lightTold_34 : decode cX9_lightTold 34 = .ok (.invokevirtual 124, 3) := by decide +kernel
theorem dX9_lightTold_37 : decode cX9_lightTold 37 = .ok (.goto 4, 3) := by decide +kernel
theorem dX9_lightTold_40 : decode cX9_lightTold 40 = .ok (.iload_n 1, 1) := by decide +kernel
theorem dX9_lightTold_41 : decode cX9_lightTold 41 = .ok (.iconst 0, 1) := by decide +kernel
theorem dX9_lightTold_42 : decode cX9_lightTold 42 = .ok (.bipush 99, 2) := by decide +kernel
theorem dX9_lightTold_44 : decode cX9_lightTold 44 = .ok (.invokestatic 127, 3) := by decide +kernel
theorem dX9_lightTold_47 : decode cX9_lightTold 47 = .ok (.ireturn, 1) := by decide +kernel
theorem dX9_wantedTold_0 : decode cX9_wantedTold 0 = .ok (.aload_n 0, 1) := by decide +kernel
theorem dX9_wantedTold_1 : decode cX9_wantedTold 1 = .ok (.getfield 29, 3) := by decide +kernel
theorem dX9_wantedTold_4 : decode cX9_wantedTold 4 = .ok (.bipush 119, 2) := by decide +kernel
theorem dX9_wantedTold_6 : decode cX9_wantedTold 6 = .ok (.iload_n 1, 1) := by decide +kernel
theorem dX9_wantedTold_7 : decode cX9_wantedTold 7 = .ok (.iastore, 1) := by decide +kernel
theorem dX9_wantedTold_8 : decode cX9_wantedTold 8 = .ok (.aload_n 0, 1) := by decide +kernel
theorem dX9_wantedTold_9 : decode cX9_wantedTold 9 = .ok (.getfield 29, 3) := by decide +kernel
theorem dX9_wantedTold_12 : decode cX9_wantedTold 12 = .ok (.bipush 100, 2) := by decide +kernel
theorem dX9_wantedTold_14 : decode cX9_wantedTold 14 = .ok (.iload_n 2, 1) := by decide +kernel
theorem dX9_wantedTold_15 : decode cX9_wantedTold 15 = .ok (.iastore, 1) := by decide +kernel
theorem dX9_wantedTold_16 : decode cX9_wantedTold 16 = .ok (.aload_n 0, 1) := by decide +kernel
theorem dX9_wantedTold_17 : decode cX9_wantedTold 17 = .ok (.getfield 29, 3) := by decide +kernel
theorem dX9_wantedTold_20 : decode cX9_wantedTold 20 = .ok (.bipush 107, 2) := by decide +kernel
theorem dX9_wantedTold_22 : decode cX9_wantedTold 22 = .ok (.iload_n 3, 1) := by decide +kernel
theorem dX9_wantedTold_23 : decode cX9_wantedTold 23 = .ok (.iastore, 1) := by decide +kernel
theorem dX9_wantedTold_24 : decode cX9_wantedTold 24 = .ok (.aload_n 0, 1) := by decide +kernel
theorem dX9_wantedTold_25 : decode cX9_wantedTold 25 = .ok (.iconst 1, 1) := by decide +kernel
theorem dX9_wantedTold_26 : decode cX9_wantedTold 26 = .ok (.invokevirtual 113, 3) := by decide +kernel
theorem dX9_wantedTold_29 : decode cX9_wantedTold 29 = .ok (.ifCond .eq 11, 3) := by decide +kernel
theorem dX9_wantedTold_32 : decode cX9_wantedTold 32 = .ok (.aload_n 0, 1) := by decide +kernel
theorem dX9_wantedTold_33 : decode cX9_wantedTold 33 = .ok (.iconst 1, 1) := by decide +kernel
theorem dX9_wantedTold_34 : decode cX9_wantedTold 34 = .ok (.invokevirtual 124, 3) := by decide +kernel
theorem dX9_wantedTold_37 : decode cX9_wantedTold 37 = .ok (.goto 8, 3) := by decide +kernel
theorem dX9_wantedTold_40 : decode cX9_wantedTold 40 = .ok (.iconst 5, 1) := by decide +kernel
theorem dX9_wantedTold_41 : decode cX9_wantedTold 41 = .ok (.iconst 3, 1) := by decide +kernel
theorem dX9_wantedTold_42 : decode cX9_wantedTold 42 = .ok (.iload_n 1, 1) := by decide +kernel
theorem dX9_wantedTold_43 : decode cX9_wantedTold 43 = .ok (.imul, 1) := by decide +kernel
theorem dX9_wantedTold_44 : decode cX9_wantedTold 44 = .ok (.iadd, 1) := by decide +kernel
theorem dX9_wantedTold_45 : decode cX9_wantedTold 45 = .ok (.iconst 0, 1) := by decide +kernel
theorem dX9_wantedTold_46 : decode cX9_wantedTold 46 = .ok (.sipush 199, 3) := by decide +kernel
theorem dX9_wantedTold_49 : decode cX9_wantedTold 49 = .ok (.invokestatic 127, 3) := by decide +kernel
theorem dX9_wantedTold_52 : decode cX9_wantedTold 52 = .ok (.ireturn, 1) := by decide +kernel
theorem dX9_lightBy_0 : decode cX9_lightBy 0 = .ok (.iload_n 2, 1) := by decide +kernel
theorem dX9_lightBy_1 : decode cX9_lightBy 1 = .ok (.invokestatic 130, 3) := by decide +kernel
theorem dX9_lightBy_4 : decode cX9_lightBy 4 = .ok (.istore_n 3, 1) := by decide +kernel
theorem dX9_lightBy_5 : decode cX9_lightBy 5 = .ok (.aload_n 0, 1) := by decide +kernel
theorem dX9_lightBy_6 : decode cX9_lightBy 6 = .ok (.aload_n 0, 1) := by decide +kernel
theorem dX9_lightBy_7 : decode cX9_lightBy 7 = .ok (.iload_n 1, 1) := by decide +kernel
theorem dX9_lightBy_8 : decode cX9_lightBy 8 = .ok (.iload_n 3, 1) := by decide +kernel
theorem dX9_lightBy_9 : decode cX9_lightBy 9 = .ok (.invokevirtual 133, 3) := by decide +kernel
theorem dX9_lightBy_12 : decode cX9_lightBy 12 = .ok (.iload_n 3, 1) := by decide +kernel
theorem dX9_lightBy_13 : decode cX9_lightBy 13 = .ok (.aload_n 0, 1) := by decide +kernel
theorem dX9_lightBy_14 : decode cX9_lightBy 14 = .ok (.getfield 7, 3) := by decide +kernel
theorem dX9_lightBy_17 : decode cX9_lightBy 17 = .ok (.iconst 1, 1) := by decide +kernel
theorem dX9_lightBy_18 : decode cX9_lightBy 18 = .ok (.iaload, 1) := by decide +kernel
theorem dX9_lightBy_19 : decode cX9_lightBy 19 = .ok (.bipush 7, 2) := by decide +kernel
theorem dX9_lightBy_21 : decode cX9_lightBy 21 = .ok (.irem, 1) := by decide +kernel
theorem dX9_lightBy_22 : decode cX9_lightBy 22 = .ok (.invokevirtual 136, 3) := by decide +kernel
theorem dX9_lightBy_25 : decode cX9_lightBy 25 = .ok (.ireturn, 1) := by decide +kernel
theorem dX9_givesBy_0 : decode cX9_givesBy 0 = .ok (.aload_n 0, 1) := by decide +kernel
theorem dX9_givesBy_1 : decode cX9_givesBy 1 = .ok (.iload_n 1, 1) := by decide +kernel
theorem dX9_givesBy_2 : decode cX9_givesBy 2 = .ok (.iload_n 2, 1) := by decide +kernel
theorem dX9_givesBy_3 : decode cX9_givesBy 3 = .ok (.invokevirtual 139, 3) := by decide +kernel
theorem dX9_givesBy_6 : decode cX9_givesBy 6 = .ok (.aload_n 0, 1) := by decide +kernel
theorem dX9_givesBy_7 : decode cX9_givesBy 7 = .ok (.iload_n 1, 1) := by decide +kernel
theorem dX9_givesBy_8 : decode cX9_givesBy 8 = .ok (.iload_n 2, 1) := by decide +kernel
theorem dX9_givesBy_9 : decode cX9_givesBy 9 = .ok (.invokestatic 130, 3) := by decide +kernel
theorem dX9_givesBy_12 : decode cX9_givesBy 12 = .ok (.invokevirtual 142, 3) := by decide +kernel
theorem dX9_givesBy_15 : decode cX9_givesBy 15 = .ok (.isub, 1) := by decide +kernel
theorem dX9_givesBy_16 : decode cX9_givesBy 16 = .ok (.ireturn, 1) := by decide +kernel
theorem dX9_wanted_0 : decode cX9_wanted 0 = .ok (.iconst 0, 1) := by decide +kernel
theorem dX9_wanted_1 : decode cX9_wanted 1 = .ok (.istore_n 1, 1) := by decide +kernel
theorem dX9_wanted_2 : decode cX9_wanted 2 = .ok (.iconst 0, 1) := by decide +kernel
theorem dX9_wanted_3 : decode cX9_wanted 3 = .ok (.istore_n 2, 1) := by decide +kernel
theorem dX9_wanted_4 : decode cX9_wanted 4 = .ok (.iload_n 2, 1) := by decide +kernel
theorem dX9_wanted_5 : decode cX9_wanted 5 = .ok (.aload_n 0, 1) := by decide +kernel
theorem dX9_wanted_6 : decode cX9_wanted 6 = .ok (.getfield 7, 3) := by decide +kernel
theorem dX9_wanted_9 : decode cX9_wanted 9 = .ok (.bipush 6, 2) := by decide +kernel
theorem dX9_wanted_11 : decode cX9_wanted 11 = .ok (.iaload, 1) := by decide +kernel
theorem dX9_wanted_12 : decode cX9_wanted 12 = .ok (.if_icmp .ge 31, 3) := by decide +kernel
theorem dX9_wanted_15 : decode cX9_wanted 15 = .ok (.iload_n 1, 1) := by decide +kernel
theorem dX9_wanted_16 : decode cX9_wanted 16 = .ok (.aload_n 0, 1) := by decide +kernel
theorem dX9_wanted_17 : decode cX9_wanted 17 = .ok (.iload_n 2, 1) := by decide +kernel
theorem dX9_wanted_18 : decode cX9_wanted 18 = .ok (.iconst 3, 1) := by decide +kernel
theorem dX9_wanted_19 : decode cX9_wanted 19 = .ok (.invokevirtual 120, 3) := by decide +kernel
theorem dX9_wanted_22 : decode cX9_wanted 22 = .ok (.ifCond .le 12, 3) := by decide +kernel
theorem dX9_wanted_25 : decode cX9_wanted 25 = .ok (.aload_n 0, 1) := by decide +kernel
theorem dX9_wanted_26 : decode cX9_wanted 26 = .ok (.iload_n 2, 1) := by decide +kernel
theorem dX9_wanted_27 : decode cX9_wanted 27 = .ok (.iconst 2, 1) := by decide +kernel
theorem dX9_wanted_28 : decode cX9_wanted 28 = .ok (.invokevirtual 120, 3) := by decide +kernel
theorem dX9_wanted_31 : decode cX9_wanted 31 = .ok (.goto 4, 3) := by decide +kernel
theorem dX9_wanted_34 : decode cX9_wanted 34 = .ok (.iconst 0, 1) := by decide +kernel
theorem dX9_wanted_35 : decode cX9_wanted 35 = .ok (.ior, 1) := by decide +kernel
theorem dX9_wanted_36 : decode cX9_wanted 36 = .ok (.istore_n 1, 1) := by decide +kernel
theorem dX9_wanted_37 : decode cX9_wanted 37 = .ok (.iinc 2 1, 3) := by decide +kernel
theorem dX9_wanted_40 : decode cX9_wanted 40 = .ok (.goto (-36), 3) := by decide +kernel
theorem dX9_wanted_43 : decode cX9_wanted 43 = .ok (.aload_n 0, 1) := by decide +kernel
theorem dX9_wanted_44 : decode cX9_wanted 44 = .ok (.aload_n 0, 1) := by decide +kernel
theorem dX9_wanted_45 : decode cX9_wanted 45 = .ok (.getfield 7, 3) := by decide +kernel
theorem dX9_wanted_48 : decode cX9_wanted 48 = .ok (.iconst 0, 1) := by decide +kernel
theorem dX9_wanted_49 : decode cX9_wanted 49 = .ok (.iaload, 1) := by decide +kernel
theorem dX9_wanted_50 : decode cX9_wanted 50 = .ok (.aload_n 0, 1) := by decide +kernel
theorem dX9_wanted_51 : decode cX9_wanted 51 = .ok (.getfield 7, 3) := by decide +kernel
theorem dX9_wanted_54 : decode cX9_wanted 54 = .ok (.iconst 1, 1) := by decide +kernel
theorem dX9_wanted_55 : decode cX9_wanted 55 = .ok (.iaload, 1) := by decide +kernel
theorem dX9_wanted_56 : decode cX9_wanted 56 = .ok (.bipush 7, 2) := by decide +kernel
theorem dX9_wanted_58 : decode cX9_wanted 58 = .ok (.irem, 1) := by decide +kernel
theorem dX9_wanted_59 : decode cX9_wanted 59 = .ok (.iload_n 1, 1) := by decide +kernel
theorem dX9_wanted_60 : decode cX9_wanted 60 = .ok (.invokestatic 130, 3) := by decide +kernel
theorem dX9_wanted_63 : decode cX9_wanted 63 = .ok (.invokevirtual 145, 3) := by decide +kernel
theorem dX9_wanted_66 : decode cX9_wanted 66 = .ok (.ireturn, 1) := by decide +kernel
theorem dX9_tonightSet_0 : decode cX9_tonightSet 0 = .ok (.iconst 0, 1) := by decide +kernel
theorem dX9_tonightSet_1 : decode cX9_tonightSet 1 = .ok (.istore_n 1, 1) := by decide +kernel
theorem dX9_tonightSet_2 : decode cX9_tonightSet 2 = .ok (.iconst 0, 1) := by decide +kernel
theorem dX9_tonightSet_3 : decode cX9_tonightSet 3 = .ok (.istore_n 2, 1) := by decide +kernel
theorem dX9_tonightSet_4 : decode cX9_tonightSet 4 = .ok (.iload_n 2, 1) := by decide +kernel
theorem dX9_tonightSet_5 : decode cX9_tonightSet 5 = .ok (.aload_n 0, 1) := by decide +kernel
theorem dX9_tonightSet_6 : decode cX9_tonightSet 6 = .ok (.getfield 7, 3) := by decide +kernel
theorem dX9_tonightSet_9 : decode cX9_tonightSet 9 = .ok (.bipush 6, 2) := by decide +kernel
theorem dX9_tonightSet_11 : decode cX9_tonightSet 11 = .ok (.iaload, 1) := by decide +kernel
theorem dX9_tonightSet_12 : decode cX9_tonightSet 12 = .ok (.if_icmp .ge 36, 3) := by decide +kernel
theorem dX9_tonightSet_15 : decode cX9_tonightSet 15 = .ok (.iload_n 1, 1) := by decide +kernel
theorem dX9_tonightSet_16 : decode cX9_tonightSet 16 = .ok (.aload_n 0, 1) := by decide +kernel
theorem dX9_tonightSet_17 : decode cX9_tonightSet 17 = .ok (.iload_n 2, 1) := by decide +kernel
theorem dX9_tonightSet_18 : decode cX9_tonightSet 18 = .ok (.iconst 3, 1) := by decide +kernel
theorem dX9_tonightSet_19 : decode cX9_tonightSet 19 = .ok (.invokevirtual 120, 3) := by decide +kernel
theorem dX9_tonightSet_22 : decode cX9_tonightSet 22 = .ok (.ifCond .le 17, 3) := by decide +kernel
theorem dX9_tonightSet_25 : decode cX9_tonightSet 25 = .ok (.iload_n 2, 1) := by decide +kernel
theorem dX9_tonightSet_26 : decode cX9_tonightSet 26 = .ok (.aload_n 0, 1) := by decide +kernel
theorem dX9_tonightSet_27 : decode cX9_tonightSet 27 = .ok (.getfield 22, 3) := by decide +kernel
theorem dX9_tonightSet_30 : decode cX9_tonightSet 30 = .ok (.if_icmp .eq 9, 3) := by decide +kernel
theorem dX9_tonightSet_33 : decode cX9_tonightSet 33 = .ok (.iconst 1, 1) := by decide +kernel
theorem dX9_tonightSet_34 : decode cX9_tonightSet 34 = .ok (.iload_n 2, 1) := by decide +kernel
theorem dX9_tonightSet_35 : decode cX9_tonightSet 35 = .ok (.ishl, 1) := by decide +kernel
theorem dX9_tonightSet_36 : decode cX9_tonightSet 36 = .ok (.goto 4, 3) := by decide +kernel
theorem dX9_tonightSet_39 : decode cX9_tonightSet 39 = .ok (.iconst 0, 1) := by decide +kernel
theorem dX9_tonightSet_40 : decode cX9_tonightSet 40 = .ok (.ior, 1) := by decide +kernel
theorem dX9_tonightSet_41 : decode cX9_tonightSet 41 = .ok (.istore_n 1, 1) := by decide +kernel
theorem dX9_tonightSet_42 : decode cX9_tonightSet 42 = .ok (.iinc 2 1, 3) := by decide +kernel
theorem dX9_tonightSet_45 : decode cX9_tonightSet 45 = .ok (.goto (-41), 3) := by decide +kernel
theorem dX9_tonightSet_48 : decode cX9_tonightSet 48 = .ok (.aload_n 0, 1) := by decide +kernel
theorem dX9_tonightSet_49 : decode cX9_tonightSet 49 = .ok (.invokevirtual 148, 3) := by decide +kernel
theorem dX9_tonightSet_52 : decode cX9_tonightSet 52 = .ok (.istore_n 2, 1) := by decide +kernel
theorem dX9_tonightSet_53 : decode cX9_tonightSet 53 = .ok (.iconst 0, 1) := by decide +kernel
theorem dX9_tonightSet_54 : decode cX9_tonightSet 54 = .ok (.istore_n 3, 1) := by decide +kernel
theorem dX9_tonightSet_55 : decode cX9_tonightSet 55 = .ok (.iload_n 3, 1) := by decide +kernel
theorem dX9_tonightSet_56 : decode cX9_tonightSet 56 = .ok (.aload_n 0, 1) := by decide +kernel
theorem dX9_tonightSet_57 : decode cX9_tonightSet 57 = .ok (.getfield 7, 3) := by decide +kernel
theorem dX9_tonightSet_60 : decode cX9_tonightSet 60 = .ok (.bipush 6, 2) := by decide +kernel
theorem dX9_tonightSet_62 : decode cX9_tonightSet 62 = .ok (.iaload, 1) := by decide +kernel
theorem dX9_tonightSet_63 : decode cX9_tonightSet 63 = .ok (.if_icmp .ge 98, 3) := by decide +kernel
theorem dX9_tonightSet_66 : decode cX9_tonightSet 66 = .ok (.iload_n 1, 1) := by decide +kernel
theorem dX9_tonightSet_67 : decode cX9_tonightSet 67 = .ok (.iload_n 3, 1) := by decide +kernel
theorem dX9_tonightSet_68 : decode cX9_tonightSet 68 = .ok (.ishr, 1) := by decide +kernel
theorem dX9_tonightSet_69 : decode cX9_tonightSet 69 = .ok (.iconst 1, 1) := by decide +kernel
theorem dX9_tonightSet_70 : decode cX9_tonightSet 70 = .ok (.iand, 1) := by decide +kernel
theorem dX9_tonightSet_71 : decode cX9_tonightSet 71 = .ok (.iconst 1, 1) := by decide +kernel
theorem dX9_tonightSet_72 : decode cX9_tonightSet 72 = .ok (.if_icmp .ne 17, 3) := by decide +kernel
theorem dX9_tonightSet_75 : decode cX9_tonightSet 75 = .ok (.aload_n 0, 1) := by decide +kernel
theorem dX9_tonightSet_76 : decode cX9_tonightSet 76 = .ok (.iload_n 3, 1) := by decide +kernel
theorem dX9_tonightSet_77 : decode cX9_tonightSet 77 = .ok (.aload_n 0, 1) := by decide +kernel
theorem dX9_tonightSet_78 : decode cX9_tonightSet 78 = .ok (.iload_n 3, 1) := by decide +kernel
theorem dX9_tonightSet_79 : decode cX9_tonightSet 79 = .ok (.iconst 2, 1) := by decide +kernel
theorem dX9_tonightSet_80 : decode cX9_tonightSet 80 = .ok (.invokevirtual 120, 3) := by decide +kernel
theorem dX9_tonightSet_83 : decode cX9_tonightSet 83 = .ok (.invokevirtual 151, 3) := by decide +kernel
theorem dX9_tonightSet_86 : decode cX9_tonightSet 86 = .ok (.goto 4, 3) := by decide +kernel
theorem dX9_tonightSet_89 : decode cX9_tonightSet 89 = .ok (.iconst 0, 1) := by decide +kernel
theorem dX9_tonightSet_90 : decode cX9_tonightSet 90 = .ok (.istore 4, 2) := by decide +kernel
theorem dX9_tonightSet_92 : decode cX9_tonightSet 92 = .ok (.iconst 0, 1) := by decide +kernel
theorem dX9_tonightSet_93 : decode cX9_tonightSet 93 = .ok (.istore 5, 2) := by decide +kernel
theorem dX9_tonightSet_95 : decode cX9_tonightSet 95 = .ok (.iload 5, 2) := by decide +kernel
theorem dX9_tonightSet_97 : decode cX9_tonightSet 97 = .ok (.iconst 1, 1) := by decide +kernel
theorem dX9_tonightSet_98 : decode cX9_tonightSet 98 = .ok (.iload_n 3, 1) := by decide +kernel
theorem dX9_tonightSet_99 : decode cX9_tonightSet 99 = .ok (.ishl, 1) := by decide +kernel
theorem dX9_tonightSet_100 : decode cX9_tonightSet 100 = .ok (.if_icmp .ge 55, 3) := by decide +kernel
theorem dX9_tonightSet_103 : decode cX9_tonightSet 103 = .ok (.aload_n 0, 1) := by decide +kernel
theorem dX9_tonightSet_104 : decode cX9_tonightSet 104 = .ok (.getfield 35, 3) := by decide +kernel
theorem dX9_tonightSet_107 : decode cX9_tonightSet 107 = .ok (.iload 5, 2) := by decide +kernel
theorem dX9_tonightSet_109 : decode cX9_tonightSet 109 = .ok (.iconst 1, 1) := by decide +kernel
theorem dX9_tonightSet_110 : decode cX9_tonightSet 110 = .ok (.iload_n 3, 1) := by decide +kernel
theorem dX9_tonightSet_111 : decode cX9_tonightSet 111 = .ok (.ishl, 1) := by decide +kernel
theorem dX9_tonightSet_112 : decode cX9_tonightSet 112 = .ok (.iadd, 1) := by decide +kernel
theorem dX9_tonightSet_113 : decode cX9_tonightSet 113 = .ok (.aload_n 0, 1) := by decide +kernel
theorem dX9_tonightSet_114 : decode cX9_tonightSet 114 = .ok (.getfield 35, 3) := by decide +kernel
theorem dX9_tonightSet_117 : decode cX9_tonightSet 117 = .ok (.iload 5, 2) := by decide +kernel
theorem dX9_tonightSet_119 : decode cX9_tonightSet 119 = .ok (.iaload, 1) := by decide +kernel
theorem dX9_tonightSet_120 : decode cX9_tonightSet 120 = .ok (.iload 4, 2) := by decide +kernel
theorem dX9_tonightSet_122 : decode cX9_tonightSet 122 = .ok (.iadd, 1) := by decide +kernel
theorem dX9_tonightSet_123 : decode cX9_tonightSet 123 = .ok (.iastore, 1) := by decide +kernel
theorem dX9_tonightSet_124 : decode cX9_tonightSet 124 = .ok (.aload_n 0, 1) := by decide +kernel
theorem dX9_tonightSet_125 : decode cX9_tonightSet 125 = .ok (.getfield 38, 3) := by decide +kernel
theorem dX9_tonightSet_128 : decode cX9_tonightSet 128 = .ok (.iload 5, 2) := by decide +kernel
theorem dX9_tonightSet_130 : decode cX9_tonightSet 130 = .ok (.iconst 1, 1) := by decide +kernel
theorem dX9_tonightSet_131 : decode cX9_tonightSet 131 = .ok (.iload_n 3, 1) := by decide +kernel
theorem dX9_tonightSet_132 : decode cX9_tonightSet 132 = .ok (.ishl, 1) := by decide +kernel
theorem dX9_tonightSet_133 : decode cX9_tonightSet 133 = .ok (.iadd, 1) := by decide +kernel
theorem dX9_tonightSet_134 : decode cX9_tonightSet 134 = .ok (.aload_n 0, 1) := by decide +kernel
theorem dX9_tonightSet_135 : decode cX9_tonightSet 135 = .ok (.getfield 38, 3) := by decide +kernel
theorem dX9_tonightSet_138 : decode cX9_tonightSet 138 = .ok (.iload 5, 2) := by decide +kernel
theorem dX9_tonightSet_140 : decode cX9_tonightSet 140 = .ok (.iaload, 1) := by decide +kernel
theorem dX9_tonightSet_141 : decode cX9_tonightSet 141 = .ok (.aload_n 0, 1) := by decide +kernel
theorem dX9_tonightSet_142 : decode cX9_tonightSet 142 = .ok (.iload_n 3, 1) := by decide +kernel
theorem dX9_tonightSet_143 : decode cX9_tonightSet 143 = .ok (.iconst 4, 1) := by decide +kernel
theorem dX9_tonightSet_144 : decode cX9_tonightSet 144 = .ok (.invokevirtual 120, 3) := by decide +kernel
theorem dX9_tonightSet_147 : decode cX9_tonightSet 147 = .ok (.iadd, 1) := by decide +kernel
theorem dX9_tonightSet_148 : decode cX9_tonightSet 148 = .ok (.iastore, 1) := by decide +kernel
theorem dX9_tonightSet_149 : decode cX9_tonightSet 149 = .ok (.iinc 5 1, 3) := by decide +kernel
theorem dX9_tonightSet_152 : decode cX9_tonightSet 152 = .ok (.goto (-57), 3) := by decide +kernel
theorem dX9_tonightSet_155 : decode cX9_tonightSet 155 = .ok (.iinc 3 1, 3) := by decide +kernel
theorem dX9_tonightSet_158 : decode cX9_tonightSet 158 = .ok (.goto (-103), 3) := by decide +kernel
theorem dX9_tonightSet_161 : decode cX9_tonightSet 161 = .ok (.iconst (-1), 1) := by decide +kernel
theorem dX9_tonightSet_162 : decode cX9_tonightSet 162 = .ok (.istore_n 3, 1) := by decide +kernel
theorem dX9_tonightSet_163 : decode cX9_tonightSet 163 = .ok (.iconst 0, 1) := by decide +kernel
theorem dX9_tonightSet_164 : decode cX9_tonightSet 164 = .ok (.istore 4, 2) := by decide +kernel
theorem dX9_tonightSet_166 : decode cX9_tonightSet 166 = .ok (.iload 4, 2) := by decide +kernel
theorem dX9_tonightSet_168 : decode cX9_tonightSet 168 = .ok (.iconst 1, 1) := by decide +kernel
theorem dX9_tonightSet_169 : decode cX9_tonightSet 169 = .ok (.aload_n 0, 1) := by decide +kernel
theorem dX9_tonightSet_170 : decode cX9_tonightSet 170 = .ok (.getfield 7, 3) := by decide +kernel
theorem dX9_tonightSet_173 : decode cX9_tonightSet 173 = .ok (.bipush 6, 2) := by decide +kernel
theorem dX9_tonightSet_175 : decode cX9_tonightSet 175 = .ok (.iaload, 1) := by decide +kernel
theorem dX9_tonightSet_176 : decode cX9_tonightSet 176 = .ok (.ishl, 1) := by decide +kernel
theorem dX9_tonightSet_177 : decode cX9_tonightSet 177 = .ok (.if_icmp .ge 69, 3) := by decide +kernel
theorem dX9_tonightSet_180 : decode cX9_tonightSet 180 = .ok (.iload 4, 2) := by decide +kernel
theorem dX9_tonightSet_182 : decode cX9_tonightSet 182 = .ok (.iload_n 1, 1) := by decide +kernel
theorem dX9_tonightSet_183 : decode cX9_tonightSet 183 = .ok (.iconst (-1), 1) := by decide +kernel
theorem dX9_tonightSet_184 : decode cX9_tonightSet 184 = .ok (.ixor, 1) := by decide +kernel
theorem dX9_tonightSet_185 : decode cX9_tonightSet 185 = .ok (.iand, 1) := by decide +kernel
theorem dX9_tonightSet_186 : decode cX9_tonightSet 186 = .ok (.ifCond .ne 18, 3) := by decide +kernel
theorem dX9_tonightSet_189 : decode cX9_tonightSet 189 = .ok (.aload_n 0, 1) := by decide +kernel
theorem dX9_tonightSet_190 : decode cX9_tonightSet 190 = .ok (.getfield 35, 3) := by decide +kernel
theorem dX9_tonightSet_193 : decode cX9_tonightSet 193 = .ok (.iload 4, 2) := by decide +kernel
theorem dX9_tonightSet_195 : decode cX9_tonightSet 195 = .ok (.iaload, 1) := by decide +kernel
theorem dX9_tonightSet_196 : decode cX9_tonightSet 196 = .ok (.iload_n 2, 1) := by decide +kernel
theorem dX9_tonightSet_197 : decode cX9_tonightSet 197 = .ok (.if_icmp .lt 7, 3) := by decide +kernel
theorem dX9_tonightSet_200 : decode cX9_tonightSet 200 = .ok (.iconst 1, 1) := by decide +kernel
theorem dX9_tonightSet_201 : decode cX9_tonightSet 201 = .ok (.goto 4, 3) := by decide +kernel
theorem dX9_tonightSet_204 : decode cX9_tonightSet 204 = .ok (.iconst 0, 1) := by decide +kernel
theorem dX9_tonightSet_205 : decode cX9_tonightSet 205 = .ok (.istore 5, 2) := by decide +kernel
theorem dX9_tonightSet_207 : decode cX9_tonightSet 207 = .ok (.iload 5, 2) := by decide +kernel
theorem dX9_tonightSet_209 : decode cX9_tonightSet 209 = .ok (.ifCond .eq 29, 3) := by decide +kernel
theorem dX9_tonightSet_212 : decode cX9_tonightSet 212 = .ok (.iload_n 3, 1) := by decide +kernel
theorem dX9_tonightSet_213 : decode cX9_tonightSet 213 = .ok (.iconst (-1), 1) := by decide +kernel
theorem dX9_tonightSet_214 : decode cX9_tonightSet 214 = .ok (.if_icmp .eq 19, 3) := by decide +kernel
theorem dX9_tonightSet_217 : decode cX9_tonightSet 217 = .ok (.aload_n 0, 1) := by decide +kernel
theorem dX9_tonightSet_218 : decode cX9_tonightSet 218 = .ok (.getfield 38, 3) := by decide +kernel
theorem dX9_tonightSet_221 : decode cX9_tonightSet 221 = .ok (.iload 4, 2) := by decide +kernel
theorem dX9_tonightSet_223 : decode cX9_tonightSet 223 = .ok (.iaload, 1) := by decide +kernel
theorem dX9_tonightSet_224 : decode cX9_tonightSet 224 = .ok (.aload_n 0, 1) := by decide +kernel
theorem dX9_tonightSet_225 : decode cX9_tonightSet 225 = .ok (.getfield 38, 3) := by decide +kernel
theorem dX9_tonightSet_228 : decode cX9_tonightSet 228 = .ok (.iload_n 3, 1) := by decide +kernel
theorem dX9_tonightSet_229 : decode cX9_tonightSet 229 = .ok (.iaload, 1) := by decide +kernel
theorem dX9_tonightSet_230 : decode cX9_tonightSet 230 = .ok (.if_icmp .ge 8, 3) := by decide +kernel
theorem dX9_tonightSet_233 : decode cX9_tonightSet 233 = .ok (.iload 4, 2) := by decide +kernel
theorem dX9_tonightSet_235 : decode cX9_tonightSet 235 = .ok (.goto 4, 3) := by decide +kernel
theorem dX9_tonightSet_238 : decode cX9_tonightSet 238 = .ok (.iload_n 3, 1) := by decide +kernel
theorem dX9_tonightSet_239 : decode cX9_tonightSet 239 = .ok (.istore_n 3, 1) := by decide +kernel
theorem dX9_tonightSet_240 : decode cX9_tonightSet 240 = .ok (.iinc 4 1, 3) := by decide +kernel
theorem dX9_tonightSet_243 : decode cX9_tonightSet 243 = .ok (.goto (-77), 3) := by decide +kernel
theorem dX9_tonightSet_246 : decode cX9_tonightSet 246 = .ok (.iload_n 3, 1) := by decide +kernel
theorem dX9_tonightSet_247 : decode cX9_tonightSet 247 = .ok (.ireturn, 1) := by decide +kernel
theorem dX9_aNight_0 : decode cX9_aNight 0 = .ok (.aload_n 0, 1) := by decide +kernel
theorem dX9_aNight_1 : decode cX9_aNight 1 = .ok (.invokevirtual 154, 3) := by decide +kernel
theorem dX9_aNight_4 : decode cX9_aNight 4 = .ok (.istore_n 1, 1) := by decide +kernel
theorem dX9_aNight_5 : decode cX9_aNight 5 = .ok (.iconst 0, 1) := by decide +kernel
theorem dX9_aNight_6 : decode cX9_aNight 6 = .ok (.istore_n 2, 1) := by decide +kernel
theorem dX9_aNight_7 : decode cX9_aNight 7 = .ok (.iload_n 2, 1) := by decide +kernel
theorem dX9_aNight_8 : decode cX9_aNight 8 = .ok (.aload_n 0, 1) := by decide +kernel
theorem dX9_aNight_9 : decode cX9_aNight 9 = .ok (.getfield 7, 3) := by decide +kernel
theorem dX9_aNight_12 : decode cX9_aNight 12 = .ok (.bipush 6, 2) := by decide +kernel
theorem dX9_aNight_14 : decode cX9_aNight 14 = .ok (.iaload, 1) := by decide +kernel
theorem dX9_aNight_15 : decode cX9_aNight 15 = .ok (.if_icmp .ge 32, 3) := by decide +kernel
theorem dX9_aNight_18 : decode cX9_aNight 18 = .ok (.iload_n 1, 1) := by decide +kernel
theorem dX9_aNight_19 : decode cX9_aNight 19 = .ok (.iconst (-1), 1) := by decide +kernel
theorem dX9_aNight_20 : decode cX9_aNight 20 = .ok (.if_icmp .eq 27, 3) := by decide +kernel
theorem dX9_aNight_23 : decode cX9_aNight 23 = .ok (.aload_n 0, 1) := by decide +kernel
theorem dX9_aNight_24 : decode cX9_aNight 24 = .ok (.iload_n 2, 1) := by decide +kernel
theorem dX9_aNight_25 : decode cX9_aNight 25 = .ok (.iconst 3, 1) := by decide +kernel
theorem dX9_aNight_26 : decode cX9_aNight 26 = .ok (.aload_n 0, 1) := by decide +kernel
theorem dX9_aNight_27 : decode cX9_aNight 27 = .ok (.iload_n 2, 1) := by decide +kernel
theorem dX9_aNight_28 : decode cX9_aNight 28 = .ok (.iconst 3, 1) := by decide +kernel
theorem dX9_aNight_29 : decode cX9_aNight 29 = .ok (.invokevirtual 120, 3) := by decide +kernel
theorem dX9_aNight_32 : decode cX9_aNight 32 = .ok (.iload_n 1, 1) := by decide +kernel
theorem dX9_aNight_33 : decode cX9_aNight 33 = .ok (.iload_n 2, 1) := by decide +kernel
theorem dX9_aNight_34 : decode cX9_aNight 34 = .ok (.ishr, 1) := by decide +kernel
theorem dX9_aNight_35 : decode cX9_aNight 35 = .ok (.iconst 1, 1) := by decide +kernel
theorem dX9_aNight_36 : decode cX9_aNight 36 = .ok (.iand, 1) := by decide +kernel
theorem dX9_aNight_37 : decode cX9_aNight 37 = .ok (.isub, 1) := by decide +kernel
theorem dX9_aNight_38 : decode cX9_aNight 38 = .ok (.invokevirtual 157, 3) := by decide +kernel
theorem dX9_aNight_41 : decode cX9_aNight 41 = .ok (.iinc 2 1, 3) := by decide +kernel
theorem dX9_aNight_44 : decode cX9_aNight 44 = .ok (.goto (-37), 3) := by decide +kernel
theorem dX9_aNight_47 : decode cX9_aNight 47 = .ok (.iload_n 1, 1) := by decide +kernel
theorem dX9_aNight_48 : decode cX9_aNight 48 = .ok (.iconst (-1), 1) := by decide +kernel
theorem dX9_aNight_49 : decode cX9_aNight 49 = .ok (.if_icmp .ne 24, 3) := by decide +kernel
theorem dX9_aNight_52 : decode cX9_aNight 52 = .ok (.aload_n 0, 1) := by decide +kernel
theorem dX9_aNight_53 : decode cX9_aNight 53 = .ok (.getfield 7, 3) := by decide +kernel
theorem dX9_aNight_56 : decode cX9_aNight 56 = .ok (.iconst 2, 1) := by decide +kernel
theorem dX9_aNight_57 : decode cX9_aNight 57 = .ok (.aload_n 0, 1) := by decide +kernel
theorem dX9_aNight_58 : decode cX9_aNight 58 = .ok (.getfield 7, 3) := by decide +kernel
theorem dX9_aNight_61 : decode cX9_aNight 61 = .ok (.iconst 2, 1) := by decide +kernel
theorem dX9_aNight_62 : decode cX9_aNight 62 = .ok (.iaload, 1) := by decide +kernel
theorem dX9_aNight_63 : decode cX9_aNight 63 = .ok (.iconst 1, 1) := by decide +kernel
theorem dX9_aNight_64 : decode cX9_aNight 64 = .ok (.iadd, 1) := by decide +kernel
theorem dX9_aNight_65 : decode cX9_aNight 65 = .ok (.iconst 0, 1) := by decide +kernel
theorem dX9_aNight_66 : decode cX9_aNight 66 = .ok (.sipush 9999, 3) := by decide +kernel
theorem dX9_aNight_69 : decode cX9_aNight 69 = .ok (.invokestatic 127, 3) := by decide +kernel
theorem dX9_aNight_72 : decode cX9_aNight 72 = .ok (.iastore, 1) := by decide +kernel
theorem dX9_aNight_73 : decode cX9_aNight 73 = .ok (.aload_n 0, 1) := by decide +kernel
theorem dX9_aNight_74 : decode cX9_aNight 74 = .ok (.getfield 7, 3) := by decide +kernel
theorem dX9_aNight_77 : decode cX9_aNight 77 = .ok (.iconst 1, 1) := by decide +kernel
theorem dX9_aNight_78 : decode cX9_aNight 78 = .ok (.dup2, 1) := by decide +kernel
theorem dX9_aNight_79 : decode cX9_aNight 79 = .ok (.iaload, 1) := by decide +kernel
theorem dX9_aNight_80 : decode cX9_aNight 80 = .ok (.iconst 1, 1) := by decide +kernel
theorem dX9_aNight_81 : decode cX9_aNight 81 = .ok (.iadd, 1) := by decide +kernel
theorem dX9_aNight_82 : decode cX9_aNight 82 = .ok (.iastore, 1) := by decide +kernel
theorem dX9_aNight_83 : decode cX9_aNight 83 = .ok (.iload_n 1, 1) := by decide +kernel
theorem dX9_aNight_84 : decode cX9_aNight 84 = .ok (.iconst (-1), 1) := by decide +kernel
theorem dX9_aNight_85 : decode cX9_aNight 85 = .ok (.if_icmp .eq 7, 3) := by decide +kernel
theorem dX9_aNight_88 : decode cX9_aNight 88 = .ok (.iconst 1, 1) := by decide +kernel
theorem dX9_aNight_89 : decode cX9_aNight 89 = .ok (.goto 4, 3) := by decide +kernel
theorem dX9_aNight_92 : decode cX9_aNight 92 = .ok (.iconst 0, 1) := by decide +kernel
theorem dX9_aNight_93 : decode cX9_aNight 93 = .ok (.ireturn, 1) := by decide +kernel
theorem dX9_goes_0 : decode cX9_goes 0 = .ok (.iconst 0, 1) := by decide +kernel
theorem dX9_goes_1 : decode cX9_goes 1 = .ok (.istore_n 2, 1) := by decide +kernel
theorem dX9_goes_2 : decode cX9_goes 2 = .ok (.iconst 0, 1) := by decide +kernel
theorem dX9_goes_3 : decode cX9_goes 3 = .ok (.istore_n 3, 1) := by decide +kernel
theorem dX9_goes_4 : decode cX9_goes 4 = .ok (.iload_n 3, 1) := by decide +kernel
theorem dX9_goes_5 : decode cX9_goes 5 = .ok (.iload_n 1, 1) := by decide +kernel
theorem dX9_goes_6 : decode cX9_goes 6 = .ok (.if_icmp .ge 24, 3) := by decide +kernel
theorem dX9_goes_9 : decode cX9_goes 9 = .ok (.iload_n 2, 1) := by decide +kernel
theorem dX9_goes_10 : decode cX9_goes 10 = .ok (.aload_n 0, 1) := by decide +kernel
theorem dX9_goes_11 : decode cX9_goes 11 = .ok (.invokevirtual 161, 3) := by decide +kernel
theorem dX9_goes_14 : decode cX9_goes 14 = .ok (.ifCond .eq 7, 3) := by decide +kernel
theorem dX9_goes_17 : decode cX9_goes 17 = .ok (.iconst 1, 1) := by decide +kernel
theorem dX9_goes_18 : decode cX9_goes 18 = .ok (.goto 4, 3) := by decide +kernel
theorem dX9_goes_21 : decode cX9_goes 21 = .ok (.iconst 0, 1) := by decide +kernel
theorem dX9_goes_22 : decode cX9_goes 22 = .ok (.iadd, 1) := by decide +kernel
theorem dX9_goes_23 : decode cX9_goes 23 = .ok (.istore_n 2, 1) := by decide +kernel
theorem dX9_goes_24 : decode cX9_goes 24 = .ok (.iinc 3 1, 3) := by decide +kernel
theorem dX9_goes_27 : decode cX9_goes 27 = .ok (.goto (-23), 3) := by decide +kernel
theorem dX9_goes_30 : decode cX9_goes 30 = .ok (.iload_n 2, 1) := by decide +kernel
theorem dX9_goes_31 : decode cX9_goes 31 = .ok (.ireturn, 1) := by decide +kernel
theorem dX9_draw_0 : decode cX9_draw 0 = .ok (.aload_n 0, 1) := by decide +kernel
theorem dX9_draw_1 : decode cX9_draw 1 = .ok (.getfield 7, 3) := by decide +kernel
theorem dX9_draw_4 : decode cX9_draw 4 = .ok (.iconst 3, 1) := by decide +kernel
theorem dX9_draw_5 : decode cX9_draw 5 = .ok (.aload_n 0, 1) := by decide +kernel
theorem dX9_draw_6 : decode cX9_draw 6 = .ok (.getfield 7, 3) := by decide +kernel
theorem dX9_draw_9 : decode cX9_draw 9 = .ok (.iconst 3, 1) := by decide +kernel
theorem dX9_draw_10 : decode cX9_draw 10 = .ok (.iaload, 1) := by decide +kernel
theorem dX9_draw_11 : decode cX9_draw 11 = .ok (.ldc 164, 2) := by decide +kernel
theorem dX9_draw_13 : decode cX9_draw 13 = .ok (.imul, 1) := by decide +kernel
theorem dX9_draw_14 : decode cX9_draw 14 = .ok (.sipush 12345, 3) := by decide +kernel
theorem dX9_draw_17 : decode cX9_draw 17 = .ok (.iadd, 1) := by decide +kernel
theorem dX9_draw_18 : decode cX9_draw 18 = .ok (.iastore, 1) := by decide +kernel
theorem dX9_draw_19 : decode cX9_draw 19 = .ok (.aload_n 0, 1) := by decide +kernel
theorem dX9_draw_20 : decode cX9_draw 20 = .ok (.getfield 7, 3) := by decide +kernel
theorem dX9_draw_23 : decode cX9_draw 23 = .ok (.iconst 3, 1) := by decide +kernel
theorem dX9_draw_24 : decode cX9_draw 24 = .ok (.iaload, 1) := by decide +kernel
theorem dX9_draw_25 : decode cX9_draw 25 = .ok (.bipush 8, 2) := by decide +kernel
theorem dX9_draw_27 : decode cX9_draw 27 = .ok (.iushr, 1) := by decide +kernel
theorem dX9_draw_28 : decode cX9_draw 28 = .ok (.ireturn, 1) := by decide +kernel
theorem dX9_isKind_0 : decode cX9_isKind 0 = .ok (.iload_n 0, 1) := by decide +kernel
theorem dX9_isKind_1 : decode cX9_isKind 1 = .ok (.iconst 0, 1) := by decide +kernel
theorem dX9_isKind_2 : decode cX9_isKind 2 = .ok (.bipush 69, 2) := by decide +kernel
theorem dX9_isKind_4 : decode cX9_isKind 4 = .ok (.invokestatic 57, 3) := by decide +kernel
theorem dX9_isKind_7 : decode cX9_isKind 7 = .ok (.ireturn, 1) := by decide +kernel
theorem dX9_memory_0 : decode cX9_memory 0 = .ok (.iload_n 1, 1) := by decide +kernel
theorem dX9_memory_1 : decode cX9_memory 1 = .ok (.invokestatic 165, 3) := by decide +kernel
theorem dX9_memory_4 : decode cX9_memory 4 = .ok (.ifCond .eq 24, 3) := by decide +kernel
theorem dX9_memory_7 : decode cX9_memory 7 = .ok (.iload_n 2, 1) := by decide +kernel
theorem dX9_memory_8 : decode cX9_memory 8 = .ok (.iconst 1, 1) := by decide +kernel
theorem dX9_memory_9 : decode cX9_memory 9 = .ok (.bipush 15, 2) := by decide +kernel
theorem dX9_memory_11 : decode cX9_memory 11 = .ok (.invokestatic 57, 3) := by decide +kernel
theorem dX9_memory_14 : decode cX9_memory 14 = .ok (.ifCond .eq 14, 3) := by decide +kernel
theorem dX9_memory_17 : decode cX9_memory 17 = .ok (.iload_n 3, 1) := by decide +kernel
theorem dX9_memory_18 : decode cX9_memory 18 = .ok (.iconst 0, 1) := by decide +kernel
theorem dX9_memory_19 : decode cX9_memory 19 = .ok (.sipush 9999, 3) := by decide +kernel
theorem dX9_memory_22 : decode cX9_memory 22 = .ok (.invokestatic 57, 3) := by decide +kernel
theorem dX9_memory_25 : decode cX9_memory 25 = .ok (.ifCond .ne 9, 3) := by decide +kernel
theorem dX9_memory_28 : decode cX9_memory 28 = .ok (.aload_n 0, 1) := by decide +kernel
theorem dX9_memory_29 : decode cX9_memory 29 = .ok (.iconst 1, 1) := by decide +kernel
theorem dX9_memory_30 : decode cX9_memory 30 = .ok (.invokevirtual 61, 3) := by decide +kernel
theorem dX9_memory_33 : decode cX9_memory 33 = .ok (.ireturn, 1) := by decide +kernel
theorem dX9_memory_34 : decode cX9_memory 34 = .ok (.aload_n 0, 1) := by decide +kernel
theorem dX9_memory_35 : decode cX9_memory 35 = .ok (.getfield 7, 3) := by decide +kernel
theorem dX9_memory_38 : decode cX9_memory 38 = .ok (.bipush 6, 2) := by decide +kernel
theorem dX9_memory_40 : decode cX9_memory 40 = .ok (.iaload, 1) := by decide +kernel
theorem dX9_memory_41 : decode cX9_memory 41 = .ok (.bipush 9, 2) := by decide +kernel
theorem dX9_memory_43 : decode cX9_memory 43 = .ok (.if_icmp .ne 9, 3) := by decide +kernel
theorem dX9_memory_46 : decode cX9_memory 46 = .ok (.aload_n 0, 1) := by decide +kernel
theorem dX9_memory_47 : decode cX9_memory 47 = .ok (.iconst 4, 1) := by decide +kernel
theorem dX9_memory_48 : decode cX9_memory 48 = .ok (.invokevirtual 61, 3) := by decide +kernel
theorem dX9_memory_51 : decode cX9_memory 51 = .ok (.ireturn, 1) := by decide +kernel
theorem dX9_memory_52 : decode cX9_memory 52 = .ok (.aload_n 0, 1) := by decide +kernel
theorem dX9_memory_53 : decode cX9_memory 53 = .ok (.getfield 7, 3) := by decide +kernel
theorem dX9_memory_56 : decode cX9_memory 56 = .ok (.bipush 6, 2) := by decide +kernel
theorem dX9_memory_58 : decode cX9_memory 58 = .ok (.iaload, 1) := by decide +kernel
theorem dX9_memory_59 : decode cX9_memory 59 = .ok (.istore 4, 2) := by decide +kernel
theorem dX9_memory_61 : decode cX9_memory 61 = .ok (.aload_n 0, 1) := by decide +kernel
theorem dX9_memory_62 : decode cX9_memory 62 = .ok (.iload 4, 2) := by decide +kernel
theorem dX9_memory_64 : decode cX9_memory 64 = .ok (.iconst 0, 1) := by decide +kernel
theorem dX9_memory_65 : decode cX9_memory 65 = .ok (.iload_n 1, 1) := by decide +kernel
theorem dX9_memory_66 : decode cX9_memory 66 = .ok (.bipush 10, 2) := by decide +kernel
theorem dX9_memory_68 : decode cX9_memory 68 = .ok (.idiv, 1) := by decide +kernel
theorem dX9_memory_69 : decode cX9_memory 69 = .ok (.invokevirtual 157, 3) := by decide +kernel
theorem dX9_memory_72 : decode cX9_memory 72 = .ok (.aload_n 0, 1) := by decide +kernel
theorem dX9_memory_73 : decode cX9_memory 73 = .ok (.iload 4, 2) := by decide +kernel
theorem dX9_memory_75 : decode cX9_memory 75 = .ok (.iconst 1, 1) := by decide +kernel
theorem dX9_memory_76 : decode cX9_memory 76 = .ok (.iload_n 1, 1) := by decide +kernel
theorem dX9_memory_77 : decode cX9_memory 77 = .ok (.bipush 10, 2) := by decide +kernel
theorem dX9_memory_79 : decode cX9_memory 79 = .ok (.irem, 1) := by decide +kernel
theorem dX9_memory_80 : decode cX9_memory 80 = .ok (.invokevirtual 157, 3) := by decide +kernel
theorem dX9_memory_83 : decode cX9_memory 83 = .ok (.aload_n 0, 1) := by decide +kernel
theorem dX9_memory_84 : decode cX9_memory 84 = .ok (.iload 4, 2) := by decide +kernel
theorem dX9_memory_86 : decode cX9_memory 86 = .ok (.iconst 2, 1) := by decide +kernel
theorem dX9_memory_87 : decode cX9_memory 87 = .ok (.iload_n 2, 1) := by decide +kernel
theorem dX9_memory_88 : decode cX9_memory 88 = .ok (.invokevirtual 157, 3) := by decide +kernel
theorem dX9_memory_91 : decode cX9_memory 91 = .ok (.aload_n 0, 1) := by decide +kernel
theorem dX9_memory_92 : decode cX9_memory 92 = .ok (.iload 4, 2) := by decide +kernel
theorem dX9_memory_94 : decode cX9_memory 94 = .ok (.iconst 3, 1) := by decide +kernel
theorem dX9_memory_95 : decode cX9_memory 95 = .ok (.iload_n 3, 1) := by decide +kernel
theorem dX9_memory_96 : decode cX9_memory 96 = .ok (.bipush 100, 2) := by decide +kernel
theorem dX9_memory_98 : decode cX9_memory 98 = .ok (.idiv, 1) := by decide +kernel
theorem dX9_memory_99 : decode cX9_memory 99 = .ok (.invokevirtual 157, 3) := by decide +kernel
theorem dX9_memory_102 : decode cX9_memory 102 = .ok (.aload_n 0, 1) := by decide +kernel
theorem dX9_memory_103 : decode cX9_memory 103 = .ok (.iload 4, 2) := by decide +kernel
theorem dX9_memory_105 : decode cX9_memory 105 = .ok (.iconst 4, 1) := by decide +kernel
theorem dX9_memory_106 : decode cX9_memory 106 = .ok (.iload_n 3, 1) := by decide +kernel
theorem dX9_memory_107 : decode cX9_memory 107 = .ok (.bipush 100, 2) := by decide +kernel
theorem dX9_memory_109 : decode cX9_memory 109 = .ok (.irem, 1) := by decide +kernel
theorem dX9_memory_110 : decode cX9_memory 110 = .ok (.invokevirtual 157, 3) := by decide +kernel
theorem dX9_memory_113 : decode cX9_memory 113 = .ok (.aload_n 0, 1) := by decide +kernel
theorem dX9_memory_114 : decode cX9_memory 114 = .ok (.getfield 7, 3) := by decide +kernel
theorem dX9_memory_117 : decode cX9_memory 117 = .ok (.bipush 6, 2) := by decide +kernel
theorem dX9_memory_119 : decode cX9_memory 119 = .ok (.dup2, 1) := by decide +kernel
theorem dX9_memory_120 : decode cX9_memory 120 = .ok (.iaload, 1) := by decide +kernel
theorem dX9_memory_121 : decode cX9_memory 121 = .ok (.iconst 1, 1) := by decide +kernel
theorem dX9_memory_122 : decode cX9_memory 122 = .ok (.iadd, 1) := by decide +kernel
theorem dX9_memory_123 : decode cX9_memory 123 = .ok (.iastore, 1) := by decide +kernel
theorem dX9_memory_124 : decode cX9_memory 124 = .ok (.iload 4, 2) := by decide +kernel
theorem dX9_memory_126 : decode cX9_memory 126 = .ok (.ireturn, 1) := by decide +kernel
theorem dX9_memoryIs_0 : decode cX9_memoryIs 0 = .ok (.aload_n 0, 1) := by decide +kernel
theorem dX9_memoryIs_1 : decode cX9_memoryIs 1 = .ok (.iload_n 1, 1) := by decide +kernel
theorem dX9_memoryIs_2 : decode cX9_memoryIs 2 = .ok (.invokevirtual 168, 3) := by decide +kernel
theorem dX9_memoryIs_5 : decode cX9_memoryIs 5 = .ok (.ifCond .eq 13, 3) := by decide +kernel
theorem dX9_memoryIs_8 : decode cX9_memoryIs 8 = .ok (.iload_n 2, 1) := by decide +kernel
theorem dX9_memoryIs_9 : decode cX9_memoryIs 9 = .ok (.iconst 0, 1) := by decide +kernel
theorem dX9_memoryIs_10 : decode cX9_memoryIs 10 = .ok (.bipush 6, 2) := by decide +kernel
theorem dX9_memoryIs_12 : decode cX9_memoryIs 12 = .ok (.invokestatic 57, 3) := by decide +kernel
theorem dX9_memoryIs_15 : decode cX9_memoryIs 15 = .ok (.ifCond .ne 9, 3) := by decide +kernel
theorem dX9_memoryIs_18 : decode cX9_memoryIs 18 = .ok (.aload_n 0, 1) := by decide +kernel
theorem dX9_memoryIs_19 : decode cX9_memoryIs 19 = .ok (.iconst 1, 1) := by decide +kernel
theorem dX9_memoryIs_20 : decode cX9_memoryIs 20 = .ok (.invokevirtual 61, 3) := by decide +kernel
theorem dX9_memoryIs_23 : decode cX9_memoryIs 23 = .ok (.ireturn, 1) := by decide +kernel
theorem dX9_memoryIs_24 : decode cX9_memoryIs 24 = .ok (.aload_n 0, 1) := by decide +kernel
theorem dX9_memoryIs_25 : decode cX9_memoryIs 25 = .ok (.iload_n 1, 1) := by decide +kernel
theorem dX9_memoryIs_26 : decode cX9_memoryIs 26 = .ok (.iconst 2, 1) := by decide +kernel
theorem dX9_memoryIs_27 : decode cX9_memoryIs 27 = .ok (.invokevirtual 120, 3) := by decide +kernel
theorem dX9_memoryIs_30 : decode cX9_memoryIs 30 = .ok (.istore_n 3, 1) := by decide +kernel
theorem dX9_memoryIs_31 : decode cX9_memoryIs 31 = .ok (.iload_n 2, 1) := by decide +kernel
theorem dX9_memoryIs_32 : decode cX9_memoryIs 32 = .ok (.iconst 5, 1) := by decide +kernel
theorem dX9_memoryIs_33 : decode cX9_memoryIs 33 = .ok (.if_icmp .ge 12, 3) := by decide +kernel
theorem dX9_memoryIs_36 : decode cX9_memoryIs 36 = .ok (.aload_n 0, 1) := by decide +kernel
theorem dX9_memoryIs_37 : decode cX9_memoryIs 37 = .ok (.iload_n 1, 1) := by decide +kernel
theorem dX9_memoryIs_38 : decode cX9_memoryIs 38 = .ok (.iload_n 2, 1) := by decide +kernel
theorem dX9_memoryIs_39 : decode cX9_memoryIs 39 = .ok (.invokevirtual 120, 3) := by decide +kernel
theorem dX9_memoryIs_42 : decode cX9_memoryIs 42 = .ok (.goto 26, 3) := by decide +kernel
theorem dX9_memoryIs_45 : decode cX9_memoryIs 45 = .ok (.iload_n 2, 1) := by decide +kernel
theorem dX9_memoryIs_46 : decode cX9_memoryIs 46 = .ok (.iconst 5, 1) := by decide +kernel
theorem dX9_memoryIs_47 : decode cX9_memoryIs 47 = .ok (.if_icmp .ne 12, 3) := by decide +kernel
theorem dX9_memoryIs_50 : decode cX9_memoryIs 50 = .ok (.aload_n 0, 1) := by decide +kernel
theorem dX9_memoryIs_51 : decode cX9_memoryIs 51 = .ok (.iload_n 1, 1) := by decide +kernel
theorem dX9_memoryIs_52 : decode cX9_memoryIs 52 = .ok (.iload_n 3, 1) := by decide +kernel
theorem dX9_memoryIs_53 : decode cX9_memoryIs 53 = .ok (.invokevirtual 139, 3) := by decide +kernel
theorem dX9_memoryIs_56 : decode cX9_memoryIs 56 = .ok (.goto 12, 3) := by decide +kernel
theorem dX9_memoryIs_59 : decode cX9_memoryIs 59 = .ok (.aload_n 0, 1) := by decide +kernel
theorem dX9_memoryIs_60 : decode cX9_memoryIs 60 = .ok (.iload_n 1, 1) := by decide +kernel
theorem dX9_memoryIs_61 : decode cX9_memoryIs 61 = .ok (.iload_n 3, 1) := by decide +kernel
theorem dX9_memoryIs_62 : decode cX9_memoryIs 62 = .ok (.invokestatic 130, 3) := by decide +kernel
theorem dX9_memoryIs_65 : decode cX9_memoryIs 65 = .ok (.invokevirtual 142, 3) := by decide +kernel
theorem dX9_memoryIs_68 : decode cX9_memoryIs 68 = .ok (.ireturn, 1) := by decide +kernel
theorem dX9_become_0 : decode cX9_become 0 = .ok (.aload_n 0, 1) := by decide +kernel
theorem dX9_become_1 : decode cX9_become 1 = .ok (.iload_n 1, 1) := by decide +kernel
theorem dX9_become_2 : decode cX9_become 2 = .ok (.invokevirtual 168, 3) := by decide +kernel
theorem dX9_become_5 : decode cX9_become 5 = .ok (.ifCond .eq 10, 3) := by decide +kernel
theorem dX9_become_8 : decode cX9_become 8 = .ok (.iload_n 2, 1) := by decide +kernel
theorem dX9_become_9 : decode cX9_become 9 = .ok (.invokestatic 165, 3) := by decide +kernel
theorem dX9_become_12 : decode cX9_become 12 = .ok (.ifCond .ne 9, 3) := by decide +kernel
theorem dX9_become_15 : decode cX9_become 15 = .ok (.aload_n 0, 1) := by decide +kernel
theorem dX9_become_16 : decode cX9_become 16 = .ok (.iconst 1, 1) := by decide +kernel
theorem dX9_become_17 : decode cX9_become 17 = .ok (.invokevirtual 61, 3) := by decide +kernel
theorem dX9_become_20 : decode cX9_become 20 = .ok (.ireturn, 1) := by decide +kernel
theorem dX9_become_21 : decode cX9_become 21 = .ok (.aload_n 0, 1) := by decide +kernel
theorem dX9_become_22 : decode cX9_become 22 = .ok (.iload_n 1, 1) := by decide +kernel
theorem dX9_become_23 : decode cX9_become 23 = .ok (.iconst 1, 1) := by decide +kernel
theorem dX9_become_24 : decode cX9_become 24 = .ok (.iload_n 2, 1) := by decide +kernel
theorem dX9_become_25 : decode cX9_become 25 = .ok (.bipush 10, 2) := by decide +kernel
theorem dX9_become_27 : decode cX9_become 27 = .ok (.irem, 1) := by decide +kernel
theorem dX9_become_28 : decode cX9_become 28 = .ok (.invokevirtual 157, 3) := by decide +kernel
theorem dX9_become_31 : decode cX9_become 31 = .ok (.aload_n 0, 1) := by decide +kernel
theorem dX9_become_32 : decode cX9_become 32 = .ok (.bipush 8, 2) := by decide +kernel
theorem dX9_become_34 : decode cX9_become 34 = .ok (.iconst 5, 1) := by decide +kernel
theorem dX9_become_35 : decode cX9_become 35 = .ok (.iload_n 1, 1) := by decide +kernel
theorem dX9_become_36 : decode cX9_become 36 = .ok (.imul, 1) := by decide +kernel
theorem dX9_become_37 : decode cX9_become 37 = .ok (.iadd, 1) := by decide +kernel
theorem dX9_become_38 : decode cX9_become 38 = .ok (.iconst 0, 1) := by decide +kernel
theorem dX9_become_39 : decode cX9_become 39 = .ok (.iadd, 1) := by decide +kernel
theorem dX9_become_40 : decode cX9_become 40 = .ok (.iload_n 2, 1) := by decide +kernel
theorem dX9_become_41 : decode cX9_become 41 = .ok (.bipush 10, 2) := by decide +kernel
theorem dX9_become_43 : decode cX9_become 43 = .ok (.idiv, 1) := by decide +kernel
theorem dX9_become_44 : decode cX9_become 44 = .ok (.invokevirtual 171, 3) := by decide +kernel
theorem dX9_become_47 : decode cX9_become 47 = .ok (.ireturn, 1) := by decide +kernel
theorem dX9_as_0 : decode cX9_as 0 = .ok (.aload_n 0, 1) := by decide +kernel
theorem dX9_as_1 : decode cX9_as 1 = .ok (.iload_n 1, 1) := by decide +kernel
theorem dX9_as_2 : decode cX9_as 2 = .ok (.invokevirtual 168, 3) := by decide +kernel
