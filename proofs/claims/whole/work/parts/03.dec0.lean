theorem dX0_init_0 : decode cX0_init 0 = .ok (.aload_n 0, 1) := by decide +kernel
theorem dX0_init_1 : decode cX0_init 1 = .ok (.invokespecial 3, 3) := by decide +kernel
theorem dX0_init_4 : decode cX0_init 4 = .ok (.aload_n 0, 1) := by decide +kernel
theorem dX0_init_5 : decode cX0_init 5 = .ok (.sipush 512, 3) := by decide +kernel
theorem dX0_init_8 : decode cX0_init 8 = .ok (.newarray .int, 2) := by decide +kernel
theorem dX0_init_10 : decode cX0_init 10 = .ok (.putfield 9, 3) := by decide +kernel
theorem dX0_init_13 : decode cX0_init 13 = .ok (.aload_n 0, 1) := by decide +kernel
theorem dX0_init_14 : decode cX0_init 14 = .ok (.sipush 512, 3) := by decide +kernel
theorem dX0_init_17 : decode cX0_init 17 = .ok (.newarray .int, 2) := by decide +kernel
theorem dX0_init_19 : decode cX0_init 19 = .ok (.putfield 15, 3) := by decide +kernel
theorem dX0_init_22 : decode cX0_init 22 = .ok (.aload_n 0, 1) := by decide +kernel
theorem dX0_init_23 : decode cX0_init 23 = .ok (.sipush 512, 3) := by decide +kernel
theorem dX0_init_26 : decode cX0_init 26 = .ok (.newarray .int, 2) := by decide +kernel
theorem dX0_init_28 : decode cX0_init 28 = .ok (.putfield 18, 3) := by decide +kernel
theorem dX0_init_31 : decode cX0_init 31 = .ok (.aload_n 0, 1) := by decide +kernel
theorem dX0_init_32 : decode cX0_init 32 = .ok (.iconst 1, 1) := by decide +kernel
theorem dX0_init_33 : decode cX0_init 33 = .ok (.putfield 21, 3) := by decide +kernel
theorem dX0_init_36 : decode cX0_init 36 = .ok (.aload_n 0, 1) := by decide +kernel
theorem dX0_init_37 : decode cX0_init 37 = .ok (.iconst (-1), 1) := by decide +kernel
theorem dX0_init_38 : decode cX0_init 38 = .ok (.putfield 25, 3) := by decide +kernel
theorem dX0_init_41 : decode cX0_init 41 = .ok (.return_, 1) := by decide +kernel
theorem dX0_find_0 : decode cX0_find 0 = .ok (.aload_n 0, 1) := by decide +kernel
theorem dX0_find_1 : decode cX0_find 1 = .ok (.iconst 1, 1) := by decide +kernel
theorem dX0_find_2 : decode cX0_find 2 = .ok (.putfield 21, 3) := by decide +kernel
theorem dX0_find_5 : decode cX0_find 5 = .ok (.iconst 0, 1) := by decide +kernel
theorem dX0_find_6 : decode cX0_find 6 = .ok (.istore_n 3, 1) := by decide +kernel
theorem dX0_find_7 : decode cX0_find 7 = .ok (.iload_n 3, 1) := by decide +kernel
theorem dX0_find_8 : decode cX0_find 8 = .ok (.aload_n 1, 1) := by decide +kernel
theorem dX0_find_9 : decode cX0_find 9 = .ok (.getfield 28, 3) := by decide +kernel
theorem dX0_find_12 : decode cX0_find 12 = .ok (.if_icmp .ge 52, 3) := by decide +kernel
theorem dX0_find_15 : decode cX0_find 15 = .ok (.aload_n 1, 1) := by decide +kernel
theorem dX0_find_16 : decode cX0_find 16 = .ok (.iload_n 3, 1) := by decide +kernel
theorem dX0_find_17 : decode cX0_find 17 = .ok (.invokevirtual 33, 3) := by decide +kernel
theorem dX0_find_20 : decode cX0_find 20 = .ok (.astore 4, 2) := by decide +kernel
theorem dX0_find_22 : decode cX0_find 22 = .ok (.aload 4, 2) := by decide +kernel
theorem dX0_find_24 : decode cX0_find 24 = .ok (.ifnull 34, 3) := by decide +kernel
theorem dX0_find_27 : decode cX0_find 27 = .ok (.aload 4, 2) := by decide +kernel
theorem dX0_find_29 : decode cX0_find 29 = .ok (.getfield 37, 3) := by decide +kernel
theorem dX0_find_32 : decode cX0_find 32 = .ok (.ifCond .le 26, 3) := by decide +kernel
theorem dX0_find_35 : decode cX0_find 35 = .ok (.iload_n 3, 1) := by decide +kernel
theorem dX0_find_36 : decode cX0_find 36 = .ok (.iload_n 2, 1) := by decide +kernel
theorem dX0_find_37 : decode cX0_find 37 = .ok (.if_icmp .eq 21, 3) := by decide +kernel
theorem dX0_find_40 : decode cX0_find 40 = .ok (.aload_n 0, 1) := by decide +kernel
theorem dX0_find_41 : decode cX0_find 41 = .ok (.iconst 1, 1) := by decide +kernel
theorem dX0_find_42 : decode cX0_find 42 = .ok (.iload_n 3, 1) := by decide +kernel
theorem dX0_find_43 : decode cX0_find 43 = .ok (.ishl, 1) := by decide +kernel
theorem dX0_find_44 : decode cX0_find 44 = .ok (.aload_n 1, 1) := by decide +kernel
theorem dX0_find_45 : decode cX0_find 45 = .ok (.aload 4, 2) := by decide +kernel
theorem dX0_find_47 : decode cX0_find 47 = .ok (.invokevirtual 42, 3) := by decide +kernel
theorem dX0_find_50 : decode cX0_find 50 = .ok (.aload 4, 2) := by decide +kernel
theorem dX0_find_52 : decode cX0_find 52 = .ok (.getfield 45, 3) := by decide +kernel
theorem dX0_find_55 : decode cX0_find 55 = .ok (.invokevirtual 48, 3) := by decide +kernel
theorem dX0_find_58 : decode cX0_find 58 = .ok (.iinc 3 1, 3) := by decide +kernel
theorem dX0_find_61 : decode cX0_find 61 = .ok (.goto (-54), 3) := by decide +kernel
theorem dX0_find_64 : decode cX0_find 64 = .ok (.aload_n 0, 1) := by decide +kernel
theorem dX0_find_65 : decode cX0_find 65 = .ok (.aload_n 1, 1) := by decide +kernel
theorem dX0_find_66 : decode cX0_find 66 = .ok (.invokevirtual 52, 3) := by decide +kernel
theorem dX0_find_69 : decode cX0_find 69 = .ok (.invokevirtual 56, 3) := by decide +kernel
theorem dX0_find_72 : decode cX0_find 72 = .ok (.aload_n 0, 1) := by decide +kernel
theorem dX0_find_73 : decode cX0_find 73 = .ok (.getfield 25, 3) := by decide +kernel
theorem dX0_find_76 : decode cX0_find 76 = .ok (.iconst (-1), 1) := by decide +kernel
theorem dX0_find_77 : decode cX0_find 77 = .ok (.if_icmp .eq 7, 3) := by decide +kernel
theorem dX0_find_80 : decode cX0_find 80 = .ok (.iconst 1, 1) := by decide +kernel
theorem dX0_find_81 : decode cX0_find 81 = .ok (.goto 4, 3) := by decide +kernel
theorem dX0_find_84 : decode cX0_find 84 = .ok (.iconst 0, 1) := by decide +kernel
theorem dX0_find_85 : decode cX0_find 85 = .ok (.ireturn, 1) := by decide +kernel
theorem dX0_joinToEach_0 : decode cX0_joinToEach 0 = .ok (.aload_n 0, 1) := by decide +kernel
theorem dX0_joinToEach_1 : decode cX0_joinToEach 1 = .ok (.getfield 21, 3) := by decide +kernel
theorem dX0_joinToEach_4 : decode cX0_joinToEach 4 = .ok (.iconst 2, 1) := by decide +kernel
theorem dX0_joinToEach_5 : decode cX0_joinToEach 5 = .ok (.imul, 1) := by decide +kernel
theorem dX0_joinToEach_6 : decode cX0_joinToEach 6 = .ok (.aload_n 0, 1) := by decide +kernel
theorem dX0_joinToEach_7 : decode cX0_joinToEach 7 = .ok (.getfield 9, 3) := by decide +kernel
theorem dX0_joinToEach_10 : decode cX0_joinToEach 10 = .ok (.arraylength, 1) := by decide +kernel
theorem dX0_joinToEach_11 : decode cX0_joinToEach 11 = .ok (.if_icmp .le 4, 3) := by decide +kernel
theorem dX0_joinToEach_14 : decode cX0_joinToEach 14 = .ok (.return_, 1) := by decide +kernel
theorem dX0_joinToEach_15 : decode cX0_joinToEach 15 = .ok (.iconst 0, 1) := by decide +kernel
theorem dX0_joinToEach_16 : decode cX0_joinToEach 16 = .ok (.istore 4, 2) := by decide +kernel
theorem dX0_joinToEach_18 : decode cX0_joinToEach 18 = .ok (.iload 4, 2) := by decide +kernel
theorem dX0_joinToEach_20 : decode cX0_joinToEach 20 = .ok (.aload_n 0, 1) := by decide +kernel
theorem dX0_joinToEach_21 : decode cX0_joinToEach 21 = .ok (.getfield 21, 3) := by decide +kernel
theorem dX0_joinToEach_24 : decode cX0_joinToEach 24 = .ok (.if_icmp .ge 72, 3) := by decide +kernel
theorem dX0_joinToEach_27 : decode cX0_joinToEach 27 = .ok (.aload_n 0, 1) := by decide +kernel
theorem dX0_joinToEach_28 : decode cX0_joinToEach 28 = .ok (.getfield 9, 3) := by decide +kernel
theorem dX0_joinToEach_31 : decode cX0_joinToEach 31 = .ok (.aload_n 0, 1) := by decide +kernel
theorem dX0_joinToEach_32 : decode cX0_joinToEach 32 = .ok (.getfield 21, 3) := by decide +kernel
theorem dX0_joinToEach_35 : decode cX0_joinToEach 35 = .ok (.iload 4, 2) := by decide +kernel
theorem dX0_joinToEach_37 : decode cX0_joinToEach 37 = .ok (.iadd, 1) := by decide +kernel
theorem dX0_joinToEach_38 : decode cX0_joinToEach 38 = .ok (.aload_n 0, 1) := by decide +kernel
theorem dX0_joinToEach_39 : decode cX0_joinToEach 39 = .ok (.getfield 9, 3) := by decide +kernel
theorem dX0_joinToEach_42 : decode cX0_joinToEach 42 = .ok (.iload 4, 2) := by decide +kernel
theorem dX0_joinToEach_44 : decode cX0_joinToEach 44 = .ok (.iaload, 1) := by decide +kernel
theorem dX0_joinToEach_45 : decode cX0_joinToEach 45 = .ok (.iload_n 1, 1) := by decide +kernel
theorem dX0_joinToEach_46 : decode cX0_joinToEach 46 = .ok (.ior, 1) := by decide +kernel
theorem dX0_joinToEach_47 : decode cX0_joinToEach 47 = .ok (.iastore, 1) := by decide +kernel
theorem dX0_joinToEach_48 : decode cX0_joinToEach 48 = .ok (.aload_n 0, 1) := by decide +kernel
theorem dX0_joinToEach_49 : decode cX0_joinToEach 49 = .ok (.getfield 15, 3) := by decide +kernel
theorem dX0_joinToEach_52 : decode cX0_joinToEach 52 = .ok (.aload_n 0, 1) := by decide +kernel
theorem dX0_joinToEach_53 : decode cX0_joinToEach 53 = .ok (.getfield 21, 3) := by decide +kernel
theorem dX0_joinToEach_56 : decode cX0_joinToEach 56 = .ok (.iload 4, 2) := by decide +kernel
theorem dX0_joinToEach_58 : decode cX0_joinToEach 58 = .ok (.iadd, 1) := by decide +kernel
theorem dX0_joinToEach_59 : decode cX0_joinToEach 59 = .ok (.aload_n 0, 1) := by decide +kernel
theorem dX0_joinToEach_60 : decode cX0_joinToEach 60 = .ok (.getfield 15, 3) := by decide +kernel
theorem dX0_joinToEach_63 : decode cX0_joinToEach 63 = .ok (.iload 4, 2) := by decide +kernel
theorem dX0_joinToEach_65 : decode cX0_joinToEach 65 = .ok (.iaload, 1) := by decide +kernel
theorem dX0_joinToEach_66 : decode cX0_joinToEach 66 = .ok (.iload_n 2, 1) := by decide +kernel
theorem dX0_joinToEach_67 : decode cX0_joinToEach 67 = .ok (.iadd, 1) := by decide +kernel
theorem dX0_joinToEach_68 : decode cX0_joinToEach 68 = .ok (.iastore, 1) := by decide +kernel
theorem dX0_joinToEach_69 : decode cX0_joinToEach 69 = .ok (.aload_n 0, 1) := by decide +kernel
theorem dX0_joinToEach_70 : decode cX0_joinToEach 70 = .ok (.getfield 18, 3) := by decide +kernel
theorem dX0_joinToEach_73 : decode cX0_joinToEach 73 = .ok (.aload_n 0, 1) := by decide +kernel
theorem dX0_joinToEach_74 : decode cX0_joinToEach 74 = .ok (.getfield 21, 3) := by decide +kernel
theorem dX0_joinToEach_77 : decode cX0_joinToEach 77 = .ok (.iload 4, 2) := by decide +kernel
theorem dX0_joinToEach_79 : decode cX0_joinToEach 79 = .ok (.iadd, 1) := by decide +kernel
theorem dX0_joinToEach_80 : decode cX0_joinToEach 80 = .ok (.aload_n 0, 1) := by decide +kernel
theorem dX0_joinToEach_81 : decode cX0_joinToEach 81 = .ok (.getfield 18, 3) := by decide +kernel
theorem dX0_joinToEach_84 : decode cX0_joinToEach 84 = .ok (.iload 4, 2) := by decide +kernel
theorem dX0_joinToEach_86 : decode cX0_joinToEach 86 = .ok (.iaload, 1) := by decide +kernel
theorem dX0_joinToEach_87 : decode cX0_joinToEach 87 = .ok (.iload_n 3, 1) := by decide +kernel
theorem dX0_joinToEach_88 : decode cX0_joinToEach 88 = .ok (.iadd, 1) := by decide +kernel
theorem dX0_joinToEach_89 : decode cX0_joinToEach 89 = .ok (.iastore, 1) := by decide +kernel
theorem dX0_joinToEach_90 : decode cX0_joinToEach 90 = .ok (.iinc 4 1, 3) := by decide +kernel
theorem dX0_joinToEach_93 : decode cX0_joinToEach 93 = .ok (.goto (-75), 3) := by decide +kernel
theorem dX0_joinToEach_96 : decode cX0_joinToEach 96 = .ok (.aload_n 0, 1) := by decide +kernel
theorem dX0_joinToEach_97 : decode cX0_joinToEach 97 = .ok (.dup, 1) := by decide +kernel
theorem dX0_joinToEach_98 : decode cX0_joinToEach 98 = .ok (.getfield 21, 3) := by decide +kernel
theorem dX0_joinToEach_101 : decode cX0_joinToEach 101 = .ok (.iconst 2, 1) := by decide +kernel
theorem dX0_joinToEach_102 : decode cX0_joinToEach 102 = .ok (.imul, 1) := by decide +kernel
theorem dX0_joinToEach_103 : decode cX0_joinToEach 103 = .ok (.putfield 21, 3) := by decide +kernel
theorem dX0_joinToEach_106 : decode cX0_joinToEach 106 = .ok (.return_, 1) := by decide +kernel
theorem dX0_takeLeastDear_0 : decode cX0_takeLeastDear 0 = .ok (.aload_n 0, 1) := by decide +kernel
theorem dX0_takeLeastDear_1 : decode cX0_takeLeastDear 1 = .ok (.iconst (-1), 1) := by decide +kernel
theorem dX0_takeLeastDear_2 : decode cX0_takeLeastDear 2 = .ok (.putfield 25, 3) := by decide +kernel
theorem dX0_takeLeastDear_5 : decode cX0_takeLeastDear 5 = .ok (.iconst 0, 1) := by decide +kernel
theorem dX0_takeLeastDear_6 : decode cX0_takeLeastDear 6 = .ok (.istore_n 2, 1) := by decide +kernel
theorem dX0_takeLeastDear_7 : decode cX0_takeLeastDear 7 = .ok (.iconst 0, 1) := by decide +kernel
theorem dX0_takeLeastDear_8 : decode cX0_takeLeastDear 8 = .ok (.istore_n 3, 1) := by decide +kernel
theorem dX0_takeLeastDear_9 : decode cX0_takeLeastDear 9 = .ok (.iload_n 3, 1) := by decide +kernel
theorem dX0_takeLeastDear_10 : decode cX0_takeLeastDear 10 = .ok (.aload_n 0, 1) := by decide +kernel
theorem dX0_takeLeastDear_11 : decode cX0_takeLeastDear 11 = .ok (.getfield 21, 3) := by decide +kernel
theorem dX0_takeLeastDear_14 : decode cX0_takeLeastDear 14 = .ok (.if_icmp .ge 58, 3) := by decide +kernel
theorem dX0_takeLeastDear_17 : decode cX0_takeLeastDear 17 = .ok (.iload_n 3, 1) := by decide +kernel
theorem dX0_takeLeastDear_18 : decode cX0_takeLeastDear 18 = .ok (.aload_n 0, 1) := by decide +kernel
theorem dX0_takeLeastDear_19 : decode cX0_takeLeastDear 19 = .ok (.getfield 9, 3) := by decide +kernel
theorem dX0_takeLeastDear_22 : decode cX0_takeLeastDear 22 = .ok (.arraylength, 1) := by decide +kernel
theorem dX0_takeLeastDear_23 : decode cX0_takeLeastDear 23 = .ok (.if_icmp .ge 49, 3) := by decide +kernel
theorem dX0_takeLeastDear_26 : decode cX0_takeLeastDear 26 = .ok (.aload_n 0, 1) := by decide +kernel
theorem dX0_takeLeastDear_27 : decode cX0_takeLeastDear 27 = .ok (.getfield 15, 3) := by decide +kernel
theorem dX0_takeLeastDear_30 : decode cX0_takeLeastDear 30 = .ok (.iload_n 3, 1) := by decide +kernel
theorem dX0_takeLeastDear_31 : decode cX0_takeLeastDear 31 = .ok (.iaload, 1) := by decide +kernel
theorem dX0_takeLeastDear_32 : decode cX0_takeLeastDear 32 = .ok (.iload_n 1, 1) := by decide +kernel
theorem dX0_takeLeastDear_33 : decode cX0_takeLeastDear 33 = .ok (.if_icmp .lt 33, 3) := by decide +kernel
theorem dX0_takeLeastDear_36 : decode cX0_takeLeastDear 36 = .ok (.aload_n 0, 1) := by decide +kernel
theorem dX0_takeLeastDear_37 : decode cX0_takeLeastDear 37 = .ok (.getfield 25, 3) := by decide +kernel
theorem dX0_takeLeastDear_40 : decode cX0_takeLeastDear 40 = .ok (.iconst (-1), 1) := by decide +kernel
theorem dX0_takeLeastDear_41 : decode cX0_takeLeastDear 41 = .ok (.if_icmp .eq 13, 3) := by decide +kernel
theorem dX0_takeLeastDear_44 : decode cX0_takeLeastDear 44 = .ok (.aload_n 0, 1) := by decide +kernel
theorem dX0_takeLeastDear_45 : decode cX0_takeLeastDear 45 = .ok (.getfield 18, 3) := by decide +kernel
theorem dX0_takeLeastDear_48 : decode cX0_takeLeastDear 48 = .ok (.iload_n 3, 1) := by decide +kernel
theorem dX0_takeLeastDear_49 : decode cX0_takeLeastDear 49 = .ok (.iaload, 1) := by decide +kernel
theorem dX0_takeLeastDear_50 : decode cX0_takeLeastDear 50 = .ok (.iload_n 2, 1) := by decide +kernel
theorem dX0_takeLeastDear_51 : decode cX0_takeLeastDear 51 = .ok (.if_icmp .ge 15, 3) := by decide +kernel
theorem dX0_takeLeastDear_54 : decode cX0_takeLeastDear 54 = .ok (.aload_n 0, 1) := by decide +kernel
theorem dX0_takeLeastDear_55 : decode cX0_takeLeastDear 55 = .ok (.iload_n 3, 1) := by decide +kernel
theorem dX0_takeLeastDear_56 : decode cX0_takeLeastDear 56 = .ok (.putfield 25, 3) := by decide +kernel
theorem dX0_takeLeastDear_59 : decode cX0_takeLeastDear 59 = .ok (.aload_n 0, 1) := by decide +kernel
theorem dX0_takeLeastDear_60 : decode cX0_takeLeastDear 60 = .ok (.getfield 18, 3) := by decide +kernel
theorem dX0_takeLeastDear_63 : decode cX0_takeLeastDear 63 = .ok (.iload_n 3, 1) := by decide +kernel
theorem dX0_takeLeastDear_64 : decode cX0_takeLeastDear 64 = .ok (.iaload, 1) := by decide +kernel
theorem dX0_takeLeastDear_65 : decode cX0_takeLeastDear 65 = .ok (.istore_n 2, 1) := by decide +kernel
theorem dX0_takeLeastDear_66 : decode cX0_takeLeastDear 66 = .ok (.iinc 3 1, 3) := by decide +kernel
theorem dX0_takeLeastDear_69 : decode cX0_takeLeastDear 69 = .ok (.goto (-60), 3) := by decide +kernel
theorem dX0_takeLeastDear_72 : decode cX0_takeLeastDear 72 = .ok (.return_, 1) := by decide +kernel
theorem dX0_foundSet_0 : decode cX0_foundSet 0 = .ok (.aload_n 0, 1) := by decide +kernel
theorem dX0_foundSet_1 : decode cX0_foundSet 1 = .ok (.getfield 25, 3) := by decide +kernel
theorem dX0_foundSet_4 : decode cX0_foundSet 4 = .ok (.ifCond .lt 27, 3) := by decide +kernel
theorem dX0_foundSet_7 : decode cX0_foundSet 7 = .ok (.aload_n 0, 1) := by decide +kernel
theorem dX0_foundSet_8 : decode cX0_foundSet 8 = .ok (.getfield 25, 3) := by decide +kernel
theorem dX0_foundSet_11 : decode cX0_foundSet 11 = .ok (.aload_n 0, 1) := by decide +kernel
theorem dX0_foundSet_12 : decode cX0_foundSet 12 = .ok (.getfield 9, 3) := by decide +kernel
theorem dX0_foundSet_15 : decode cX0_foundSet 15 = .ok (.arraylength, 1) := by decide +kernel
theorem dX0_foundSet_16 : decode cX0_foundSet 16 = .ok (.if_icmp .ge 15, 3) := by decide +kernel
theorem dX0_foundSet_19 : decode cX0_foundSet 19 = .ok (.aload_n 0, 1) := by decide +kernel
theorem dX0_foundSet_20 : decode cX0_foundSet 20 = .ok (.getfield 9, 3) := by decide +kernel
theorem dX0_foundSet_23 : decode cX0_foundSet 23 = .ok (.aload_n 0, 1) := by decide +kernel
theorem dX0_foundSet_24 : decode cX0_foundSet 24 = .ok (.getfield 25, 3) := by decide +kernel
theorem dX0_foundSet_27 : decode cX0_foundSet 27 = .ok (.iaload, 1) := by decide +kernel
theorem dX0_foundSet_28 : decode cX0_foundSet 28 = .ok (.goto 4, 3) := by decide +kernel
theorem dX0_foundSet_31 : decode cX0_foundSet 31 = .ok (.iconst 0, 1) := by decide +kernel
theorem dX0_foundSet_32 : decode cX0_foundSet 32 = .ok (.ireturn, 1) := by decide +kernel
theorem dX0_foundDear_0 : decode cX0_foundDear 0 = .ok (.aload_n 0, 1) := by decide +kernel
theorem dX0_foundDear_1 : decode cX0_foundDear 1 = .ok (.getfield 25, 3) := by decide +kernel
theorem dX0_foundDear_4 : decode cX0_foundDear 4 = .ok (.ifCond .lt 27, 3) := by decide +kernel
theorem dX0_foundDear_7 : decode cX0_foundDear 7 = .ok (.aload_n 0, 1) := by decide +kernel
theorem dX0_foundDear_8 : decode cX0_foundDear 8 = .ok (.getfield 25, 3) := by decide +kernel
theorem dX0_foundDear_11 : decode cX0_foundDear 11 = .ok (.aload_n 0, 1) := by decide +kernel
theorem dX0_foundDear_12 : decode cX0_foundDear 12 = .ok (.getfield 18, 3) := by decide +kernel
theorem dX0_foundDear_15 : decode cX0_foundDear 15 = .ok (.arraylength, 1) := by decide +kernel
theorem dX0_foundDear_16 : decode cX0_foundDear 16 = .ok (.if_icmp .ge 15, 3) := by decide +kernel
theorem dX0_foundDear_19 : decode cX0_foundDear 19 = .ok (.aload_n 0, 1) := by decide +kernel
theorem dX0_foundDear_20 : decode cX0_foundDear 20 = .ok (.getfield 18, 3) := by decide +kernel
theorem dX0_foundDear_23 : decode cX0_foundDear 23 = .ok (.aload_n 0, 1) := by decide +kernel
theorem dX0_foundDear_24 : decode cX0_foundDear 24 = .ok (.getfield 25, 3) := by decide +kernel
theorem dX0_foundDear_27 : decode cX0_foundDear 27 = .ok (.iaload, 1) := by decide +kernel
theorem dX0_foundDear_28 : decode cX0_foundDear 28 = .ok (.goto 4, 3) := by decide +kernel
theorem dX0_foundDear_31 : decode cX0_foundDear 31 = .ok (.iconst 0, 1) := by decide +kernel
theorem dX0_foundDear_32 : decode cX0_foundDear 32 = .ok (.ireturn, 1) := by decide +kernel
theorem dX0_foundGives_0 : decode cX0_foundGives 0 = .ok (.aload_n 0, 1) := by decide +kernel
theorem dX0_foundGives_1 : decode cX0_foundGives 1 = .ok (.getfield 25, 3) := by decide +kernel
theorem dX0_foundGives_4 : decode cX0_foundGives 4 = .ok (.ifCond .lt 27, 3) := by decide +kernel
theorem dX0_foundGives_7 : decode cX0_foundGives 7 = .ok (.aload_n 0, 1) := by decide +kernel
theorem dX0_foundGives_8 : decode cX0_foundGives 8 = .ok (.getfield 25, 3) := by decide +kernel
theorem dX0_foundGives_11 : decode cX0_foundGives 11 = .ok (.aload_n 0, 1) := by decide +kernel
theorem dX0_foundGives_12 : decode cX0_foundGives 12 = .ok (.getfield 15, 3) := by decide +kernel
theorem dX0_foundGives_15 : decode cX0_foundGives 15 = .ok (.arraylength, 1) := by decide +kernel
theorem dX0_foundGives_16 : decode cX0_foundGives 16 = .ok (.if_icmp .ge 15, 3) := by decide +kernel
theorem dX0_foundGives_19 : decode cX0_foundGives 19 = .ok (.aload_n 0, 1) := by decide +kernel
theorem dX0_foundGives_20 : decode cX0_foundGives 20 = .ok (.getfield 15, 3) := by decide +kernel
theorem dX0_foundGives_23 : decode cX0_foundGives 23 = .ok (.aload_n 0, 1) := by decide +kernel
theorem dX0_foundGives_24 : decode cX0_foundGives 24 = .ok (.getfield 25, 3) := by decide +kernel
theorem dX0_foundGives_27 : decode cX0_foundGives 27 = .ok (.iaload, 1) := by decide +kernel
theorem dX0_foundGives_28 : decode cX0_foundGives 28 = .ok (.goto 4, 3) := by decide +kernel
theorem dX0_foundGives_31 : decode cX0_foundGives 31 = .ok (.iconst 0, 1) := by decide +kernel
theorem dX0_foundGives_32 : decode cX0_foundGives 32 = .ok (.ireturn, 1) := by decide +kernel
theorem dX1_init_0 : decode cX1_init 0 = .ok (.aload_n 0, 1) := by decide +kernel
theorem dX1_init_1 : decode cX1_init 1 = .ok (.invokespecial 3, 3) := by decide +kernel
theorem dX1_init_4 : decode cX1_init 4 = .ok (.return_, 1) := by decide +kernel
theorem dX1_copyFrom_0 : decode cX1_copyFrom 0 = .ok (.aload_n 0, 1) := by decide +kernel
theorem dX1_copyFrom_1 : decode cX1_copyFrom 1 = .ok (.aload_n 1, 1) := by decide +kernel
theorem dX1_copyFrom_2 : decode cX1_copyFrom 2 = .ok (.getfield 9, 3) := by decide +kernel
theorem dX1_copyFrom_5 : decode cX1_copyFrom 5 = .ok (.putfield 9, 3) := by decide +kernel
theorem dX1_copyFrom_8 : decode cX1_copyFrom 8 = .ok (.aload_n 0, 1) := by decide +kernel
theorem dX1_copyFrom_9 : decode cX1_copyFrom 9 = .ok (.aload_n 1, 1) := by decide +kernel
theorem dX1_copyFrom_10 : decode cX1_copyFrom 10 = .ok (.getfield 15, 3) := by decide +kernel
theorem dX1_copyFrom_13 : decode cX1_copyFrom 13 = .ok (.putfield 15, 3) := by decide +kernel
theorem dX1_copyFrom_16 : decode cX1_copyFrom 16 = .ok (.aload_n 0, 1) := by decide +kernel
theorem dX1_copyFrom_17 : decode cX1_copyFrom 17 = .ok (.aload_n 1, 1) := by decide +kernel
theorem dX1_copyFrom_18 : decode cX1_copyFrom 18 = .ok (.getfield 18, 3) := by decide +kernel
theorem dX1_copyFrom_21 : decode cX1_copyFrom 21 = .ok (.putfield 18, 3) := by decide +kernel
theorem dX1_copyFrom_24 : decode cX1_copyFrom 24 = .ok (.aload_n 0, 1) := by decide +kernel
theorem dX1_copyFrom_25 : decode cX1_copyFrom 25 = .ok (.aload_n 1, 1) := by decide +kernel
theorem dX1_copyFrom_26 : decode cX1_copyFrom 26 = .ok (.getfield 21, 3) := by decide +kernel
theorem dX1_copyFrom_29 : decode cX1_copyFrom 29 = .ok (.putfield 21, 3) := by decide +kernel
theorem dX1_copyFrom_32 : decode cX1_copyFrom 32 = .ok (.aload_n 0, 1) := by decide +kernel
theorem dX1_copyFrom_33 : decode cX1_copyFrom 33 = .ok (.aload_n 1, 1) := by decide +kernel
theorem dX1_copyFrom_34 : decode cX1_copyFrom 34 = .ok (.getfield 24, 3) := by decide +kernel
theorem dX1_copyFrom_37 : decode cX1_copyFrom 37 = .ok (.putfield 24, 3) := by decide +kernel
theorem dX1_copyFrom_40 : decode cX1_copyFrom 40 = .ok (.return_, 1) := by decide +kernel
theorem dX1_isOf_0 : decode cX1_isOf 0 = .ok (.aload_n 0, 1) := by decide +kernel
theorem dX1_isOf_1 : decode cX1_isOf 1 = .ok (.getfield 9, 3) := by decide +kernel
theorem dX1_isOf_4 : decode cX1_isOf 4 = .ok (.istore_n 2, 1) := by decide +kernel
theorem dX1_isOf_5 : decode cX1_isOf 5 = .ok (.iconst 0, 1) := by decide +kernel
theorem dX1_isOf_6 : decode cX1_isOf 6 = .ok (.istore_n 3, 1) := by decide +kernel
theorem dX1_isOf_7 : decode cX1_isOf 7 = .ok (.iload_n 3, 1) := by decide +kernel
theorem dX1_isOf_8 : decode cX1_isOf 8 = .ok (.getstatic 27, 3) := by decide +kernel
theorem dX1_isOf_11 : decode cX1_isOf 11 = .ok (.arraylength, 1) := by decide +kernel
theorem dX1_isOf_12 : decode cX1_isOf 12 = .ok (.if_icmp .ge 38, 3) := by decide +kernel
theorem dX1_isOf_15 : decode cX1_isOf 15 = .ok (.iload_n 2, 1) := by decide +kernel
theorem dX1_isOf_16 : decode cX1_isOf 16 = .ok (.iload_n 1, 1) := by decide +kernel
theorem dX1_isOf_17 : decode cX1_isOf 17 = .ok (.if_icmp .ne 5, 3) := by decide +kernel
theorem dX1_isOf_20 : decode cX1_isOf 20 = .ok (.iconst 1, 1) := by decide +kernel
theorem dX1_isOf_21 : decode cX1_isOf 21 = .ok (.ireturn, 1) := by decide +kernel
theorem dX1_isOf_22 : decode cX1_isOf 22 = .ok (.iload_n 2, 1) := by decide +kernel
theorem dX1_isOf_23 : decode cX1_isOf 23 = .ok (.ifCond .lt 19, 3) := by decide +kernel
theorem dX1_isOf_26 : decode cX1_isOf 26 = .ok (.iload_n 2, 1) := by decide +kernel
theorem dX1_isOf_27 : decode cX1_isOf 27 = .ok (.getstatic 27, 3) := by decide +kernel
theorem dX1_isOf_30 : decode cX1_isOf 30 = .ok (.arraylength, 1) := by decide +kernel
theorem dX1_isOf_31 : decode cX1_isOf 31 = .ok (.if_icmp .ge 11, 3) := by decide +kernel
theorem dX1_isOf_34 : decode cX1_isOf 34 = .ok (.getstatic 27, 3) := by decide +kernel
theorem dX1_isOf_37 : decode cX1_isOf 37 = .ok (.iload_n 2, 1) := by decide +kernel
theorem dX1_isOf_38 : decode cX1_isOf 38 = .ok (.iaload, 1) := by decide +kernel
theorem dX1_isOf_39 : decode cX1_isOf 39 = .ok (.goto 4, 3) := by decide +kernel
theorem dX1_isOf_42 : decode cX1_isOf 42 = .ok (.iconst (-1), 1) := by decide +kernel
theorem dX1_isOf_43 : decode cX1_isOf 43 = .ok (.istore_n 2, 1) := by decide +kernel
theorem dX1_isOf_44 : decode cX1_isOf 44 = .ok (.iinc 3 1, 3) := by decide +kernel
theorem dX1_isOf_47 : decode cX1_isOf 47 = .ok (.goto (-40), 3) := by decide +kernel
theorem dX1_isOf_50 : decode cX1_isOf 50 = .ok (.iconst 0, 1) := by decide +kernel
theorem dX1_isOf_51 : decode cX1_isOf 51 = .ok (.ireturn, 1) := by decide +kernel
theorem dX1_burns_0 : decode cX1_burns 0 = .ok (.bipush 10, 2) := by decide +kernel
theorem dX1_burns_2 : decode cX1_burns 2 = .ok (.aload_n 0, 1) := by decide +kernel
theorem dX1_burns_3 : decode cX1_burns 3 = .ok (.getfield 15, 3) := by decide +kernel
theorem dX1_burns_6 : decode cX1_burns 6 = .ok (.iadd, 1) := by decide +kernel
theorem dX1_burns_7 : decode cX1_burns 7 = .ok (.istore_n 2, 1) := by decide +kernel
theorem dX1_burns_8 : decode cX1_burns 8 = .ok (.aload_n 0, 1) := by decide +kernel
theorem dX1_burns_9 : decode cX1_burns 9 = .ok (.getfield 9, 3) := by decide +kernel
theorem dX1_burns_12 : decode cX1_burns 12 = .ok (.tableswitch 87 1 6 #[40, 44, 48, 52, 69, 77], 40) := by decide +kernel
theorem dX1_burns_52 : decode cX1_burns 52 = .ok (.iload_n 2, 1) := by decide +kernel
theorem dX1_burns_53 : decode cX1_burns 53 = .ok (.iconst 5, 1) := by decide +kernel
theorem dX1_burns_54 : decode cX1_burns 54 = .ok (.iadd, 1) := by decide +kernel
theorem dX1_burns_55 : decode cX1_burns 55 = .ok (.ireturn, 1) := by decide +kernel
theorem dX1_burns_56 : decode cX1_burns 56 = .ok (.iconst 2, 1) := by decide +kernel
theorem dX1_burns_57 : decode cX1_burns 57 = .ok (.iload_n 2, 1) := by decide +kernel
theorem dX1_burns_58 : decode cX1_burns 58 = .ok (.imul, 1) := by decide +kernel
theorem dX1_burns_59 : decode cX1_burns 59 = .ok (.ireturn, 1) := by decide +kernel
theorem dX1_burns_60 : decode cX1_burns 60 = .ok (.iload_n 2, 1) := by decide +kernel
theorem dX1_burns_61 : decode cX1_burns 61 = .ok (.iconst 2, 1) := by decide +kernel
theorem dX1_burns_62 : decode cX1_burns 62 = .ok (.idiv, 1) := by decide +kernel
theorem dX1_burns_63 : decode cX1_burns 63 = .ok (.ireturn, 1) := by decide +kernel
theorem dX1_burns_64 : decode cX1_burns 64 = .ok (.iload_n 2, 1) := by decide +kernel
theorem dX1_burns_65 : decode cX1_burns 65 = .ok (.iconst 5, 1) := by decide +kernel
theorem dX1_burns_66 : decode cX1_burns 66 = .ok (.iadd, 1) := by decide +kernel
theorem dX1_burns_67 : decode cX1_burns 67 = .ok (.bipush 10, 2) := by decide +kernel
theorem dX1_burns_69 : decode cX1_burns 69 = .ok (.aload_n 0, 1) := by decide +kernel
theorem dX1_burns_70 : decode cX1_burns 70 = .ok (.getfield 18, 3) := by decide +kernel
theorem dX1_burns_73 : decode cX1_burns 73 = .ok (.invokestatic 31, 3) := by decide +kernel
theorem dX1_burns_76 : decode cX1_burns 76 = .ok (.iconst 1, 1) := by decide +kernel
theorem dX1_burns_77 : decode cX1_burns 77 = .ok (.isub, 1) := by decide +kernel
theorem dX1_burns_78 : decode cX1_burns 78 = .ok (.imul, 1) := by decide +kernel
theorem dX1_burns_79 : decode cX1_burns 79 = .ok (.iadd, 1) := by decide +kernel
theorem dX1_burns_80 : decode cX1_burns 80 = .ok (.ireturn, 1) := by decide +kernel
theorem dX1_burns_81 : decode cX1_burns 81 = .ok (.iconst 2, 1) := by decide +kernel
theorem dX1_burns_82 : decode cX1_burns 82 = .ok (.iload_n 2, 1) := by decide +kernel
theorem dX1_burns_83 : decode cX1_burns 83 = .ok (.imul, 1) := by decide +kernel
theorem dX1_burns_84 : decode cX1_burns 84 = .ok (.iload_n 1, 1) := by decide +kernel
theorem dX1_burns_85 : decode cX1_burns 85 = .ok (.iconst 5, 1) := by decide +kernel
theorem dX1_burns_86 : decode cX1_burns 86 = .ok (.irem, 1) := by decide +kernel
theorem dX1_burns_87 : decode cX1_burns 87 = .ok (.iadd, 1) := by decide +kernel
theorem dX1_burns_88 : decode cX1_burns 88 = .ok (.ireturn, 1) := by decide +kernel
theorem dX1_burns_89 : decode cX1_burns 89 = .ok (.iconst 4, 1) := by decide +kernel
theorem dX1_burns_90 : decode cX1_burns 90 = .ok (.aload_n 0, 1) := by decide +kernel
theorem dX1_burns_91 : decode cX1_burns 91 = .ok (.getfield 21, 3) := by decide +kernel
theorem dX1_burns_94 : decode cX1_burns 94 = .ok (.bipush 10, 2) := by decide +kernel
theorem dX1_burns_96 : decode cX1_burns 96 = .ok (.idiv, 1) := by decide +kernel
theorem dX1_burns_97 : decode cX1_burns 97 = .ok (.iadd, 1) := by decide +kernel
theorem dX1_burns_98 : decode cX1_burns 98 = .ok (.ireturn, 1) := by decide +kernel
theorem dX1_burns_99 : decode cX1_burns 99 = .ok (.iload_n 2, 1) := by decide +kernel
theorem dX1_burns_100 : decode cX1_burns 100 = .ok (.ireturn, 1) := by decide +kernel
theorem dX1_smoke_0 : decode cX1_smoke 0 = .ok (.aload_n 0, 1) := by decide +kernel
theorem dX1_smoke_1 : decode cX1_smoke 1 = .ok (.getfield 18, 3) := by decide +kernel
theorem dX1_smoke_4 : decode cX1_smoke 4 = .ok (.invokestatic 31, 3) := by decide +kernel
theorem dX1_smoke_7 : decode cX1_smoke 7 = .ok (.istore_n 2, 1) := by decide +kernel
theorem dX1_smoke_8 : decode cX1_smoke 8 = .ok (.iload_n 1, 1) := by decide +kernel
theorem dX1_smoke_9 : decode cX1_smoke 9 = .ok (.iconst 3, 1) := by decide +kernel
theorem dX1_smoke_10 : decode cX1_smoke 10 = .ok (.idiv, 1) := by decide +kernel
theorem dX1_smoke_11 : decode cX1_smoke 11 = .ok (.istore_n 3, 1) := by decide +kernel
theorem dX1_smoke_12 : decode cX1_smoke 12 = .ok (.iload_n 2, 1) := by decide +kernel
theorem dX1_smoke_13 : decode cX1_smoke 13 = .ok (.iconst 3, 1) := by decide +kernel
theorem dX1_smoke_14 : decode cX1_smoke 14 = .ok (.if_icmp .lt 9, 3) := by decide +kernel
theorem dX1_smoke_17 : decode cX1_smoke 17 = .ok (.iload_n 3, 1) := by decide +kernel
theorem dX1_smoke_18 : decode cX1_smoke 18 = .ok (.iconst 3, 1) := by decide +kernel
theorem dX1_smoke_19 : decode cX1_smoke 19 = .ok (.iadd, 1) := by decide +kernel
theorem dX1_smoke_20 : decode cX1_smoke 20 = .ok (.goto 4, 3) := by decide +kernel
theorem dX1_smoke_23 : decode cX1_smoke 23 = .ok (.iload_n 3, 1) := by decide +kernel
theorem dX1_smoke_24 : decode cX1_smoke 24 = .ok (.istore 4, 2) := by decide +kernel
theorem dX1_smoke_26 : decode cX1_smoke 26 = .ok (.aload_n 0, 1) := by decide +kernel
theorem dX1_smoke_27 : decode cX1_smoke 27 = .ok (.getfield 9, 3) := by decide +kernel
theorem dX1_smoke_30 : decode cX1_smoke 30 = .ok (.tableswitch 61 1 6 #[38, 41, 43, 52, 57, 59], 38) := by decide +kernel
theorem dX1_smoke_68 : decode cX1_smoke 68 = .ok (.iload 4, 2) := by decide +kernel
theorem dX1_smoke_70 : decode cX1_smoke 70 = .ok (.ireturn, 1) := by decide +kernel
theorem dX1_smoke_71 : decode cX1_smoke 71 = .ok (.iconst 0, 1) := by decide +kernel
theorem dX1_smoke_72 : decode cX1_smoke 72 = .ok (.ireturn, 1) := by decide +kernel
theorem dX1_smoke_73 : decode cX1_smoke 73 = .ok (.iload_n 3, 1) := by decide +kernel
theorem dX1_smoke_74 : decode cX1_smoke 74 = .ok (.aload_n 0, 1) := by decide +kernel
theorem dX1_smoke_75 : decode cX1_smoke 75 = .ok (.getfield 15, 3) := by decide +kernel
theorem dX1_smoke_78 : decode cX1_smoke 78 = .ok (.iadd, 1) := by decide +kernel
theorem dX1_smoke_79 : decode cX1_smoke 79 = .ok (.iconst 2, 1) := by decide +kernel
theorem dX1_smoke_80 : decode cX1_smoke 80 = .ok (.iadd, 1) := by decide +kernel
theorem dX1_smoke_81 : decode cX1_smoke 81 = .ok (.ireturn, 1) := by decide +kernel
theorem dX1_smoke_82 : decode cX1_smoke 82 = .ok (.iload 4, 2) := by decide +kernel
theorem dX1_smoke_84 : decode cX1_smoke 84 = .ok (.iload_n 2, 1) := by decide +kernel
theorem dX1_smoke_85 : decode cX1_smoke 85 = .ok (.iadd, 1) := by decide +kernel
theorem dX1_smoke_86 : decode cX1_smoke 86 = .ok (.ireturn, 1) := by decide +kernel
theorem dX1_smoke_87 : decode cX1_smoke 87 = .ok (.iload_n 1, 1) := by decide +kernel
theorem dX1_smoke_88 : decode cX1_smoke 88 = .ok (.ireturn, 1) := by decide +kernel
theorem dX1_smoke_89 : decode cX1_smoke 89 = .ok (.iconst 0, 1) := by decide +kernel
theorem dX1_smoke_90 : decode cX1_smoke 90 = .ok (.ireturn, 1) := by decide +kernel
theorem dX1_smoke_91 : decode cX1_smoke 91 = .ok (.iload_n 3, 1) := by decide +kernel
theorem dX1_smoke_92 : decode cX1_smoke 92 = .ok (.ireturn, 1) := by decide +kernel
theorem dX2_init_0 : decode cX2_init 0 = .ok (.aload_n 0, 1) := by decide +kernel
theorem dX2_init_1 : decode cX2_init 1 = .ok (.invokespecial 3, 3) := by decide +kernel
theorem dX2_init_4 : decode cX2_init 4 = .ok (.aload_n 0, 1) := by decide +kernel
theorem dX2_init_5 : decode cX2_init 5 = .ok (.new 9, 3) := by decide +kernel
theorem dX2_init_8 : decode cX2_init 8 = .ok (.dup, 1) := by decide +kernel
theorem dX2_init_9 : decode cX2_init 9 = .ok (.iconst 0, 1) := by decide +kernel
theorem dX2_init_10 : decode cX2_init 10 = .ok (.invokespecial 11, 3) := by decide +kernel
theorem dX2_init_13 : decode cX2_init 13 = .ok (.putfield 14, 3) := by decide +kernel
theorem dX2_init_16 : decode cX2_init 16 = .ok (.aload_n 0, 1) := by decide +kernel
theorem dX2_init_17 : decode cX2_init 17 = .ok (.new 20, 3) := by decide +kernel
theorem dX2_init_20 : decode cX2_init 20 = .ok (.dup, 1) := by decide +kernel
theorem dX2_init_21 : decode cX2_init 21 = .ok (.bipush 60, 2) := by decide +kernel
theorem dX2_init_23 : decode cX2_init 23 = .ok (.invokespecial 22, 3) := by decide +kernel
theorem dX2_init_26 : decode cX2_init 26 = .ok (.putfield 23, 3) := by decide +kernel
theorem dX2_init_29 : decode cX2_init 29 = .ok (.aload_n 0, 1) := by decide +kernel
theorem dX2_init_30 : decode cX2_init 30 = .ok (.iconst 0, 1) := by decide +kernel
theorem dX2_init_31 : decode cX2_init 31 = .ok (.putfield 27, 3) := by decide +kernel
theorem dX2_init_34 : decode cX2_init 34 = .ok (.aload_n 0, 1) := by decide +kernel
theorem dX2_init_35 : decode cX2_init 35 = .ok (.iconst 0, 1) := by decide +kernel
theorem dX2_init_36 : decode cX2_init 36 = .ok (.putfield 31, 3) := by decide +kernel
theorem dX2_init_39 : decode cX2_init 39 = .ok (.return_, 1) := by decide +kernel
theorem dX2_read_0 : decode cX2_read 0 = .ok (.aload_n 0, 1) := by decide +kernel
theorem dX2_read_1 : decode cX2_read 1 = .ok (.getfield 14, 3) := by decide +kernel
theorem dX2_read_4 : decode cX2_read 4 = .ok (.invokevirtual 34, 3) := by decide +kernel
theorem dX2_read_7 : decode cX2_read 7 = .ok (.aload_n 0, 1) := by decide +kernel
theorem dX2_read_8 : decode cX2_read 8 = .ok (.getfield 23, 3) := by decide +kernel
theorem dX2_read_11 : decode cX2_read 11 = .ok (.aload_n 1, 1) := by decide +kernel
theorem dX2_read_12 : decode cX2_read 12 = .ok (.invokevirtual 37, 3) := by decide +kernel
theorem dX2_read_15 : decode cX2_read 15 = .ok (.aload_n 0, 1) := by decide +kernel
theorem dX2_read_16 : decode cX2_read 16 = .ok (.iload_n 2, 1) := by decide +kernel
theorem dX2_read_17 : decode cX2_read 17 = .ok (.putfield 27, 3) := by decide +kernel
theorem dX2_read_20 : decode cX2_read 20 = .ok (.aload_n 0, 1) := by decide +kernel
theorem dX2_read_21 : decode cX2_read 21 = .ok (.iconst 0, 1) := by decide +kernel
theorem dX2_read_22 : decode cX2_read 22 = .ok (.putfield 31, 3) := by decide +kernel
theorem dX2_read_25 : decode cX2_read 25 = .ok (.aload_n 0, 1) := by decide +kernel
theorem dX2_read_26 : decode cX2_read 26 = .ok (.iconst 0, 1) := by decide +kernel
theorem dX2_read_27 : decode cX2_read 27 = .ok (.iconst 0, 1) := by decide +kernel
theorem dX2_read_28 : decode cX2_read 28 = .ok (.invokevirtual 41, 3) := by decide +kernel
theorem dX2_read_31 : decode cX2_read 31 = .ok (.ifCond .eq 21, 3) := by decide +kernel
theorem dX2_read_34 : decode cX2_read 34 = .ok (.aload_n 0, 1) := by decide +kernel
theorem dX2_read_35 : decode cX2_read 35 = .ok (.getfield 31, 3) := by decide +kernel
theorem dX2_read_38 : decode cX2_read 38 = .ok (.aload_n 0, 1) := by decide +kernel
theorem dX2_read_39 : decode cX2_read 39 = .ok (.getfield 23, 3) := by decide +kernel
theorem dX2_read_42 : decode cX2_read 42 = .ok (.invokevirtual 45, 3) := by decide +kernel
theorem dX2_read_45 : decode cX2_read 45 = .ok (.if_icmp .ne 7, 3) := by decide +kernel
theorem dX2_read_48 : decode cX2_read 48 = .ok (.iconst 1, 1) := by decide +kernel
theorem dX2_read_49 : decode cX2_read 49 = .ok (.goto 4, 3) := by decide +kernel
theorem dX2_read_52 : decode cX2_read 52 = .ok (.iconst 0, 1) := by decide +kernel
theorem dX2_read_53 : decode cX2_read 53 = .ok (.istore_n 3, 1) := by decide +kernel
theorem dX2_read_54 : decode cX2_read 54 = .ok (.iload_n 3, 1) := by decide +kernel
theorem dX2_read_55 : decode cX2_read 55 = .ok (.ifCond .eq 7, 3) := by decide +kernel
theorem dX2_read_58 : decode cX2_read 58 = .ok (.iconst (-1), 1) := by decide +kernel
theorem dX2_read_59 : decode cX2_read 59 = .ok (.goto 7, 3) := by decide +kernel
theorem dX2_read_62 : decode cX2_read 62 = .ok (.aload_n 0, 1) := by decide +kernel
theorem dX2_read_63 : decode cX2_read 63 = .ok (.getfield 31, 3) := by decide +kernel
theorem dX2_read_66 : decode cX2_read 66 = .ok (.ireturn, 1) := by decide +kernel
theorem dX2_readChain_0 : decode cX2_readChain 0 = .ok (.iload_n 1, 1) := by decide +kernel
theorem dX2_readChain_1 : decode cX2_readChain 1 = .ok (.iconst 4, 1) := by decide +kernel
theorem dX2_readChain_2 : decode cX2_readChain 2 = .ok (.if_icmp .le 9, 3) := by decide +kernel
theorem dX2_readChain_5 : decode cX2_readChain 5 = .ok (.aload_n 0, 1) := by decide +kernel
theorem dX2_readChain_6 : decode cX2_readChain 6 = .ok (.iload_n 2, 1) := by decide +kernel
theorem dX2_readChain_7 : decode cX2_readChain 7 = .ok (.invokevirtual 49, 3) := by decide +kernel
theorem dX2_readChain_10 : decode cX2_readChain 10 = .ok (.ireturn, 1) := by decide +kernel
theorem dX2_readChain_11 : decode cX2_readChain 11 = .ok (.aload_n 0, 1) := by decide +kernel
theorem dX2_readChain_12 : decode cX2_readChain 12 = .ok (.iload_n 1, 1) := by decide +kernel
theorem dX2_readChain_13 : decode cX2_readChain 13 = .ok (.iconst 1, 1) := by decide +kernel
theorem dX2_readChain_14 : decode cX2_readChain 14 = .ok (.iadd, 1) := by decide +kernel
theorem dX2_readChain_15 : decode cX2_readChain 15 = .ok (.iload_n 2, 1) := by decide +kernel
theorem dX2_readChain_16 : decode cX2_readChain 16 = .ok (.invokevirtual 41, 3) := by decide +kernel
theorem dX2_readChain_19 : decode cX2_readChain 19 = .ok (.ifCond .ne 5, 3) := by decide +kernel
theorem dX2_readChain_22 : decode cX2_readChain 22 = .ok (.iconst 0, 1) := by decide +kernel
theorem dX2_readChain_23 : decode cX2_readChain 23 = .ok (.ireturn, 1) := by decide +kernel
theorem dX2_readChain_24 : decode cX2_readChain 24 = .ok (.iload_n 1, 1) := by decide +kernel
theorem dX2_readChain_25 : decode cX2_readChain 25 = .ok (.iconst 2, 1) := by decide +kernel
theorem dX2_readChain_26 : decode cX2_readChain 26 = .ok (.if_icmp .ne 7, 3) := by decide +kernel
theorem dX2_readChain_29 : decode cX2_readChain 29 = .ok (.iconst 1, 1) := by decide +kernel
theorem dX2_readChain_30 : decode cX2_readChain 30 = .ok (.goto 5, 3) := by decide +kernel
theorem dX2_readChain_33 : decode cX2_readChain 33 = .ok (.bipush 60, 2) := by decide +kernel
theorem dX2_readChain_35 : decode cX2_readChain 35 = .ok (.istore_n 3, 1) := by decide +kernel
theorem dX2_readChain_36 : decode cX2_readChain 36 = .ok (.iconst 0, 1) := by decide +kernel
theorem dX2_readChain_37 : decode cX2_readChain 37 = .ok (.istore 4, 2) := by decide +kernel
theorem dX2_readChain_39 : decode cX2_readChain 39 = .ok (.iload 4, 2) := by decide +kernel
theorem dX2_readChain_41 : decode cX2_readChain 41 = .ok (.iload_n 3, 1) := by decide +kernel
theorem dX2_readChain_42 : decode cX2_readChain 42 = .ok (.if_icmp .ge 63, 3) := by decide +kernel
theorem dX2_readChain_45 : decode cX2_readChain 45 = .ok (.aload_n 0, 1) := by decide +kernel
theorem dX2_readChain_46 : decode cX2_readChain 46 = .ok (.invokevirtual 53, 3) := by decide +kernel
theorem dX2_readChain_49 : decode cX2_readChain 49 = .ok (.invokestatic 56, 3) := by decide +kernel
theorem dX2_readChain_52 : decode cX2_readChain 52 = .ok (.iload_n 1, 1) := by decide +kernel
theorem dX2_readChain_53 : decode cX2_readChain 53 = .ok (.if_icmp .ne 52, 3) := by decide +kernel
theorem dX2_readChain_56 : decode cX2_readChain 56 = .ok (.aload_n 0, 1) := by decide +kernel
theorem dX2_readChain_57 : decode cX2_readChain 57 = .ok (.invokevirtual 53, 3) := by decide +kernel
theorem dX2_readChain_60 : decode cX2_readChain 60 = .ok (.istore 5, 2) := by decide +kernel
theorem dX2_readChain_62 : decode cX2_readChain 62 = .ok (.aload_n 0, 1) := by decide +kernel
theorem dX2_readChain_63 : decode cX2_readChain 63 = .ok (.dup, 1) := by decide +kernel
theorem dX2_readChain_64 : decode cX2_readChain 64 = .ok (.getfield 31, 3) := by decide +kernel
theorem dX2_readChain_67 : decode cX2_readChain 67 = .ok (.iconst 1, 1) := by decide +kernel
theorem dX2_readChain_68 : decode cX2_readChain 68 = .ok (.iadd, 1) := by decide +kernel
theorem dX2_readChain_69 : decode cX2_readChain 69 = .ok (.putfield 31, 3) := by decide +kernel
theorem dX2_readChain_72 : decode cX2_readChain 72 = .ok (.aload_n 0, 1) := by decide +kernel
theorem dX2_readChain_73 : decode cX2_readChain 73 = .ok (.iload_n 1, 1) := by decide +kernel
theorem dX2_readChain_74 : decode cX2_readChain 74 = .ok (.iconst 1, 1) := by decide +kernel
theorem dX2_readChain_75 : decode cX2_readChain 75 = .ok (.iadd, 1) := by decide +kernel
theorem dX2_readChain_76 : decode cX2_readChain 76 = .ok (.iload_n 2, 1) := by decide +kernel
theorem dX2_readChain_77 : decode cX2_readChain 77 = .ok (.invokevirtual 41, 3) := by decide +kernel
theorem dX2_readChain_80 : decode cX2_readChain 80 = .ok (.ifCond .ne 5, 3) := by decide +kernel
theorem dX2_readChain_83 : decode cX2_readChain 83 = .ok (.iconst 0, 1) := by decide +kernel
theorem dX2_readChain_84 : decode cX2_readChain 84 = .ok (.ireturn, 1) := by decide +kernel
theorem dX2_readChain_85 : decode cX2_readChain 85 = .ok (.aload_n 0, 1) := by decide +kernel
theorem dX2_readChain_86 : decode cX2_readChain 86 = .ok (.getfield 14, 3) := by decide +kernel
theorem dX2_readChain_89 : decode cX2_readChain 89 = .ok (.getfield 60, 3) := by decide +kernel
theorem dX2_readChain_92 : decode cX2_readChain 92 = .ok (.iload 5, 2) := by decide +kernel
theorem dX2_readChain_94 : decode cX2_readChain 94 = .ok (.ineg, 1) := by decide +kernel
theorem dX2_readChain_95 : decode cX2_readChain 95 = .ok (.invokevirtual 63, 3) := by decide +kernel
theorem dX2_readChain_98 : decode cX2_readChain 98 = .ok (.pop, 1) := by decide +kernel
theorem dX2_readChain_99 : decode cX2_readChain 99 = .ok (.iinc 4 1, 3) := by decide +kernel
theorem dX2_readChain_102 : decode cX2_readChain 102 = .ok (.goto (-63), 3) := by decide +kernel
theorem dX2_readChain_105 : decode cX2_readChain 105 = .ok (.iconst 1, 1) := by decide +kernel
theorem dX2_readChain_106 : decode cX2_readChain 106 = .ok (.ireturn, 1) := by decide +kernel
theorem dX2_readUnit_0 : decode cX2_readUnit 0 = .ok (.aload_n 0, 1) := by decide +kernel
theorem dX2_readUnit_1 : decode cX2_readUnit 1 = .ok (.invokevirtual 53, 3) := by decide +kernel
theorem dX2_readUnit_4 : decode cX2_readUnit 4 = .ok (.istore_n 2, 1) := by decide +kernel
theorem dX2_readUnit_5 : decode cX2_readUnit 5 = .ok (.iload_n 2, 1) := by decide +kernel
theorem dX2_readUnit_6 : decode cX2_readUnit 6 = .ok (.invokestatic 66, 3) := by decide +kernel
theorem dX2_readUnit_9 : decode cX2_readUnit 9 = .ok (.ifCond .eq 9, 3) := by decide +kernel
theorem dX2_readUnit_12 : decode cX2_readUnit 12 = .ok (.aload_n 0, 1) := by decide +kernel
theorem dX2_readUnit_13 : decode cX2_readUnit 13 = .ok (.invokevirtual 69, 3) := by decide +kernel
theorem dX2_readUnit_16 : decode cX2_readUnit 16 = .ok (.iconst 1, 1) := by decide +kernel
theorem dX2_readUnit_17 : decode cX2_readUnit 17 = .ok (.ireturn, 1) := by decide +kernel
theorem dX2_readUnit_18 : decode cX2_readUnit 18 = .ok (.aload_n 0, 1) := by decide +kernel
theorem dX2_readUnit_19 : decode cX2_readUnit 19 = .ok (.iload_n 2, 1) := by decide +kernel
theorem dX2_readUnit_20 : decode cX2_readUnit 20 = .ok (.invokevirtual 72, 3) := by decide +kernel
theorem dX2_readUnit_23 : decode cX2_readUnit 23 = .ok (.istore_n 3, 1) := by decide +kernel
theorem dX2_readUnit_24 : decode cX2_readUnit 24 = .ok (.iload_n 3, 1) := by decide +kernel
theorem dX2_readUnit_25 : decode cX2_readUnit 25 = .ok (.ifCond .eq 28, 3) := by decide +kernel
theorem dX2_readUnit_28 : decode cX2_readUnit 28 = .ok (.aload_n 0, 1) := by decide +kernel
theorem dX2_readUnit_29 : decode cX2_readUnit 29 = .ok (.dup, 1) := by decide +kernel
theorem dX2_readUnit_30 : decode cX2_readUnit 30 = .ok (.getfield 31, 3) := by decide +kernel
theorem dX2_readUnit_33 : decode cX2_readUnit 33 = .ok (.iconst 1, 1) := by decide +kernel
theorem dX2_readUnit_34 : decode cX2_readUnit 34 = .ok (.iadd, 1) := by decide +kernel
theorem dX2_readUnit_35 : decode cX2_readUnit 35 = .ok (.putfield 31, 3) := by decide +kernel
theorem dX2_readUnit_38 : decode cX2_readUnit 38 = .ok (.aload_n 0, 1) := by decide +kernel
theorem dX2_readUnit_39 : decode cX2_readUnit 39 = .ok (.getfield 14, 3) := by decide +kernel
theorem dX2_readUnit_42 : decode cX2_readUnit 42 = .ok (.getfield 60, 3) := by decide +kernel
theorem dX2_readUnit_45 : decode cX2_readUnit 45 = .ok (.iload_n 3, 1) := by decide +kernel
theorem dX2_readUnit_46 : decode cX2_readUnit 46 = .ok (.ineg, 1) := by decide +kernel
theorem dX2_readUnit_47 : decode cX2_readUnit 47 = .ok (.invokevirtual 63, 3) := by decide +kernel
theorem dX2_readUnit_50 : decode cX2_readUnit 50 = .ok (.pop, 1) := by decide +kernel
theorem dX2_readUnit_51 : decode cX2_readUnit 51 = .ok (.iconst 1, 1) := by decide +kernel
theorem dX2_readUnit_52 : decode cX2_readUnit 52 = .ok (.ireturn, 1) := by decide +kernel
theorem dX2_readUnit_53 : decode cX2_readUnit 53 = .ok (.iload_n 2, 1) := by decide +kernel
theorem dX2_readUnit_54 : decode cX2_readUnit 54 = .ok (.bipush 33, 2) := by decide +kernel
theorem dX2_readUnit_56 : decode cX2_readUnit 56 = .ok (.if_icmp .eq 9, 3) := by decide +kernel
theorem dX2_readUnit_59 : decode cX2_readUnit 59 = .ok (.iload_n 2, 1) := by decide +kernel
theorem dX2_readUnit_60 : decode cX2_readUnit 60 = .ok (.bipush 40, 2) := by decide +kernel
theorem dX2_readUnit_62 : decode cX2_readUnit 62 = .ok (.if_icmp .ne 8, 3) := by decide +kernel
theorem dX2_readUnit_65 : decode cX2_readUnit 65 = .ok (.iload_n 1, 1) := by decide +kernel
theorem dX2_readUnit_66 : decode cX2_readUnit 66 = .ok (.iconst 5, 1) := by decide +kernel
theorem dX2_readUnit_67 : decode cX2_readUnit 67 = .ok (.if_icmp .lt 5, 3) := by decide +kernel
theorem dX2_readUnit_70 : decode cX2_readUnit 70 = .ok (.iconst 0, 1) := by decide +kernel
theorem dX2_readUnit_71 : decode cX2_readUnit 71 = .ok (.ireturn, 1) := by decide +kernel
theorem dX2_readUnit_72 : decode cX2_readUnit 72 = .ok (.aload_n 0, 1) := by decide +kernel
theorem dX2_readUnit_73 : decode cX2_readUnit 73 = .ok (.dup, 1) := by decide +kernel
theorem dX2_readUnit_74 : decode cX2_readUnit 74 = .ok (.getfield 31, 3) := by decide +kernel
theorem dX2_readUnit_77 : decode cX2_readUnit 77 = .ok (.iconst 1, 1) := by decide +kernel
theorem dX2_readUnit_78 : decode cX2_readUnit 78 = .ok (.iadd, 1) := by decide +kernel
theorem dX2_readUnit_79 : decode cX2_readUnit 79 = .ok (.putfield 31, 3) := by decide +kernel
theorem dX2_readUnit_82 : decode cX2_readUnit 82 = .ok (.iload_n 2, 1) := by decide +kernel
theorem dX2_readUnit_83 : decode cX2_readUnit 83 = .ok (.bipush 33, 2) := by decide +kernel
theorem dX2_readUnit_85 : decode cX2_readUnit 85 = .ok (.if_icmp .ne 13, 3) := by decide +kernel
theorem dX2_readUnit_88 : decode cX2_readUnit 88 = .ok (.aload_n 0, 1) := by decide +kernel
theorem dX2_readUnit_89 : decode cX2_readUnit 89 = .ok (.iload_n 1, 1) := by decide +kernel
theorem dX2_readUnit_90 : decode cX2_readUnit 90 = .ok (.iconst 1, 1) := by decide +kernel
theorem dX2_readUnit_91 : decode cX2_readUnit 91 = .ok (.iadd, 1) := by decide +kernel
theorem dX2_readUnit_92 : decode cX2_readUnit 92 = .ok (.invokevirtual 75, 3) := by decide +kernel
theorem dX2_readUnit_95 : decode cX2_readUnit 95 = .ok (.goto 10, 3) := by decide +kernel
theorem dX2_readUnit_98 : decode cX2_readUnit 98 = .ok (.aload_n 0, 1) := by decide +kernel
theorem dX2_readUnit_99 : decode cX2_readUnit 99 = .ok (.iload_n 1, 1) := by decide +kernel
theorem dX2_readUnit_100 : decode cX2_readUnit 100 = .ok (.iconst 1, 1) := by decide +kernel
theorem dX2_readUnit_101 : decode cX2_readUnit 101 = .ok (.iadd, 1) := by decide +kernel
theorem dX2_readUnit_102 : decode cX2_readUnit 102 = .ok (.invokevirtual 78, 3) := by decide +kernel
theorem dX2_readUnit_105 : decode cX2_readUnit 105 = .ok (.ireturn, 1) := by decide +kernel
theorem dX2_readNot_0 : decode cX2_readNot 0 = .ok (.aload_n 0, 1) := by decide +kernel
theorem dX2_readNot_1 : decode cX2_readNot 1 = .ok (.iload_n 1, 1) := by decide +kernel
theorem dX2_readNot_2 : decode cX2_readNot 2 = .ok (.invokevirtual 49, 3) := by decide +kernel
theorem dX2_readNot_5 : decode cX2_readNot 5 = .ok (.ifCond .ne 5, 3) := by decide +kernel
theorem dX2_readNot_8 : decode cX2_readNot 8 = .ok (.iconst 0, 1) := by decide +kernel
theorem dX2_readNot_9 : decode cX2_readNot 9 = .ok (.ireturn, 1) := by decide +kernel
theorem dX2_readNot_10 : decode cX2_readNot 10 = .ok (.aload_n 0, 1) := by decide +kernel
theorem dX2_readNot_11 : decode cX2_readNot 11 = .ok (.getfield 14, 3) := by decide +kernel
theorem dX2_readNot_14 : decode cX2_readNot 14 = .ok (.getfield 60, 3) := by decide +kernel
theorem dX2_readNot_17 : decode cX2_readNot 17 = .ok (.bipush (-33), 2) := by decide +kernel
theorem dX2_readNot_19 : decode cX2_readNot 19 = .ok (.invokevirtual 63, 3) := by decide +kernel
theorem dX2_readNot_22 : decode cX2_readNot 22 = .ok (.pop, 1) := by decide +kernel
theorem dX2_readNot_23 : decode cX2_readNot 23 = .ok (.iconst 1, 1) := by decide +kernel
theorem dX2_readNot_24 : decode cX2_readNot 24 = .ok (.ireturn, 1) := by decide +kernel
theorem dX2_readBracketed_0 : decode cX2_readBracketed 0 = .ok (.aload_n 0, 1) := by decide +kernel
theorem dX2_readBracketed_1 : decode cX2_readBracketed 1 = .ok (.iconst 0, 1) := by decide +kernel
theorem dX2_readBracketed_2 : decode cX2_readBracketed 2 = .ok (.iload_n 1, 1) := by decide +kernel
theorem dX2_readBracketed_3 : decode cX2_readBracketed 3 = .ok (.invokevirtual 41, 3) := by decide +kernel
theorem dX2_readBracketed_6 : decode cX2_readBracketed 6 = .ok (.ifCond .eq 12, 3) := by decide +kernel
theorem dX2_readBracketed_9 : decode cX2_readBracketed 9 = .ok (.aload_n 0, 1) := by decide +kernel
theorem dX2_readBracketed_10 : decode cX2_readBracketed 10 = .ok (.invokevirtual 53, 3) := by decide +kernel
theorem dX2_readBracketed_13 : decode cX2_readBracketed 13 = .ok (.bipush 41, 2) := by decide +kernel
theorem dX2_readBracketed_15 : decode cX2_readBracketed 15 = .ok (.if_icmp .eq 5, 3) := by decide +kernel
theorem dX2_readBracketed_18 : decode cX2_readBracketed 18 = .ok (.iconst 0, 1) := by decide +kernel
theorem dX2_readBracketed_19 : decode cX2_readBracketed 19 = .ok (.ireturn, 1) := by decide +kernel
theorem dX2_readBracketed_20 : decode cX2_readBracketed 20 = .ok (.aload_n 0, 1) := by decide +kernel
theorem dX2_readBracketed_21 : decode cX2_readBracketed 21 = .ok (.dup, 1) := by decide +kernel
theorem dX2_readBracketed_22 : decode cX2_readBracketed 22 = .ok (.getfield 31, 3) := by decide +kernel
theorem dX2_readBracketed_25 : decode cX2_readBracketed 25 = .ok (.iconst 1, 1) := by decide +kernel
theorem dX2_readBracketed_26 : decode cX2_readBracketed 26 = .ok (.iadd, 1) := by decide +kernel
theorem dX2_readBracketed_27 : decode cX2_readBracketed 27 = .ok (.putfield 31, 3) := by decide +kernel
theorem dX2_readBracketed_30 : decode cX2_readBracketed 30 = .ok (.iconst 1, 1) := by decide +kernel
theorem dX2_readBracketed_31 : decode cX2_readBracketed 31 = .ok (.ireturn, 1) := by decide +kernel
theorem dX2_readNumber_0 : decode cX2_readNumber 0 = .ok (.iconst 0, 1) := by decide +kernel
theorem dX2_readNumber_1 : decode cX2_readNumber 1 = .ok (.istore_n 1, 1) := by decide +kernel
theorem dX2_readNumber_2 : decode cX2_readNumber 2 = .ok (.iconst 0, 1) := by decide +kernel
theorem dX2_readNumber_3 : decode cX2_readNumber 3 = .ok (.istore_n 2, 1) := by decide +kernel
theorem dX2_readNumber_4 : decode cX2_readNumber 4 = .ok (.iload_n 2, 1) := by decide +kernel
theorem dX2_readNumber_5 : decode cX2_readNumber 5 = .ok (.iconst 4, 1) := by decide +kernel
theorem dX2_readNumber_6 : decode cX2_readNumber 6 = .ok (.if_icmp .ge 42, 3) := by decide +kernel
theorem dX2_readNumber_9 : decode cX2_readNumber 9 = .ok (.aload_n 0, 1) := by decide +kernel
theorem dX2_readNumber_10 : decode cX2_readNumber 10 = .ok (.invokevirtual 53, 3) := by decide +kernel
theorem dX2_readNumber_13 : decode cX2_readNumber 13 = .ok (.invokestatic 66, 3) := by decide +kernel
theorem dX2_readNumber_16 : decode cX2_readNumber 16 = .ok (.ifCond .eq 32, 3) := by decide +kernel
theorem dX2_readNumber_19 : decode cX2_readNumber 19 = .ok (.iload_n 1, 1) := by decide +kernel
theorem dX2_readNumber_20 : decode cX2_readNumber 20 = .ok (.bipush 10, 2) := by decide +kernel
theorem dX2_readNumber_22 : decode cX2_readNumber 22 = .ok (.imul, 1) := by decide +kernel
theorem dX2_readNumber_23 : decode cX2_readNumber 23 = .ok (.aload_n 0, 1) := by decide +kernel
theorem dX2_readNumber_24 : decode cX2_readNumber 24 = .ok (.invokevirtual 53, 3) := by decide +kernel
theorem dX2_readNumber_27 : decode cX2_readNumber 27 = .ok (.iadd, 1) := by decide +kernel
theorem dX2_readNumber_28 : decode cX2_readNumber 28 = .ok (.bipush 48, 2) := by decide +kernel
theorem dX2_readNumber_30 : decode cX2_readNumber 30 = .ok (.isub, 1) := by decide +kernel
theorem dX2_readNumber_31 : decode cX2_readNumber 31 = .ok (.istore_n 1, 1) := by decide +kernel
theorem dX2_readNumber_32 : decode cX2_readNumber 32 = .ok (.aload_n 0, 1) := by decide +kernel
theorem dX2_readNumber_33 : decode cX2_readNumber 33 = .ok (.dup, 1) := by decide +kernel
theorem dX2_readNumber_34 : decode cX2_readNumber 34 = .ok (.getfield 31, 3) := by decide +kernel
theorem dX2_readNumber_37 : decode cX2_readNumber 37 = .ok (.iconst 1, 1) := by decide +kernel
theorem dX2_readNumber_38 : decode cX2_readNumber 38 = .ok (.iadd, 1) := by decide +kernel
theorem dX2_readNumber_39 : decode cX2_readNumber 39 = .ok (.putfield 31, 3) := by decide +kernel
theorem dX2_readNumber_42 : decode cX2_readNumber 42 = .ok (.iinc 2 1, 3) := by decide +kernel
theorem dX2_readNumber_45 : decode cX2_readNumber 45 = .ok (.goto (-41), 3) := by decide +kernel
theorem dX2_readNumber_48 : decode cX2_readNumber 48 = .ok (.aload_n 0, 1) := by decide +kernel
theorem dX2_readNumber_49 : decode cX2_readNumber 49 = .ok (.getfield 14, 3) := by decide +kernel
theorem dX2_readNumber_52 : decode cX2_readNumber 52 = .ok (.getfield 60, 3) := by decide +kernel
theorem dX2_readNumber_55 : decode cX2_readNumber 55 = .ok (.iload_n 1, 1) := by decide +kernel
theorem dX2_readNumber_56 : decode cX2_readNumber 56 = .ok (.invokevirtual 63, 3) := by decide +kernel
theorem dX2_readNumber_59 : decode cX2_readNumber 59 = .ok (.pop, 1) := by decide +kernel
theorem dX2_readNumber_60 : decode cX2_readNumber 60 = .ok (.return_, 1) := by decide +kernel
theorem dX2_next_0 : decode cX2_next 0 = .ok (.aload_n 0, 1) := by decide +kernel
theorem dX2_next_1 : decode cX2_next 1 = .ok (.getfield 23, 3) := by decide +kernel
theorem dX2_next_4 : decode cX2_next 4 = .ok (.aload_n 0, 1) := by decide +kernel
theorem dX2_next_5 : decode cX2_next 5 = .ok (.getfield 31, 3) := by decide +kernel
theorem dX2_next_8 : decode cX2_next 8 = .ok (.invokevirtual 81, 3) := by decide +kernel
theorem dX2_next_11 : decode cX2_next 11 = .ok (.ifCond .eq 17, 3) := by decide +kernel
theorem dX2_next_14 : decode cX2_next 14 = .ok (.aload_n 0, 1) := by decide +kernel
theorem dX2_next_15 : decode cX2_next 15 = .ok (.getfield 23, 3) := by decide +kernel
theorem dX2_next_18 : decode cX2_next 18 = .ok (.aload_n 0, 1) := by decide +kernel
theorem dX2_next_19 : decode cX2_next 19 = .ok (.getfield 31, 3) := by decide +kernel
theorem dX2_next_22 : decode cX2_next 22 = .ok (.invokevirtual 84, 3) := by decide +kernel
theorem dX2_next_25 : decode cX2_next 25 = .ok (.goto 4, 3) := by decide +kernel
theorem dX2_next_28 : decode cX2_next 28 = .ok (.iconst (-1), 1) := by decide +kernel
theorem dX2_next_29 : decode cX2_next 29 = .ok (.ireturn, 1) := by decide +kernel
theorem dX2_nameOf_0 : decode cX2_nameOf 0 = .ok (.iload_n 1, 1) := by decide +kernel
theorem dX2_nameOf_1 : decode cX2_nameOf 1 = .ok (.tableswitch 176 100 119 #[148, 176, 176, 176, 176, 176, 176, 162, 95, 176, 121, 108, 176, 176, 176, 176, 176, 176, 176, 134], 95) := by decide +kernel
theorem dX2_nameOf_96 : decode cX2_nameOf 96 = .ok (.aload_n 0, 1) := by decide +kernel
theorem dX2_nameOf_97 : decode cX2_nameOf 97 = .ok (.getfield 27, 3) := by decide +kernel
theorem dX2_nameOf_100 : decode cX2_nameOf 100 = .ok (.ifCond .ne 7, 3) := by decide +kernel
theorem dX2_nameOf_103 : decode cX2_nameOf 103 = .ok (.iconst 1, 1) := by decide +kernel
theorem dX2_nameOf_104 : decode cX2_nameOf 104 = .ok (.goto 4, 3) := by decide +kernel
theorem dX2_nameOf_107 : decode cX2_nameOf 107 = .ok (.iconst 0, 1) := by decide +kernel
theorem dX2_nameOf_108 : decode cX2_nameOf 108 = .ok (.ireturn, 1) := by decide +kernel
theorem dX2_nameOf_109 : decode cX2_nameOf 109 = .ok (.aload_n 0, 1) := by decide +kernel
theorem dX2_nameOf_110 : decode cX2_nameOf 110 = .ok (.getfield 27, 3) := by decide +kernel
theorem dX2_nameOf_113 : decode cX2_nameOf 113 = .ok (.ifCond .ne 7, 3) := by decide +kernel
theorem dX2_nameOf_116 : decode cX2_nameOf 116 = .ok (.iconst 2, 1) := by decide +kernel
theorem dX2_nameOf_117 : decode cX2_nameOf 117 = .ok (.goto 4, 3) := by decide +kernel
theorem dX2_nameOf_120 : decode cX2_nameOf 120 = .ok (.iconst 0, 1) := by decide +kernel
theorem dX2_nameOf_121 : decode cX2_nameOf 121 = .ok (.ireturn, 1) := by decide +kernel
theorem dX2_nameOf_122 : decode cX2_nameOf 122 = .ok (.aload_n 0, 1) := by decide +kernel
theorem dX2_nameOf_123 : decode cX2_nameOf 123 = .ok (.getfield 27, 3) := by decide +kernel
theorem dX2_nameOf_126 : decode cX2_nameOf 126 = .ok (.ifCond .ne 7, 3) := by decide +kernel
theorem dX2_nameOf_129 : decode cX2_nameOf 129 = .ok (.iconst 3, 1) := by decide +kernel
theorem dX2_nameOf_130 : decode cX2_nameOf 130 = .ok (.goto 4, 3) := by decide +kernel
theorem dX2_nameOf_133 : decode cX2_nameOf 133 = .ok (.iconst 0, 1) := by decide +kernel
theorem dX2_nameOf_134 : decode cX2_nameOf 134 = .ok (.ireturn, 1) := by decide +kernel
theorem dX2_nameOf_135 : decode cX2_nameOf 135 = .ok (.aload_n 0, 1) := by decide +kernel
theorem dX2_nameOf_136 : decode cX2_nameOf 136 = .ok (.getfield 27, 3) := by decide +kernel
theorem dX2_nameOf_139 : decode cX2_nameOf 139 = .ok (.iconst 1, 1) := by decide +kernel
theorem dX2_nameOf_140 : decode cX2_nameOf 140 = .ok (.if_icmp .ne 7, 3) := by decide +kernel
theorem dX2_nameOf_143 : decode cX2_nameOf 143 = .ok (.iconst 1, 1) := by decide +kernel
theorem dX2_nameOf_144 : decode cX2_nameOf 144 = .ok (.goto 4, 3) := by decide +kernel
theorem dX2_nameOf_147 : decode cX2_nameOf 147 = .ok (.iconst 0, 1) := by decide +kernel
theorem dX2_nameOf_148 : decode cX2_nameOf 148 = .ok (.ireturn, 1) := by decide +kernel
theorem dX2_nameOf_149 : decode cX2_nameOf 149 = .ok (.aload_n 0, 1) := by decide +kernel
theorem dX2_nameOf_150 : decode cX2_nameOf 150 = .ok (.getfield 27, 3) := by decide +kernel
theorem dX2_nameOf_153 : decode cX2_nameOf 153 = .ok (.iconst 1, 1) := by decide +kernel
theorem dX2_nameOf_154 : decode cX2_nameOf 154 = .ok (.if_icmp .ne 7, 3) := by decide +kernel
theorem dX2_nameOf_157 : decode cX2_nameOf 157 = .ok (.iconst 2, 1) := by decide +kernel
theorem dX2_nameOf_158 : decode cX2_nameOf 158 = .ok (.goto 4, 3) := by decide +kernel
theorem dX2_nameOf_161 : decode cX2_nameOf 161 = .ok (.iconst 0, 1) := by decide +kernel
theorem dX2_nameOf_162 : decode cX2_nameOf 162 = .ok (.ireturn, 1) := by decide +kernel
theorem dX2_nameOf_163 : decode cX2_nameOf 163 = .ok (.aload_n 0, 1) := by decide +kernel
theorem dX2_nameOf_164 : decode cX2_nameOf 164 = .ok (.getfield 27, 3) := by decide +kernel
theorem dX2_nameOf_167 : decode cX2_nameOf 167 = .ok (.iconst 1, 1) := by decide +kernel
theorem dX2_nameOf_168 : decode cX2_nameOf 168 = .ok (.if_icmp .ne 7, 3) := by decide +kernel
theorem dX2_nameOf_171 : decode cX2_nameOf 171 = .ok (.iconst 3, 1) := by decide +kernel
theorem dX2_nameOf_172 : decode cX2_nameOf 172 = .ok (.goto 4, 3) := by decide +kernel
theorem dX2_nameOf_175 : decode cX2_nameOf 175 = .ok (.iconst 0, 1) := by decide +kernel
theorem dX2_nameOf_176 : decode cX2_nameOf 176 = .ok (.ireturn, 1) := by decide +kernel
theorem dX2_nameOf_177 : decode cX2_nameOf 177 = .ok (.iconst 0, 1) := by decide +kernel
theorem dX2_nameOf_178 : decode cX2_nameOf 178 = .ok (.ireturn, 1) := by decide +kernel
theorem dX2_levelOf_0 : decode cX2_levelOf 0 = .ok (.iload_n 0, 1) := by decide +kernel
theorem dX2_levelOf_1 : decode cX2_levelOf 1 = .ok (.lookupswitch 101 #[(37, 99), (38, 93), (42, 99), (43, 97), (45, 97), (47, 99), (60, 95), (61, 95), (62, 95), (124, 91)], 91) := by decide +kernel
theorem dX2_levelOf_92 : decode cX2_levelOf 92 = .ok (.iconst 0, 1) := by decide +kernel
theorem dX2_levelOf_93 : decode cX2_levelOf 93 = .ok (.ireturn, 1) := by decide +kernel
theorem dX2_levelOf_94 : decode cX2_levelOf 94 = .ok (.iconst 1, 1) := by decide +kernel
theorem dX2_levelOf_95 : decode cX2_levelOf 95 = .ok (.ireturn, 1) := by decide +kernel
theorem dX2_levelOf_96 : decode cX2_levelOf 96 = .ok (.iconst 2, 1) := by decide +kernel
theorem dX2_levelOf_97 : decode cX2_levelOf 97 = .ok (.ireturn, 1) := by decide +kernel
theorem dX2_levelOf_98 : decode cX2_levelOf 98 = .ok (.iconst 3, 1) := by decide +kernel
theorem dX2_levelOf_99 : decode cX2_levelOf 99 = .ok (.ireturn, 1) := by decide +kernel
theorem dX2_levelOf_100 : decode cX2_levelOf 100 = .ok (.iconst 4, 1) := by decide +kernel
theorem dX2_levelOf_101 : decode cX2_levelOf 101 = .ok (.ireturn, 1) := by decide +kernel
theorem dX2_levelOf_102 : decode cX2_levelOf 102 = .ok (.iconst (-1), 1) := by decide +kernel
theorem dX2_levelOf_103 : decode cX2_levelOf 103 = .ok (.ireturn, 1) := by decide +kernel
theorem dX2_isDigit_0 : decode cX2_isDigit 0 = .ok (.iload_n 0, 1) := by decide +kernel
theorem dX2_isDigit_1 : decode cX2_isDigit 1 = .ok (.bipush 48, 2) := by decide +kernel
theorem dX2_isDigit_3 : decode cX2_isDigit 3 = .ok (.if_icmp .lt 13, 3) := by decide +kernel
theorem dX2_isDigit_6 : decode cX2_isDigit 6 = .ok (.iload_n 0, 1) := by decide +kernel
theorem dX2_isDigit_7 : decode cX2_isDigit 7 = .ok (.bipush 57, 2) := by decide +kernel
theorem dX2_isDigit_9 : decode cX2_isDigit 9 = .ok (.if_icmp .gt 7, 3) := by decide +kernel
theorem dX2_isDigit_12 : decode cX2_isDigit 12 = .ok (.iconst 1, 1) := by decide +kernel
theorem dX2_isDigit_13 : decode cX2_isDigit 13 = .ok (.goto 4, 3) := by decide +kernel
theorem dX2_isDigit_16 : decode cX2_isDigit 16 = .ok (.iconst 0, 1) := by decide +kernel
theorem dX2_isDigit_17 : decode cX2_isDigit 17 = .ok (.ireturn, 1) := by decide +kernel
theorem dX3_init_0 : decode cX3_init 0 = .ok (.aload_n 0, 1) := by decide +kernel
theorem dX3_init_1 : decode cX3_init 1 = .ok (.invokespecial 1, 3) := by decide +kernel
theorem dX3_init_4 : decode cX3_init 4 = .ok (.aload_n 0, 1) := by decide +kernel
theorem dX3_init_5 : decode cX3_init 5 = .ok (.iconst 0, 1) := by decide +kernel
theorem dX3_init_6 : decode cX3_init 6 = .ok (.putfield 7, 3) := by decide +kernel
theorem dX3_init_9 : decode cX3_init 9 = .ok (.aload_n 0, 1) := by decide +kernel
theorem dX3_init_10 : decode cX3_init 10 = .ok (.iload_n 1, 1) := by decide +kernel
theorem dX3_init_11 : decode cX3_init 11 = .ok (.ifCond .le 7, 3) := by decide +kernel
theorem dX3_init_14 : decode cX3_init 14 = .ok (.iload_n 1, 1) := by decide +kernel
theorem dX3_init_15 : decode cX3_init 15 = .ok (.goto 4, 3) := by decide +kernel
theorem dX3_init_18 : decode cX3_init 18 = .ok (.iconst 0, 1) := by decide +kernel
theorem dX3_init_19 : decode cX3_init 19 = .ok (.newarray .int, 2) := by decide +kernel
theorem dX3_init_21 : decode cX3_init 21 = .ok (.putfield 13, 3) := by decide +kernel
theorem dX3_init_24 : decode cX3_init 24 = .ok (.return_, 1) := by decide +kernel
theorem dX3_size_0 : decode cX3_size 0 = .ok (.aload_n 0, 1) := by decide +kernel
theorem dX3_size_1 : decode cX3_size 1 = .ok (.getfield 7, 3) := by decide +kernel
theorem dX3_size_4 : decode cX3_size 4 = .ok (.ireturn, 1) := by decide +kernel
theorem dX3_has_0 : decode cX3_has 0 = .ok (.iload_n 1, 1) := by decide +kernel
theorem dX3_has_1 : decode cX3_has 1 = .ok (.ifCond .lt 24, 3) := by decide +kernel
theorem dX3_has_4 : decode cX3_has 4 = .ok (.iload_n 1, 1) := by decide +kernel
theorem dX3_has_5 : decode cX3_has 5 = .ok (.aload_n 0, 1) := by decide +kernel
theorem dX3_has_6 : decode cX3_has 6 = .ok (.getfield 7, 3) := by decide +kernel
theorem dX3_has_9 : decode cX3_has 9 = .ok (.if_icmp .ge 16, 3) := by decide +kernel
theorem dX3_has_12 : decode cX3_has 12 = .ok (.iload_n 1, 1) := by decide +kernel
theorem dX3_has_13 : decode cX3_has 13 = .ok (.aload_n 0, 1) := by decide +kernel
theorem dX3_has_14 : decode cX3_has 14 = .ok (.getfield 13, 3) := by decide +kernel
theorem dX3_has_17 : decode cX3_has 17 = .ok (.arraylength, 1) := by decide +kernel
theorem dX3_has_18 : decode cX3_has 18 = .ok (.if_icmp .ge 7, 3) := by decide +kernel
theorem dX3_has_21 : decode cX3_has 21 = .ok (.iconst 1, 1) := by decide +kernel
theorem dX3_has_22 : decode cX3_has 22 = .ok (.goto 4, 3) := by decide +kernel
theorem dX3_has_25 : decode cX3_has 25 = .ok (.iconst 0, 1) := by decide +kernel
theorem dX3_has_26 : decode cX3_has 26 = .ok (.ireturn, 1) := by decide +kernel
theorem dX3_at_0 : decode cX3_at 0 = .ok (.iload_n 1, 1) := by decide +kernel
theorem dX3_at_1 : decode cX3_at 1 = .ok (.ifCond .lt 29, 3) := by decide +kernel
theorem dX3_at_4 : decode cX3_at 4 = .ok (.iload_n 1, 1) := by decide +kernel
theorem dX3_at_5 : decode cX3_at 5 = .ok (.aload_n 0, 1) := by decide +kernel
theorem dX3_at_6 : decode cX3_at 6 = .ok (.getfield 7, 3) := by decide +kernel
theorem dX3_at_9 : decode cX3_at 9 = .ok (.if_icmp .ge 21, 3) := by decide +kernel
theorem dX3_at_12 : decode cX3_at 12 = .ok (.iload_n 1, 1) := by decide +kernel
theorem dX3_at_13 : decode cX3_at 13 = .ok (.aload_n 0, 1) := by decide +kernel
theorem dX3_at_14 : decode cX3_at 14 = .ok (.getfield 13, 3) := by decide +kernel
theorem dX3_at_17 : decode cX3_at 17 = .ok (.arraylength, 1) := by decide +kernel
theorem dX3_at_18 : decode cX3_at 18 = .ok (.if_icmp .ge 12, 3) := by decide +kernel
theorem dX3_at_21 : decode cX3_at 21 = .ok (.aload_n 0, 1) := by decide +kernel
theorem dX3_at_22 : decode cX3_at 22 = .ok (.getfield 13, 3) := by decide +kernel
theorem dX3_at_25 : decode cX3_at 25 = .ok (.iload_n 1, 1) := by decide +kernel
theorem dX3_at_26 : decode cX3_at 26 = .ok (.iaload, 1) := by decide +kernel
theorem dX3_at_27 : decode cX3_at 27 = .ok (.goto 4, 3) := by decide +kernel
theorem dX3_at_30 : decode cX3_at 30 = .ok (.iconst 0, 1) := by decide +kernel
theorem dX3_at_31 : decode cX3_at 31 = .ok (.ireturn, 1) := by decide +kernel
theorem dX3_add_0 : decode cX3_add 0 = .ok (.aload_n 0, 1) := by decide +kernel
theorem dX3_add_1 : decode cX3_add 1 = .ok (.getfield 7, 3) := by decide +kernel
theorem dX3_add_4 : decode cX3_add 4 = .ok (.ifCond .lt 15, 3) := by decide +kernel
theorem dX3_add_7 : decode cX3_add 7 = .ok (.aload_n 0, 1) := by decide +kernel
theorem dX3_add_8 : decode cX3_add 8 = .ok (.getfield 7, 3) := by decide +kernel
theorem dX3_add_11 : decode cX3_add 11 = .ok (.aload_n 0, 1) := by decide +kernel
theorem dX3_add_12 : decode cX3_add 12 = .ok (.getfield 13, 3) := by decide +kernel
theorem dX3_add_15 : decode cX3_add 15 = .ok (.arraylength, 1) := by decide +kernel
theorem dX3_add_16 : decode cX3_add 16 = .ok (.if_icmp .lt 5, 3) := by decide +kernel
theorem dX3_add_19 : decode cX3_add 19 = .ok (.iconst 0, 1) := by decide +kernel
theorem dX3_add_20 : decode cX3_add 20 = .ok (.ireturn, 1) := by decide +kernel
theorem dX3_add_21 : decode cX3_add 21 = .ok (.aload_n 0, 1) := by decide +kernel
theorem dX3_add_22 : decode cX3_add 22 = .ok (.getfield 13, 3) := by decide +kernel
theorem dX3_add_25 : decode cX3_add 25 = .ok (.aload_n 0, 1) := by decide +kernel
theorem dX3_add_26 : decode cX3_add 26 = .ok (.getfield 7, 3) := by decide +kernel
theorem dX3_add_29 : decode cX3_add 29 = .ok (.iload_n 1, 1) := by decide +kernel
theorem dX3_add_30 : decode cX3_add 30 = .ok (.iastore, 1) := by decide +kernel
theorem dX3_add_31 : decode cX3_add 31 = .ok (.aload_n 0, 1) := by decide +kernel
theorem dX3_add_32 : decode cX3_add 32 = .ok (.dup, 1) := by decide +kernel
theorem dX3_add_33 : decode cX3_add 33 = .ok (.getfield 7, 3) := by decide +kernel
theorem dX3_add_36 : decode cX3_add 36 = .ok (.iconst 1, 1) := by decide +kernel
theorem dX3_add_37 : decode cX3_add 37 = .ok (.iadd, 1) := by decide +kernel
theorem dX3_add_38 : decode cX3_add 38 = .ok (.putfield 7, 3) := by decide +kernel
theorem dX3_add_41 : decode cX3_add 41 = .ok (.iconst 1, 1) := by decide +kernel
theorem dX3_add_42 : decode cX3_add 42 = .ok (.ireturn, 1) := by decide +kernel
theorem dX3_clear_0 : decode cX3_clear 0 = .ok (.aload_n 0, 1) := by decide +kernel
theorem dX3_clear_1 : decode cX3_clear 1 = .ok (.iconst 0, 1) := by decide +kernel
theorem dX3_clear_2 : decode cX3_clear 2 = .ok (.putfield 7, 3) := by decide +kernel
theorem dX3_clear_5 : decode cX3_clear 5 = .ok (.return_, 1) := by decide +kernel
theorem dX3_copyFrom_0 : decode cX3_copyFrom 0 = .ok (.aload_n 0, 1) := by decide +kernel
theorem dX3_copyFrom_1 : decode cX3_copyFrom 1 = .ok (.iconst 0, 1) := by decide +kernel
theorem dX3_copyFrom_2 : decode cX3_copyFrom 2 = .ok (.putfield 7, 3) := by decide +kernel
theorem dX3_copyFrom_5 : decode cX3_copyFrom 5 = .ok (.iconst 0, 1) := by decide +kernel
theorem dX3_copyFrom_6 : decode cX3_copyFrom 6 = .ok (.istore_n 2, 1) := by decide +kernel
theorem dX3_copyFrom_7 : decode cX3_copyFrom 7 = .ok (.iload_n 2, 1) := by decide +kernel
theorem dX3_copyFrom_8 : decode cX3_copyFrom 8 = .ok (.aload_n 1, 1) := by decide +kernel
theorem dX3_copyFrom_9 : decode cX3_copyFrom 9 = .ok (.getfield 7, 3) := by decide +kernel
theorem dX3_copyFrom_12 : decode cX3_copyFrom 12 = .ok (.if_icmp .ge 28, 3) := by decide +kernel
theorem dX3_copyFrom_15 : decode cX3_copyFrom 15 = .ok (.iload_n 2, 1) := by decide +kernel
theorem dX3_copyFrom_16 : decode cX3_copyFrom 16 = .ok (.aload_n 0, 1) := by decide +kernel
theorem dX3_copyFrom_17 : decode cX3_copyFrom 17 = .ok (.getfield 13, 3) := by decide +kernel
theorem dX3_copyFrom_20 : decode cX3_copyFrom 20 = .ok (.arraylength, 1) := by decide +kernel
theorem dX3_copyFrom_21 : decode cX3_copyFrom 21 = .ok (.if_icmp .ge 19, 3) := by decide +kernel
theorem dX3_copyFrom_24 : decode cX3_copyFrom 24 = .ok (.aload_n 0, 1) := by decide +kernel
theorem dX3_copyFrom_25 : decode cX3_copyFrom 25 = .ok (.aload_n 1, 1) := by decide +kernel
theorem dX3_copyFrom_26 : decode cX3_copyFrom 26 = .ok (.iload_n 2, 1) := by decide +kernel
theorem dX3_copyFrom_27 : decode cX3_copyFrom 27 = .ok (.invokevirtual 17, 3) := by decide +kernel
theorem dX3_copyFrom_30 : decode cX3_copyFrom 30 = .ok (.invokevirtual 21, 3) := by decide +kernel
theorem dX3_copyFrom_33 : decode cX3_copyFrom 33 = .ok (.pop, 1) := by decide +kernel
theorem dX3_copyFrom_34 : decode cX3_copyFrom 34 = .ok (.iinc 2 1, 3) := by decide +kernel
theorem dX3_copyFrom_37 : decode cX3_copyFrom 37 = .ok (.goto (-30), 3) := by decide +kernel
theorem dX3_copyFrom_40 : decode cX3_copyFrom 40 = .ok (.return_, 1) := by decide +kernel
theorem dX4_init_0 : decode cX4_init 0 = .ok (.aload_n 0, 1) := by decide +kernel
theorem dX4_init_1 : decode cX4_init 1 = .ok (.invokespecial 3, 3) := by decide +kernel
theorem dX4_init_4 : decode cX4_init 4 = .ok (.aload_n 0, 1) := by decide +kernel
theorem dX4_init_5 : decode cX4_init 5 = .ok (.bipush 24, 2) := by decide +kernel
theorem dX4_init_7 : decode cX4_init 7 = .ok (.newarray .int, 2) := by decide +kernel
theorem dX4_init_9 : decode cX4_init 9 = .ok (.putfield 9, 3) := by decide +kernel
theorem dX4_init_12 : decode cX4_init 12 = .ok (.aload_n 0, 1) := by decide +kernel
theorem dX4_init_13 : decode cX4_init 13 = .ok (.iconst 0, 1) := by decide +kernel
theorem dX4_init_14 : decode cX4_init 14 = .ok (.putfield 15, 3) := by decide +kernel
theorem dX4_init_17 : decode cX4_init 17 = .ok (.aload_n 0, 1) := by decide +kernel
theorem dX4_init_18 : decode cX4_init 18 = .ok (.iconst 0, 1) := by decide +kernel
theorem dX4_init_19 : decode cX4_init 19 = .ok (.putfield 19, 3) := by decide +kernel
theorem dX4_init_22 : decode cX4_init 22 = .ok (.return_, 1) := by decide +kernel
theorem dX4_isMissing_0 : decode cX4_isMissing 0 = .ok (.aload_n 0, 1) := by decide +kernel
theorem dX4_isMissing_1 : decode cX4_isMissing 1 = .ok (.getfield 15, 3) := by decide +kernel
theorem dX4_isMissing_4 : decode cX4_isMissing 4 = .ok (.ifCond .ne 7, 3) := by decide +kernel
theorem dX4_isMissing_7 : decode cX4_isMissing 7 = .ok (.iconst 1, 1) := by decide +kernel
theorem dX4_isMissing_8 : decode cX4_isMissing 8 = .ok (.goto 4, 3) := by decide +kernel
theorem dX4_isMissing_11 : decode cX4_isMissing 11 = .ok (.iconst 0, 1) := by decide +kernel
theorem dX4_isMissing_12 : decode cX4_isMissing 12 = .ok (.ireturn, 1) := by decide +kernel
theorem dX4_remake_0 : decode cX4_remake 0 = .ok (.aload_n 0, 1) := by decide +kernel
theorem dX4_remake_1 : decode cX4_remake 1 = .ok (.iload_n 1, 1) := by decide +kernel
theorem dX4_remake_2 : decode cX4_remake 2 = .ok (.putfield 15, 3) := by decide +kernel
theorem dX4_remake_5 : decode cX4_remake 5 = .ok (.aload_n 0, 1) := by decide +kernel
theorem dX4_remake_6 : decode cX4_remake 6 = .ok (.iload_n 2, 1) := by decide +kernel
theorem dX4_remake_7 : decode cX4_remake 7 = .ok (.putfield 19, 3) := by decide +kernel
theorem dX4_remake_10 : decode cX4_remake 10 = .ok (.iconst 0, 1) := by decide +kernel
theorem dX4_remake_11 : decode cX4_remake 11 = .ok (.istore_n 3, 1) := by decide +kernel
theorem dX4_remake_12 : decode cX4_remake 12 = .ok (.iload_n 3, 1) := by decide +kernel
theorem dX4_remake_13 : decode cX4_remake 13 = .ok (.aload_n 0, 1) := by decide +kernel
theorem dX4_remake_14 : decode cX4_remake 14 = .ok (.getfield 9, 3) := by decide +kernel
theorem dX4_remake_17 : decode cX4_remake 17 = .ok (.arraylength, 1) := by decide +kernel
theorem dX4_remake_18 : decode cX4_remake 18 = .ok (.if_icmp .ge 16, 3) := by decide +kernel
theorem dX4_remake_21 : decode cX4_remake 21 = .ok (.aload_n 0, 1) := by decide +kernel
theorem dX4_remake_22 : decode cX4_remake 22 = .ok (.getfield 9, 3) := by decide +kernel
theorem dX4_remake_25 : decode cX4_remake 25 = .ok (.iload_n 3, 1) := by decide +kernel
theorem dX4_remake_26 : decode cX4_remake 26 = .ok (.iconst 0, 1) := by decide +kernel
theorem dX4_remake_27 : decode cX4_remake 27 = .ok (.iastore, 1) := by decide +kernel
theorem dX4_remake_28 : decode cX4_remake 28 = .ok (.iinc 3 1, 3) := by decide +kernel
theorem dX4_remake_31 : decode cX4_remake 31 = .ok (.goto (-19), 3) := by decide +kernel
theorem dX4_remake_34 : decode cX4_remake 34 = .ok (.return_, 1) := by decide +kernel
theorem dX4_has_0 : decode cX4_has 0 = .ok (.iload_n 1, 1) := by decide +kernel
theorem dX4_has_1 : decode cX4_has 1 = .ok (.ifCond .lt 24, 3) := by decide +kernel
theorem dX4_has_4 : decode cX4_has 4 = .ok (.iload_n 1, 1) := by decide +kernel
theorem dX4_has_5 : decode cX4_has 5 = .ok (.aload_n 0, 1) := by decide +kernel
theorem dX4_has_6 : decode cX4_has 6 = .ok (.getfield 19, 3) := by decide +kernel
theorem dX4_has_9 : decode cX4_has 9 = .ok (.if_icmp .ge 16, 3) := by decide +kernel
theorem dX4_has_12 : decode cX4_has 12 = .ok (.iload_n 1, 1) := by decide +kernel
theorem dX4_has_13 : decode cX4_has 13 = .ok (.aload_n 0, 1) := by decide +kernel
theorem dX4_has_14 : decode cX4_has 14 = .ok (.getfield 9, 3) := by decide +kernel
theorem dX4_has_17 : decode cX4_has 17 = .ok (.arraylength, 1) := by decide +kernel
theorem dX4_has_18 : decode cX4_has 18 = .ok (.if_icmp .ge 7, 3) := by decide +kernel
theorem dX4_has_21 : decode cX4_has 21 = .ok (.iconst 1, 1) := by decide +kernel
theorem dX4_has_22 : decode cX4_has 22 = .ok (.goto 4, 3) := by decide +kernel
theorem dX4_has_25 : decode cX4_has 25 = .ok (.iconst 0, 1) := by decide +kernel
theorem dX4_has_26 : decode cX4_has 26 = .ok (.ireturn, 1) := by decide +kernel
theorem dX4_hasRun_0 : decode cX4_hasRun 0 = .ok (.iload_n 1, 1) := by decide +kernel
theorem dX4_hasRun_1 : decode cX4_hasRun 1 = .ok (.ifCond .lt 29, 3) := by decide +kernel
theorem dX4_hasRun_4 : decode cX4_hasRun 4 = .ok (.iload_n 2, 1) := by decide +kernel
theorem dX4_hasRun_5 : decode cX4_hasRun 5 = .ok (.ifCond .lt 25, 3) := by decide +kernel
theorem dX4_hasRun_8 : decode cX4_hasRun 8 = .ok (.iload_n 1, 1) := by decide +kernel
theorem dX4_hasRun_9 : decode cX4_hasRun 9 = .ok (.aload_n 0, 1) := by decide +kernel
theorem dX4_hasRun_10 : decode cX4_hasRun 10 = .ok (.getfield 19, 3) := by decide +kernel
theorem dX4_hasRun_13 : decode cX4_hasRun 13 = .ok (.if_icmp .gt 17, 3) := by decide +kernel
theorem dX4_hasRun_16 : decode cX4_hasRun 16 = .ok (.iload_n 2, 1) := by decide +kernel
theorem dX4_hasRun_17 : decode cX4_hasRun 17 = .ok (.aload_n 0, 1) := by decide +kernel
theorem dX4_hasRun_18 : decode cX4_hasRun 18 = .ok (.getfield 19, 3) := by decide +kernel
theorem dX4_hasRun_21 : decode cX4_hasRun 21 = .ok (.iload_n 1, 1) := by decide +kernel
theorem dX4_hasRun_22 : decode cX4_hasRun 22 = .ok (.isub, 1) := by decide +kernel
theorem dX4_hasRun_23 : decode cX4_hasRun 23 = .ok (.if_icmp .gt 7, 3) := by decide +kernel
theorem dX4_hasRun_26 : decode cX4_hasRun 26 = .ok (.iconst 1, 1) := by decide +kernel
theorem dX4_hasRun_27 : decode cX4_hasRun 27 = .ok (.goto 4, 3) := by decide +kernel
theorem dX4_hasRun_30 : decode cX4_hasRun 30 = .ok (.iconst 0, 1) := by decide +kernel
theorem dX4_hasRun_31 : decode cX4_hasRun 31 = .ok (.ireturn, 1) := by decide +kernel
theorem dX4_at_0 : decode cX4_at 0 = .ok (.aload_n 0, 1) := by decide +kernel
theorem dX4_at_1 : decode cX4_at 1 = .ok (.iload_n 1, 1) := by decide +kernel
theorem dX4_at_2 : decode cX4_at 2 = .ok (.invokevirtual 22, 3) := by decide +kernel
theorem dX4_at_5 : decode cX4_at 5 = .ok (.ifCond .eq 12, 3) := by decide +kernel
theorem dX4_at_8 : decode cX4_at 8 = .ok (.aload_n 0, 1) := by decide +kernel
theorem dX4_at_9 : decode cX4_at 9 = .ok (.getfield 9, 3) := by decide +kernel
theorem dX4_at_12 : decode cX4_at 12 = .ok (.iload_n 1, 1) := by decide +kernel
theorem dX4_at_13 : decode cX4_at 13 = .ok (.iaload, 1) := by decide +kernel
theorem dX4_at_14 : decode cX4_at 14 = .ok (.goto 4, 3) := by decide +kernel
theorem dX4_at_17 : decode cX4_at 17 = .ok (.iconst 0, 1) := by decide +kernel
theorem dX4_at_18 : decode cX4_at 18 = .ok (.ireturn, 1) := by decide +kernel
theorem dX4_write_0 : decode cX4_write 0 = .ok (.aload_n 0, 1) := by decide +kernel
theorem dX4_write_1 : decode cX4_write 1 = .ok (.iload_n 1, 1) := by decide +kernel
theorem dX4_write_2 : decode cX4_write 2 = .ok (.invokevirtual 22, 3) := by decide +kernel
theorem dX4_write_5 : decode cX4_write 5 = .ok (.ifCond .eq 38, 3) := by decide +kernel
theorem dX4_write_8 : decode cX4_write 8 = .ok (.aload_n 0, 1) := by decide +kernel
theorem dX4_write_9 : decode cX4_write 9 = .ok (.getfield 9, 3) := by decide +kernel
theorem dX4_write_12 : decode cX4_write 12 = .ok (.iload_n 1, 1) := by decide +kernel
theorem dX4_write_13 : decode cX4_write 13 = .ok (.aload_n 0, 1) := by decide +kernel
theorem dX4_write_14 : decode cX4_write 14 = .ok (.getfield 15, 3) := by decide +kernel
theorem dX4_write_17 : decode cX4_write 17 = .ok (.bipush 8, 2) := by decide +kernel
theorem dX4_write_19 : decode cX4_write 19 = .ok (.if_icmp .ne 8, 3) := by decide +kernel
theorem dX4_write_22 : decode cX4_write 22 = .ok (.iload_n 2, 1) := by decide +kernel
theorem dX4_write_23 : decode cX4_write 23 = .ok (.i2b, 1) := by decide +kernel
theorem dX4_write_24 : decode cX4_write 24 = .ok (.goto 18, 3) := by decide +kernel
theorem dX4_write_27 : decode cX4_write 27 = .ok (.aload_n 0, 1) := by decide +kernel
theorem dX4_write_28 : decode cX4_write 28 = .ok (.getfield 15, 3) := by decide +kernel
theorem dX4_write_31 : decode cX4_write 31 = .ok (.bipush 16, 2) := by decide +kernel
theorem dX4_write_33 : decode cX4_write 33 = .ok (.if_icmp .ne 8, 3) := by decide +kernel
theorem dX4_write_36 : decode cX4_write 36 = .ok (.iload_n 2, 1) := by decide +kernel
theorem dX4_write_37 : decode cX4_write 37 = .ok (.i2s, 1) := by decide +kernel
theorem dX4_write_38 : decode cX4_write 38 = .ok (.goto 4, 3) := by decide +kernel
theorem dX4_write_41 : decode cX4_write 41 = .ok (.iload_n 2, 1) := by decide +kernel
theorem dX4_write_42 : decode cX4_write 42 = .ok (.iastore, 1) := by decide +kernel
theorem dX4_write_43 : decode cX4_write 43 = .ok (.return_, 1) := by decide +kernel
theorem dX4_take_0 : decode cX4_take 0 = .ok (.iconst 0, 1) := by decide +kernel
theorem dX4_take_1 : decode cX4_take 1 = .ok (.istore 5, 2) := by decide +kernel
theorem dX4_take_3 : decode cX4_take 3 = .ok (.iload 5, 2) := by decide +kernel
theorem dX4_take_5 : decode cX4_take 5 = .ok (.iload 4, 2) := by decide +kernel
theorem dX4_take_7 : decode cX4_take 7 = .ok (.if_icmp .ge 51, 3) := by decide +kernel
theorem dX4_take_10 : decode cX4_take 10 = .ok (.iload 5, 2) := by decide +kernel
theorem dX4_take_12 : decode cX4_take 12 = .ok (.bipush 24, 2) := by decide +kernel
theorem dX4_take_14 : decode cX4_take 14 = .ok (.if_icmp .ge 44, 3) := by decide +kernel
theorem dX4_take_17 : decode cX4_take 17 = .ok (.iload_n 2, 1) := by decide +kernel
theorem dX4_take_18 : decode cX4_take 18 = .ok (.iload_n 3, 1) := by decide +kernel
theorem dX4_take_19 : decode cX4_take 19 = .ok (.if_icmp .lt 8, 3) := by decide +kernel
theorem dX4_take_22 : decode cX4_take 22 = .ok (.iload 5, 2) := by decide +kernel
theorem dX4_take_24 : decode cX4_take 24 = .ok (.goto 10, 3) := by decide +kernel
theorem dX4_take_27 : decode cX4_take 27 = .ok (.iload 4, 2) := by decide +kernel
theorem dX4_take_29 : decode cX4_take 29 = .ok (.iconst 1, 1) := by decide +kernel
theorem dX4_take_30 : decode cX4_take 30 = .ok (.isub, 1) := by decide +kernel
theorem dX4_take_31 : decode cX4_take 31 = .ok (.iload 5, 2) := by decide +kernel
theorem dX4_take_33 : decode cX4_take 33 = .ok (.isub, 1) := by decide +kernel
theorem dX4_take_34 : decode cX4_take 34 = .ok (.istore 6, 2) := by decide +kernel
theorem dX4_take_36 : decode cX4_take 36 = .ok (.aload_n 0, 1) := by decide +kernel
theorem dX4_take_37 : decode cX4_take 37 = .ok (.iload_n 3, 1) := by decide +kernel
theorem dX4_take_38 : decode cX4_take 38 = .ok (.iload 6, 2) := by decide +kernel
theorem dX4_take_40 : decode cX4_take 40 = .ok (.iadd, 1) := by decide +kernel
theorem dX4_take_41 : decode cX4_take 41 = .ok (.aload_n 1, 1) := by decide +kernel
theorem dX4_take_42 : decode cX4_take 42 = .ok (.iload_n 2, 1) := by decide +kernel
theorem dX4_take_43 : decode cX4_take 43 = .ok (.iload 6, 2) := by decide +kernel
theorem dX4_take_45 : decode cX4_take 45 = .ok (.iadd, 1) := by decide +kernel
theorem dX4_take_46 : decode cX4_take 46 = .ok (.invokevirtual 26, 3) := by decide +kernel
theorem dX4_take_49 : decode cX4_take 49 = .ok (.invokevirtual 30, 3) := by decide +kernel
theorem dX4_take_52 : decode cX4_take 52 = .ok (.iinc 5 1, 3) := by decide +kernel
theorem dX4_take_55 : decode cX4_take 55 = .ok (.goto (-52), 3) := by decide +kernel
theorem dX4_take_58 : decode cX4_take 58 = .ok (.return_, 1) := by decide +kernel
theorem dX5_init_0 : decode cX5_init 0 = .ok (.aload_n 0, 1) := by decide +kernel
theorem dX5_init_1 : decode cX5_init 1 = .ok (.invokespecial 3, 3) := by decide +kernel
theorem dX5_init_4 : decode cX5_init 4 = .ok (.aload_n 0, 1) := by decide +kernel
theorem dX5_init_5 : decode cX5_init 5 = .ok (.new 9, 3) := by decide +kernel
theorem dX5_init_8 : decode cX5_init 8 = .ok (.dup, 1) := by decide +kernel
theorem dX5_init_9 : decode cX5_init 9 = .ok (.bipush 60, 2) := by decide +kernel
theorem dX5_init_11 : decode cX5_init 11 = .ok (.invokespecial 11, 3) := by decide +kernel
theorem dX5_init_14 : decode cX5_init 14 = .ok (.putfield 14, 3) := by decide +kernel
theorem dX5_init_17 : decode cX5_init 17 = .ok (.aload_n 0, 1) := by decide +kernel
theorem dX5_init_18 : decode cX5_init 18 = .ok (.bipush 60, 2) := by decide +kernel
theorem dX5_init_20 : decode cX5_init 20 = .ok (.newarray .int, 2) := by decide +kernel
theorem dX5_init_22 : decode cX5_init 22 = .ok (.putfield 20, 3) := by decide +kernel
theorem dX5_init_25 : decode cX5_init 25 = .ok (.aload_n 0, 1) := by decide +kernel
theorem dX5_init_26 : decode cX5_init 26 = .ok (.iload_n 1, 1) := by decide +kernel
theorem dX5_init_27 : decode cX5_init 27 = .ok (.putfield 24, 3) := by decide +kernel
theorem dX5_init_30 : decode cX5_init 30 = .ok (.return_, 1) := by decide +kernel
theorem dX5_clear_0 : decode cX5_clear 0 = .ok (.aload_n 0, 1) := by decide +kernel
theorem dX5_clear_1 : decode cX5_clear 1 = .ok (.getfield 14, 3) := by decide +kernel
theorem dX5_clear_4 : decode cX5_clear 4 = .ok (.invokevirtual 28, 3) := by decide +kernel
theorem dX5_clear_7 : decode cX5_clear 7 = .ok (.return_, 1) := by decide +kernel
theorem dX5_copyFrom_0 : decode cX5_copyFrom 0 = .ok (.aload_n 0, 1) := by decide +kernel
theorem dX5_copyFrom_1 : decode cX5_copyFrom 1 = .ok (.getfield 14, 3) := by decide +kernel
theorem dX5_copyFrom_4 : decode cX5_copyFrom 4 = .ok (.aload_n 1, 1) := by decide +kernel
theorem dX5_copyFrom_5 : decode cX5_copyFrom 5 = .ok (.getfield 14, 3) := by decide +kernel
theorem dX5_copyFrom_8 : decode cX5_copyFrom 8 = .ok (.invokevirtual 31, 3) := by decide +kernel
theorem dX5_copyFrom_11 : decode cX5_copyFrom 11 = .ok (.return_, 1) := by decide +kernel
theorem dX5_gives_0 : decode cX5_gives 0 = .ok (.aload_n 0, 1) := by decide +kernel
theorem dX5_gives_1 : decode cX5_gives 1 = .ok (.getfield 14, 3) := by decide +kernel
theorem dX5_gives_4 : decode cX5_gives 4 = .ok (.invokevirtual 35, 3) := by decide +kernel
theorem dX5_gives_7 : decode cX5_gives 7 = .ok (.ifCond .ne 24, 3) := by decide +kernel
theorem dX5_gives_10 : decode cX5_gives 10 = .ok (.aload_n 0, 1) := by decide +kernel
theorem dX5_gives_11 : decode cX5_gives 11 = .ok (.aload_n 0, 1) := by decide +kernel
theorem dX5_gives_12 : decode cX5_gives 12 = .ok (.getfield 24, 3) := by decide +kernel
theorem dX5_gives_15 : decode cX5_gives 15 = .ok (.ifCond .ne 7, 3) := by decide +kernel
theorem dX5_gives_18 : decode cX5_gives 18 = .ok (.iload_n 1, 1) := by decide +kernel
theorem dX5_gives_19 : decode cX5_gives 19 = .ok (.goto 8, 3) := by decide +kernel
theorem dX5_gives_22 : decode cX5_gives 22 = .ok (.iconst 5, 1) := by decide +kernel
theorem dX5_gives_23 : decode cX5_gives 23 = .ok (.iconst 3, 1) := by decide +kernel
theorem dX5_gives_24 : decode cX5_gives 24 = .ok (.iload_n 1, 1) := by decide +kernel
theorem dX5_gives_25 : decode cX5_gives 25 = .ok (.imul, 1) := by decide +kernel
theorem dX5_gives_26 : decode cX5_gives 26 = .ok (.iadd, 1) := by decide +kernel
theorem dX5_gives_27 : decode cX5_gives 27 = .ok (.invokevirtual 39, 3) := by decide +kernel
theorem dX5_gives_30 : decode cX5_gives 30 = .ok (.ireturn, 1) := by decide +kernel
theorem dX5_gives_31 : decode cX5_gives 31 = .ok (.iconst 0, 1) := by decide +kernel
theorem dX5_gives_32 : decode cX5_gives 32 = .ok (.istore 4, 2) := by decide +kernel
theorem dX5_gives_34 : decode cX5_gives 34 = .ok (.iconst 0, 1) := by decide +kernel
theorem dX5_gives_35 : decode cX5_gives 35 = .ok (.istore 5, 2) := by decide +kernel
theorem dX5_gives_37 : decode cX5_gives 37 = .ok (.iload 5, 2) := by decide +kernel
theorem dX5_gives_39 : decode cX5_gives 39 = .ok (.aload_n 0, 1) := by decide +kernel
theorem dX5_gives_40 : decode cX5_gives 40 = .ok (.getfield 14, 3) := by decide +kernel
theorem dX5_gives_43 : decode cX5_gives 43 = .ok (.invokevirtual 35, 3) := by decide +kernel
theorem dX5_gives_46 : decode cX5_gives 46 = .ok (.if_icmp .ge 184, 3) := by decide +kernel
theorem dX5_gives_49 : decode cX5_gives 49 = .ok (.aload_n 0, 1) := by decide +kernel
theorem dX5_gives_50 : decode cX5_gives 50 = .ok (.getfield 14, 3) := by decide +kernel
theorem dX5_gives_53 : decode cX5_gives 53 = .ok (.iload 5, 2) := by decide +kernel
theorem dX5_gives_55 : decode cX5_gives 55 = .ok (.invokevirtual 43, 3) := by decide +kernel
theorem dX5_gives_58 : decode cX5_gives 58 = .ok (.istore 6, 2) := by decide +kernel
theorem dX5_gives_60 : decode cX5_gives 60 = .ok (.iload 6, 2) := by decide +kernel
theorem dX5_gives_62 : decode cX5_gives 62 = .ok (.bipush (-3), 2) := by decide +kernel
theorem dX5_gives_64 : decode cX5_gives 64 = .ok (.if_icmp .lt 58, 3) := by decide +kernel
theorem dX5_gives_67 : decode cX5_gives 67 = .ok (.iload 4, 2) := by decide +kernel
theorem dX5_gives_69 : decode cX5_gives 69 = .ok (.aload_n 0, 1) := by decide +kernel
theorem dX5_gives_70 : decode cX5_gives 70 = .ok (.getfield 20, 3) := by decide +kernel
theorem dX5_gives_73 : decode cX5_gives 73 = .ok (.arraylength, 1) := by decide +kernel
theorem dX5_gives_74 : decode cX5_gives 74 = .ok (.if_icmp .ge 48, 3) := by decide +kernel
theorem dX5_gives_77 : decode cX5_gives 77 = .ok (.aload_n 0, 1) := by decide +kernel
theorem dX5_gives_78 : decode cX5_gives 78 = .ok (.getfield 20, 3) := by decide +kernel
theorem dX5_gives_81 : decode cX5_gives 81 = .ok (.iload 4, 2) := by decide +kernel
theorem dX5_gives_83 : decode cX5_gives 83 = .ok (.iload 6, 2) := by decide +kernel
theorem dX5_gives_85 : decode cX5_gives 85 = .ok (.ifCond .lt 8, 3) := by decide +kernel
theorem dX5_gives_88 : decode cX5_gives 88 = .ok (.iload 6, 2) := by decide +kernel
theorem dX5_gives_90 : decode cX5_gives 90 = .ok (.goto 25, 3) := by decide +kernel
theorem dX5_gives_93 : decode cX5_gives 93 = .ok (.iload 6, 2) := by decide +kernel
theorem dX5_gives_95 : decode cX5_gives 95 = .ok (.iconst (-1), 1) := by decide +kernel
theorem dX5_gives_96 : decode cX5_gives 96 = .ok (.if_icmp .ne 7, 3) := by decide +kernel
theorem dX5_gives_99 : decode cX5_gives 99 = .ok (.iload_n 1, 1) := by decide +kernel
theorem dX5_gives_100 : decode cX5_gives 100 = .ok (.goto 15, 3) := by decide +kernel
theorem dX5_gives_103 : decode cX5_gives 103 = .ok (.iload 6, 2) := by decide +kernel
theorem dX5_gives_105 : decode cX5_gives 105 = .ok (.bipush (-2), 2) := by decide +kernel
theorem dX5_gives_107 : decode cX5_gives 107 = .ok (.if_icmp .ne 7, 3) := by decide +kernel
theorem dX5_gives_110 : decode cX5_gives 110 = .ok (.iload_n 2, 1) := by decide +kernel
theorem dX5_gives_111 : decode cX5_gives 111 = .ok (.goto 4, 3) := by decide +kernel
theorem dX5_gives_114 : decode cX5_gives 114 = .ok (.iload_n 3, 1) := by decide +kernel
theorem dX5_gives_115 : decode cX5_gives 115 = .ok (.iastore, 1) := by decide +kernel
theorem dX5_gives_116 : decode cX5_gives 116 = .ok (.iinc 4 1, 3) := by decide +kernel
theorem dX5_gives_119 : decode cX5_gives 119 = .ok (.goto 105, 3) := by decide +kernel
theorem dX5_gives_122 : decode cX5_gives 122 = .ok (.iload 6, 2) := by decide +kernel
theorem dX5_gives_124 : decode cX5_gives 124 = .ok (.bipush (-33), 2) := by decide +kernel
theorem dX5_gives_126 : decode cX5_gives 126 = .ok (.if_icmp .ne 48, 3) := by decide +kernel
theorem dX5_gives_129 : decode cX5_gives 129 = .ok (.iload 4, 2) := by decide +kernel
theorem dX5_gives_131 : decode cX5_gives 131 = .ok (.iconst 1, 1) := by decide +kernel
theorem dX5_gives_132 : decode cX5_gives 132 = .ok (.if_icmp .lt 42, 3) := by decide +kernel
theorem dX5_gives_135 : decode cX5_gives 135 = .ok (.iload 4, 2) := by decide +kernel
theorem dX5_gives_137 : decode cX5_gives 137 = .ok (.aload_n 0, 1) := by decide +kernel
theorem dX5_gives_138 : decode cX5_gives 138 = .ok (.getfield 20, 3) := by decide +kernel
theorem dX5_gives_141 : decode cX5_gives 141 = .ok (.arraylength, 1) := by decide +kernel
theorem dX5_gives_142 : decode cX5_gives 142 = .ok (.if_icmp .gt 32, 3) := by decide +kernel
theorem dX5_gives_145 : decode cX5_gives 145 = .ok (.aload_n 0, 1) := by decide +kernel
theorem dX5_gives_146 : decode cX5_gives 146 = .ok (.getfield 20, 3) := by decide +kernel
theorem dX5_gives_149 : decode cX5_gives 149 = .ok (.iload 4, 2) := by decide +kernel
theorem dX5_gives_151 : decode cX5_gives 151 = .ok (.iconst 1, 1) := by decide +kernel
theorem dX5_gives_152 : decode cX5_gives 152 = .ok (.isub, 1) := by decide +kernel
theorem dX5_gives_153 : decode cX5_gives 153 = .ok (.aload_n 0, 1) := by decide +kernel
theorem dX5_gives_154 : decode cX5_gives 154 = .ok (.getfield 20, 3) := by decide +kernel
theorem dX5_gives_157 : decode cX5_gives 157 = .ok (.iload 4, 2) := by decide +kernel
theorem dX5_gives_159 : decode cX5_gives 159 = .ok (.iconst 1, 1) := by decide +kernel
theorem dX5_gives_160 : decode cX5_gives 160 = .ok (.isub, 1) := by decide +kernel
theorem dX5_gives_161 : decode cX5_gives 161 = .ok (.iaload, 1) := by decide +kernel
theorem dX5_gives_162 : decode cX5_gives 162 = .ok (.ifCond .ne 7, 3) := by decide +kernel
theorem dX5_gives_165 : decode cX5_gives 165 = .ok (.iconst 1, 1) := by decide +kernel
theorem dX5_gives_166 : decode cX5_gives 166 = .ok (.goto 4, 3) := by decide +kernel
theorem dX5_gives_169 : decode cX5_gives 169 = .ok (.iconst 0, 1) := by decide +kernel
theorem dX5_gives_170 : decode cX5_gives 170 = .ok (.iastore, 1) := by decide +kernel
theorem dX5_gives_171 : decode cX5_gives 171 = .ok (.goto 53, 3) := by decide +kernel
theorem dX5_gives_174 : decode cX5_gives 174 = .ok (.iload 4, 2) := by decide +kernel
theorem dX5_gives_176 : decode cX5_gives 176 = .ok (.iconst 2, 1) := by decide +kernel
theorem dX5_gives_177 : decode cX5_gives 177 = .ok (.if_icmp .lt 47, 3) := by decide +kernel
theorem dX5_gives_180 : decode cX5_gives 180 = .ok (.iload 4, 2) := by decide +kernel
theorem dX5_gives_182 : decode cX5_gives 182 = .ok (.aload_n 0, 1) := by decide +kernel
theorem dX5_gives_183 : decode cX5_gives 183 = .ok (.getfield 20, 3) := by decide +kernel
theorem dX5_gives_186 : decode cX5_gives 186 = .ok (.arraylength, 1) := by decide +kernel
theorem dX5_gives_187 : decode cX5_gives 187 = .ok (.if_icmp .gt 37, 3) := by decide +kernel
theorem dX5_gives_190 : decode cX5_gives 190 = .ok (.iinc 4 (-1), 3) := by decide +kernel
theorem dX5_gives_193 : decode cX5_gives 193 = .ok (.aload_n 0, 1) := by decide +kernel
theorem dX5_gives_194 : decode cX5_gives 194 = .ok (.getfield 20, 3) := by decide +kernel
theorem dX5_gives_197 : decode cX5_gives 197 = .ok (.iload 4, 2) := by decide +kernel
theorem dX5_gives_199 : decode cX5_gives 199 = .ok (.iconst 1, 1) := by decide +kernel
theorem dX5_gives_200 : decode cX5_gives 200 = .ok (.isub, 1) := by decide +kernel
theorem dX5_gives_201 : decode cX5_gives 201 = .ok (.iload 6, 2) := by decide +kernel
theorem dX5_gives_203 : decode cX5_gives 203 = .ok (.ineg, 1) := by decide +kernel
theorem dX5_gives_204 : decode cX5_gives 204 = .ok (.aload_n 0, 1) := by decide +kernel
theorem dX5_gives_205 : decode cX5_gives 205 = .ok (.getfield 20, 3) := by decide +kernel
theorem dX5_gives_208 : decode cX5_gives 208 = .ok (.iload 4, 2) := by decide +kernel
theorem dX5_gives_210 : decode cX5_gives 210 = .ok (.iconst 1, 1) := by decide +kernel
theorem dX5_gives_211 : decode cX5_gives 211 = .ok (.isub, 1) := by decide +kernel
theorem dX5_gives_212 : decode cX5_gives 212 = .ok (.iaload, 1) := by decide +kernel
theorem dX5_gives_213 : decode cX5_gives 213 = .ok (.aload_n 0, 1) := by decide +kernel
theorem dX5_gives_214 : decode cX5_gives 214 = .ok (.getfield 20, 3) := by decide +kernel
theorem dX5_gives_217 : decode cX5_gives 217 = .ok (.iload 4, 2) := by decide +kernel
theorem dX5_gives_219 : decode cX5_gives 219 = .ok (.iaload, 1) := by decide +kernel
theorem dX5_gives_220 : decode cX5_gives 220 = .ok (.invokestatic 46, 3) := by decide +kernel
theorem dX5_gives_223 : decode cX5_gives 223 = .ok (.iastore, 1) := by decide +kernel
theorem dX5_gives_224 : decode cX5_gives 224 = .ok (.iinc 5 1, 3) := by decide +kernel
theorem dX5_gives_227 : decode cX5_gives 227 = .ok (.goto (-190), 3) := by decide +kernel
theorem dX5_gives_230 : decode cX5_gives 230 = .ok (.aload_n 0, 1) := by decide +kernel
theorem dX5_gives_231 : decode cX5_gives 231 = .ok (.aload_n 0, 1) := by decide +kernel
theorem dX5_gives_232 : decode cX5_gives 232 = .ok (.getfield 20, 3) := by decide +kernel
theorem dX5_gives_235 : decode cX5_gives 235 = .ok (.arraylength, 1) := by decide +kernel
theorem dX5_gives_236 : decode cX5_gives 236 = .ok (.ifCond .le 12, 3) := by decide +kernel
theorem dX5_gives_239 : decode cX5_gives 239 = .ok (.aload_n 0, 1) := by decide +kernel
theorem dX5_gives_240 : decode cX5_gives 240 = .ok (.getfield 20, 3) := by decide +kernel
theorem dX5_gives_243 : decode cX5_gives 243 = .ok (.iconst 0, 1) := by decide +kernel
theorem dX5_gives_244 : decode cX5_gives 244 = .ok (.iaload, 1) := by decide +kernel
theorem dX5_gives_245 : decode cX5_gives 245 = .ok (.goto 4, 3) := by decide +kernel
theorem dX5_gives_248 : decode cX5_gives 248 = .ok (.iconst 0, 1) := by decide +kernel
theorem dX5_gives_249 : decode cX5_gives 249 = .ok (.invokevirtual 39, 3) := by decide +kernel
theorem dX5_gives_252 : decode cX5_gives 252 = .ok (.ireturn, 1) := by decide +kernel
theorem dX5_held_0 : decode cX5_held 0 = .ok (.aload_n 0, 1) := by decide +kernel
theorem dX5_held_1 : decode cX5_held 1 = .ok (.getfield 24, 3) := by decide +kernel
theorem dX5_held_4 : decode cX5_held 4 = .ok (.ifCond .ne 8, 3) := by decide +kernel
theorem dX5_held_7 : decode cX5_held 7 = .ok (.bipush 99, 2) := by decide +kernel
theorem dX5_held_9 : decode cX5_held 9 = .ok (.goto 6, 3) := by decide +kernel
theorem dX5_held_12 : decode cX5_held 12 = .ok (.sipush 199, 3) := by decide +kernel
theorem dX5_held_15 : decode cX5_held 15 = .ok (.istore_n 2, 1) := by decide +kernel
theorem dX5_held_16 : decode cX5_held 16 = .ok (.iload_n 1, 1) := by decide +kernel
theorem dX5_held_17 : decode cX5_held 17 = .ok (.ifCond .ge 7, 3) := by decide +kernel
theorem dX5_held_20 : decode cX5_held 20 = .ok (.iconst 0, 1) := by decide +kernel
theorem dX5_held_21 : decode cX5_held 21 = .ok (.goto 13, 3) := by decide +kernel
theorem dX5_held_24 : decode cX5_held 24 = .ok (.iload_n 1, 1) := by decide +kernel
theorem dX5_held_25 : decode cX5_held 25 = .ok (.iload_n 2, 1) := by decide +kernel
theorem dX5_held_26 : decode cX5_held 26 = .ok (.if_icmp .le 7, 3) := by decide +kernel
theorem dX5_held_29 : decode cX5_held 29 = .ok (.iload_n 2, 1) := by decide +kernel
theorem dX5_held_30 : decode cX5_held 30 = .ok (.goto 4, 3) := by decide +kernel
theorem dX5_held_33 : decode cX5_held 33 = .ok (.iload_n 1, 1) := by decide +kernel
theorem dX5_held_34 : decode cX5_held 34 = .ok (.ireturn, 1) := by decide +kernel
theorem dX5_joined_0 : decode cX5_joined 0 = .ok (.iload_n 0, 1) := by decide +kernel
theorem dX5_joined_1 : decode cX5_joined 1 = .ok (.lookupswitch 188 #[(37, 176), (38, 105), (42, 160), (43, 152), (45, 156), (47, 164), (60, 119), (61, 130), (62, 141), (124, 91)], 91) := by decide +kernel
theorem dX5_joined_92 : decode cX5_joined 92 = .ok (.iload_n 1, 1) := by decide +kernel
theorem dX5_joined_93 : decode cX5_joined 93 = .ok (.ifCond .ne 7, 3) := by decide +kernel
theorem dX5_joined_96 : decode cX5_joined 96 = .ok (.iload_n 2, 1) := by decide +kernel
theorem dX5_joined_97 : decode cX5_joined 97 = .ok (.ifCond .eq 7, 3) := by decide +kernel
theorem dX5_joined_100 : decode cX5_joined 100 = .ok (.iconst 1, 1) := by decide +kernel
theorem dX5_joined_101 : decode cX5_joined 101 = .ok (.goto 4, 3) := by decide +kernel
theorem dX5_joined_104 : decode cX5_joined 104 = .ok (.iconst 0, 1) := by decide +kernel
theorem dX5_joined_105 : decode cX5_joined 105 = .ok (.ireturn, 1) := by decide +kernel
theorem dX5_joined_106 : decode cX5_joined 106 = .ok (.iload_n 1, 1) := by decide +kernel
theorem dX5_joined_107 : decode cX5_joined 107 = .ok (.ifCond .eq 11, 3) := by decide +kernel
theorem dX5_joined_110 : decode cX5_joined 110 = .ok (.iload_n 2, 1) := by decide +kernel
theorem dX5_joined_111 : decode cX5_joined 111 = .ok (.ifCond .eq 7, 3) := by decide +kernel
theorem dX5_joined_114 : decode cX5_joined 114 = .ok (.iconst 1, 1) := by decide +kernel
theorem dX5_joined_115 : decode cX5_joined 115 = .ok (.goto 4, 3) := by decide +kernel
theorem dX5_joined_118 : decode cX5_joined 118 = .ok (.iconst 0, 1) := by decide +kernel
theorem dX5_joined_119 : decode cX5_joined 119 = .ok (.ireturn, 1) := by decide +kernel
theorem dX5_joined_120 : decode cX5_joined 120 = .ok (.iload_n 1, 1) := by decide +kernel
theorem dX5_joined_121 : decode cX5_joined 121 = .ok (.iload_n 2, 1) := by decide +kernel
theorem dX5_joined_122 : decode cX5_joined 122 = .ok (.if_icmp .ge 7, 3) := by decide +kernel
theorem dX5_joined_125 : decode cX5_joined 125 = .ok (.iconst 1, 1) := by decide +kernel
theorem dX5_joined_126 : decode cX5_joined 126 = .ok (.goto 4, 3) := by decide +kernel
theorem dX5_joined_129 : decode cX5_joined 129 = .ok (.iconst 0, 1) := by decide +kernel
theorem dX5_joined_130 : decode cX5_joined 130 = .ok (.ireturn, 1) := by decide +kernel
theorem dX5_joined_131 : decode cX5_joined 131 = .ok (.iload_n 1, 1) := by decide +kernel
theorem dX5_joined_132 : decode cX5_joined 132 = .ok (.iload_n 2, 1) := by decide +kernel
theorem dX5_joined_133 : decode cX5_joined 133 = .ok (.if_icmp .ne 7, 3) := by decide +kernel
theorem dX5_joined_136 : decode cX5_joined 136 = .ok (.iconst 1, 1) := by decide +kernel
theorem dX5_joined_137 : decode cX5_joined 137 = .ok (.goto 4, 3) := by decide +kernel
theorem dX5_joined_140 : decode cX5_joined 140 = .ok (.iconst 0, 1) := by decide +kernel
theorem dX5_joined_141 : decode cX5_joined 141 = .ok (.ireturn, 1) := by decide +kernel
theorem dX5_joined_142 : decode cX5_joined 142 = .ok (.iload_n 1, 1) := by decide +kernel
theorem dX5_joined_143 : decode cX5_joined 143 = .ok (.iload_n 2, 1) := by decide +kernel
theorem dX5_joined_144 : decode cX5_joined 144 = .ok (.if_icmp .le 7, 3) := by decide +kernel
theorem dX5_joined_147 : decode cX5_joined 147 = .ok (.iconst 1, 1) := by decide +kernel
theorem dX5_joined_148 : decode cX5_joined 148 = .ok (.goto 4, 3) := by decide +kernel
theorem dX5_joined_151 : decode cX5_joined 151 = .ok (.iconst 0, 1) := by decide +kernel
theorem dX5_joined_152 : decode cX5_joined 152 = .ok (.ireturn, 1) := by decide +kernel
theorem dX5_joined_153 : decode cX5_joined 153 = .ok (.iload_n 1, 1) := by decide +kernel
theorem dX5_joined_154 : decode cX5_joined 154 = .ok (.iload_n 2, 1) := by decide +kernel
theorem dX5_joined_155 : decode cX5_joined 155 = .ok (.iadd, 1) := by decide +kernel
theorem dX5_joined_156 : decode cX5_joined 156 = .ok (.ireturn, 1) := by decide +kernel
theorem dX5_joined_157 : decode cX5_joined 157 = .ok (.iload_n 1, 1) := by decide +kernel
theorem dX5_joined_158 : decode cX5_joined 158 = .ok (.iload_n 2, 1) := by decide +kernel
theorem dX5_joined_159 : decode cX5_joined 159 = .ok (.isub, 1) := by decide +kernel
theorem dX5_joined_160 : decode cX5_joined 160 = .ok (.ireturn, 1) := by decide +kernel
theorem dX5_joined_161 : decode cX5_joined 161 = .ok (.iload_n 1, 1) := by decide +kernel
theorem dX5_joined_162 : decode cX5_joined 162 = .ok (.iload_n 2, 1) := by decide +kernel
theorem dX5_joined_163 : decode cX5_joined 163 = .ok (.imul, 1) := by decide +kernel
theorem dX5_joined_164 : decode cX5_joined 164 = .ok (.ireturn, 1) := by decide +kernel
theorem dX5_joined_165 : decode cX5_joined 165 = .ok (.iload_n 2, 1) := by decide +kernel
theorem dX5_joined_166 : decode cX5_joined 166 = .ok (.ifCond .ne 7, 3) := by decide +kernel
theorem dX5_joined_169 : decode cX5_joined 169 = .ok (.iconst 0, 1) := by decide +kernel
theorem dX5_joined_170 : decode cX5_joined 170 = .ok (.goto 6, 3) := by decide +kernel
theorem dX5_joined_173 : decode cX5_joined 173 = .ok (.iload_n 1, 1) := by decide +kernel
theorem dX5_joined_174 : decode cX5_joined 174 = .ok (.iload_n 2, 1) := by decide +kernel
theorem dX5_joined_175 : decode cX5_joined 175 = .ok (.idiv, 1) := by decide +kernel
theorem dX5_joined_176 : decode cX5_joined 176 = .ok (.ireturn, 1) := by decide +kernel
theorem dX5_joined_177 : decode cX5_joined 177 = .ok (.iload_n 2, 1) := by decide +kernel
theorem dX5_joined_178 : decode cX5_joined 178 = .ok (.ifCond .ne 7, 3) := by decide +kernel
theorem dX5_joined_181 : decode cX5_joined 181 = .ok (.iconst 0, 1) := by decide +kernel
theorem dX5_joined_182 : decode cX5_joined 182 = .ok (.goto 6, 3) := by decide +kernel
theorem dX5_joined_185 : decode cX5_joined 185 = .ok (.iload_n 1, 1) := by decide +kernel
theorem dX5_joined_186 : decode cX5_joined 186 = .ok (.iload_n 2, 1) := by decide +kernel
theorem dX5_joined_187 : decode cX5_joined 187 = .ok (.irem, 1) := by decide +kernel
theorem dX5_joined_188 : decode cX5_joined 188 = .ok (.ireturn, 1) := by decide +kernel
theorem dX5_joined_189 : decode cX5_joined 189 = .ok (.iconst 0, 1) := by decide +kernel
theorem dX5_joined_190 : decode cX5_joined 190 = .ok (.ireturn, 1) := by decide +kernel
theorem dX6_init_0 : decode cX6_init 0 = .ok (.aload_n 0, 1) := by decide +kernel
theorem dX6_init_1 : decode cX6_init 1 = .ok (.invokespecial 3, 3) := by decide +kernel
theorem dX6_init_4 : decode cX6_init 4 = .ok (.aload_n 0, 1) := by decide +kernel
theorem dX6_init_5 : decode cX6_init 5 = .ok (.bipush 9, 2) := by decide +kernel
theorem dX6_init_7 : decode cX6_init 7 = .ok (.anewarray 9, 3) := by decide +kernel
theorem dX6_init_10 : decode cX6_init 10 = .ok (.putfield 11, 3) := by decide +kernel
theorem dX6_init_13 : decode cX6_init 13 = .ok (.aload_n 0, 1) := by decide +kernel
theorem dX6_init_14 : decode cX6_init 14 = .ok (.new 17, 3) := by decide +kernel
theorem dX6_init_17 : decode cX6_init 17 = .ok (.dup, 1) := by decide +kernel
theorem dX6_init_18 : decode cX6_init 18 = .ok (.iconst 0, 1) := by decide +kernel
theorem dX6_init_19 : decode cX6_init 19 = .ok (.invokespecial 19, 3) := by decide +kernel
theorem dX6_init_22 : decode cX6_init 22 = .ok (.putfield 22, 3) := by decide +kernel
theorem dX6_init_25 : decode cX6_init 25 = .ok (.aload_n 0, 1) := by decide +kernel
theorem dX6_init_26 : decode cX6_init 26 = .ok (.new 17, 3) := by decide +kernel
theorem dX6_init_29 : decode cX6_init 29 = .ok (.dup, 1) := by decide +kernel
theorem dX6_init_30 : decode cX6_init 30 = .ok (.iconst 1, 1) := by decide +kernel
theorem dX6_init_31 : decode cX6_init 31 = .ok (.invokespecial 19, 3) := by decide +kernel
theorem dX6_init_34 : decode cX6_init 34 = .ok (.putfield 26, 3) := by decide +kernel
theorem dX6_init_37 : decode cX6_init 37 = .ok (.aload_n 0, 1) := by decide +kernel
theorem dX6_init_38 : decode cX6_init 38 = .ok (.iconst 0, 1) := by decide +kernel
theorem dX6_init_39 : decode cX6_init 39 = .ok (.putfield 29, 3) := by decide +kernel
theorem dX6_init_42 : decode cX6_init 42 = .ok (.aload_n 0, 1) := by decide +kernel
theorem dX6_init_43 : decode cX6_init 43 = .ok (.iconst 0, 1) := by decide +kernel
theorem dX6_init_44 : decode cX6_init 44 = .ok (.putfield 33, 3) := by decide +kernel
theorem dX6_init_47 : decode cX6_init 47 = .ok (.aload_n 0, 1) := by decide +kernel
theorem dX6_init_48 : decode cX6_init 48 = .ok (.iconst 0, 1) := by decide +kernel
theorem dX6_init_49 : decode cX6_init 49 = .ok (.putfield 36, 3) := by decide +kernel
theorem dX6_init_52 : decode cX6_init 52 = .ok (.aload_n 0, 1) := by decide +kernel
theorem dX6_init_53 : decode cX6_init 53 = .ok (.iconst 0, 1) := by decide +kernel
theorem dX6_init_54 : decode cX6_init 54 = .ok (.putfield 39, 3) := by decide +kernel
theorem dX6_init_57 : decode cX6_init 57 = .ok (.aload_n 0, 1) := by decide +kernel
theorem dX6_init_58 : decode cX6_init 58 = .ok (.iconst 1, 1) := by decide +kernel
theorem dX6_init_59 : decode cX6_init 59 = .ok (.putfield 42, 3) := by decide +kernel
theorem dX6_init_62 : decode cX6_init 62 = .ok (.iconst 0, 1) := by decide +kernel
theorem dX6_init_63 : decode cX6_init 63 = .ok (.istore_n 1, 1) := by decide +kernel
theorem dX6_init_64 : decode cX6_init 64 = .ok (.iload_n 1, 1) := by decide +kernel
theorem dX6_init_65 : decode cX6_init 65 = .ok (.aload_n 0, 1) := by decide +kernel
theorem dX6_init_66 : decode cX6_init 66 = .ok (.getfield 11, 3) := by decide +kernel
theorem dX6_init_69 : decode cX6_init 69 = .ok (.arraylength, 1) := by decide +kernel
theorem dX6_init_70 : decode cX6_init 70 = .ok (.if_icmp .ge 22, 3) := by decide +kernel
theorem dX6_init_73 : decode cX6_init 73 = .ok (.aload_n 0, 1) := by decide +kernel
theorem dX6_init_74 : decode cX6_init 74 = .ok (.getfield 11, 3) := by decide +kernel
theorem dX6_init_77 : decode cX6_init 77 = .ok (.iload_n 1, 1) := by decide +kernel
theorem dX6_init_78 : decode cX6_init 78 = .ok (.new 9, 3) := by decide +kernel
theorem dX6_init_81 : decode cX6_init 81 = .ok (.dup, 1) := by decide +kernel
theorem dX6_init_82 : decode cX6_init 82 = .ok (.invokespecial 45, 3) := by decide +kernel
theorem dX6_init_85 : decode cX6_init 85 = .ok (.aastore, 1) := by decide +kernel
theorem dX6_init_86 : decode cX6_init 86 = .ok (.iinc 1 1, 3) := by decide +kernel
theorem dX6_init_89 : decode cX6_init 89 = .ok (.goto (-25), 3) := by decide +kernel
theorem dX6_init_92 : decode cX6_init 92 = .ok (.return_, 1) := by decide +kernel
theorem dX6_copyFrom_0 : decode cX6_copyFrom 0 = .ok (.iconst 0, 1) := by decide +kernel
theorem dX6_copyFrom_1 : decode cX6_copyFrom 1 = .ok (.istore_n 2, 1) := by decide +kernel
theorem dX6_copyFrom_2 : decode cX6_copyFrom 2 = .ok (.iload_n 2, 1) := by decide +kernel
theorem dX6_copyFrom_3 : decode cX6_copyFrom 3 = .ok (.aload_n 0, 1) := by decide +kernel
theorem dX6_copyFrom_4 : decode cX6_copyFrom 4 = .ok (.getfield 11, 3) := by decide +kernel
theorem dX6_copyFrom_7 : decode cX6_copyFrom 7 = .ok (.arraylength, 1) := by decide +kernel
theorem dX6_copyFrom_8 : decode cX6_copyFrom 8 = .ok (.if_icmp .ge 48, 3) := by decide +kernel
theorem dX6_copyFrom_11 : decode cX6_copyFrom 11 = .ok (.iload_n 2, 1) := by decide +kernel
theorem dX6_copyFrom_12 : decode cX6_copyFrom 12 = .ok (.aload_n 1, 1) := by decide +kernel
theorem dX6_copyFrom_13 : decode cX6_copyFrom 13 = .ok (.getfield 11, 3) := by decide +kernel
theorem dX6_copyFrom_16 : decode cX6_copyFrom 16 = .ok (.arraylength, 1) := by decide +kernel
theorem dX6_copyFrom_17 : decode cX6_copyFrom 17 = .ok (.if_icmp .ge 39, 3) := by decide +kernel
theorem dX6_copyFrom_20 : decode cX6_copyFrom 20 = .ok (.aload_n 0, 1) := by decide +kernel
theorem dX6_copyFrom_21 : decode cX6_copyFrom 21 = .ok (.getfield 11, 3) := by decide +kernel
theorem dX6_copyFrom_24 : decode cX6_copyFrom 24 = .ok (.iload_n 2, 1) := by decide +kernel
theorem dX6_copyFrom_25 : decode cX6_copyFrom 25 = .ok (.aaload, 1) := by decide +kernel
theorem dX6_copyFrom_26 : decode cX6_copyFrom 26 = .ok (.astore_n 3, 1) := by decide +kernel
theorem dX6_copyFrom_27 : decode cX6_copyFrom 27 = .ok (.aload_n 1, 1) := by decide +kernel
theorem dX6_copyFrom_28 : decode cX6_copyFrom 28 = .ok (.getfield 11, 3) := by decide +kernel
theorem dX6_copyFrom_31 : decode cX6_copyFrom 31 = .ok (.iload_n 2, 1) := by decide +kernel
theorem dX6_copyFrom_32 : decode cX6_copyFrom 32 = .ok (.aaload, 1) := by decide +kernel
theorem dX6_copyFrom_33 : decode cX6_copyFrom 33 = .ok (.astore 4, 2) := by decide +kernel
theorem dX6_copyFrom_35 : decode cX6_copyFrom 35 = .ok (.aload_n 3, 1) := by decide +kernel
theorem dX6_copyFrom_36 : decode cX6_copyFrom 36 = .ok (.ifnull 14, 3) := by decide +kernel
theorem dX6_copyFrom_39 : decode cX6_copyFrom 39 = .ok (.aload 4, 2) := by decide +kernel
theorem dX6_copyFrom_41 : decode cX6_copyFrom 41 = .ok (.ifnull 9, 3) := by decide +kernel
theorem dX6_copyFrom_44 : decode cX6_copyFrom 44 = .ok (.aload_n 3, 1) := by decide +kernel
theorem dX6_copyFrom_45 : decode cX6_copyFrom 45 = .ok (.aload 4, 2) := by decide +kernel
theorem dX6_copyFrom_47 : decode cX6_copyFrom 47 = .ok (.invokevirtual 46, 3) := by decide +kernel
theorem dX6_copyFrom_50 : decode cX6_copyFrom 50 = .ok (.iinc 2 1, 3) := by decide +kernel
theorem dX6_copyFrom_53 : decode cX6_copyFrom 53 = .ok (.goto (-51), 3) := by decide +kernel
theorem dX6_copyFrom_56 : decode cX6_copyFrom 56 = .ok (.aload_n 0, 1) := by decide +kernel
theorem dX6_copyFrom_57 : decode cX6_copyFrom 57 = .ok (.getfield 22, 3) := by decide +kernel
theorem dX6_copyFrom_60 : decode cX6_copyFrom 60 = .ok (.aload_n 1, 1) := by decide +kernel
theorem dX6_copyFrom_61 : decode cX6_copyFrom 61 = .ok (.getfield 22, 3) := by decide +kernel
theorem dX6_copyFrom_64 : decode cX6_copyFrom 64 = .ok (.invokevirtual 50, 3) := by decide +kernel
theorem dX6_copyFrom_67 : decode cX6_copyFrom 67 = .ok (.aload_n 0, 1) := by decide +kernel
theorem dX6_copyFrom_68 : decode cX6_copyFrom 68 = .ok (.getfield 26, 3) := by decide +kernel
theorem dX6_copyFrom_71 : decode cX6_copyFrom 71 = .ok (.aload_n 1, 1) := by decide +kernel
theorem dX6_copyFrom_72 : decode cX6_copyFrom 72 = .ok (.getfield 26, 3) := by decide +kernel
theorem dX6_copyFrom_75 : decode cX6_copyFrom 75 = .ok (.invokevirtual 50, 3) := by decide +kernel
theorem dX6_copyFrom_78 : decode cX6_copyFrom 78 = .ok (.aload_n 0, 1) := by decide +kernel
theorem dX6_copyFrom_79 : decode cX6_copyFrom 79 = .ok (.aload_n 1, 1) := by decide +kernel
theorem dX6_copyFrom_80 : decode cX6_copyFrom 80 = .ok (.getfield 29, 3) := by decide +kernel
theorem dX6_copyFrom_83 : decode cX6_copyFrom 83 = .ok (.putfield 29, 3) := by decide +kernel
theorem dX6_copyFrom_86 : decode cX6_copyFrom 86 = .ok (.aload_n 0, 1) := by decide +kernel
theorem dX6_copyFrom_87 : decode cX6_copyFrom 87 = .ok (.aload_n 1, 1) := by decide +kernel
theorem dX6_copyFrom_88 : decode cX6_copyFrom 88 = .ok (.getfield 33, 3) := by decide +kernel
theorem dX6_copyFrom_91 : decode cX6_copyFrom 91 = .ok (.putfield 33, 3) := by decide +kernel
theorem dX6_copyFrom_94 : decode cX6_copyFrom 94 = .ok (.aload_n 0, 1) := by decide +kernel
theorem dX6_copyFrom_95 : decode cX6_copyFrom 95 = .ok (.aload_n 1, 1) := by decide +kernel
theorem dX6_copyFrom_96 : decode cX6_copyFrom 96 = .ok (.getfield 36, 3) := by decide +kernel
theorem dX6_copyFrom_99 : decode cX6_copyFrom 99 = .ok (.putfield 36, 3) := by decide +kernel
theorem dX6_copyFrom_102 : decode cX6_copyFrom 102 = .ok (.aload_n 0, 1) := by decide +kernel
theorem dX6_copyFrom_103 : decode cX6_copyFrom 103 = .ok (.aload_n 1, 1) := by decide +kernel
theorem dX6_copyFrom_104 : decode cX6_copyFrom 104 = .ok (.getfield 39, 3) := by decide +kernel
theorem dX6_copyFrom_107 : decode cX6_copyFrom 107 = .ok (.putfield 39, 3) := by decide +kernel
theorem dX6_copyFrom_110 : decode cX6_copyFrom 110 = .ok (.aload_n 0, 1) := by decide +kernel
theorem dX6_copyFrom_111 : decode cX6_copyFrom 111 = .ok (.aload_n 1, 1) := by decide +kernel
theorem dX6_copyFrom_112 : decode cX6_copyFrom 112 = .ok (.getfield 42, 3) := by decide +kernel
theorem dX6_copyFrom_115 : decode cX6_copyFrom 115 = .ok (.putfield 42, 3) := by decide +kernel
theorem dX6_copyFrom_118 : decode cX6_copyFrom 118 = .ok (.return_, 1) := by decide +kernel
theorem dX6_isFull_0 : decode cX6_isFull 0 = .ok (.aload_n 0, 1) := by decide +kernel
theorem dX6_isFull_1 : decode cX6_isFull 1 = .ok (.getfield 29, 3) := by decide +kernel
theorem dX6_isFull_4 : decode cX6_isFull 4 = .ok (.aload_n 0, 1) := by decide +kernel
theorem dX6_isFull_5 : decode cX6_isFull 5 = .ok (.getfield 11, 3) := by decide +kernel
theorem dX6_isFull_8 : decode cX6_isFull 8 = .ok (.arraylength, 1) := by decide +kernel
theorem dX6_isFull_9 : decode cX6_isFull 9 = .ok (.if_icmp .lt 7, 3) := by decide +kernel
theorem dX6_isFull_12 : decode cX6_isFull 12 = .ok (.iconst 1, 1) := by decide +kernel
theorem dX6_isFull_13 : decode cX6_isFull 13 = .ok (.goto 4, 3) := by decide +kernel
theorem dX6_isFull_16 : decode cX6_isFull 16 = .ok (.iconst 0, 1) := by decide +kernel
theorem dX6_isFull_17 : decode cX6_isFull 17 = .ok (.ireturn, 1) := by decide +kernel
theorem dX6_at_0 : decode cX6_at 0 = .ok (.iload_n 1, 1) := by decide +kernel
theorem dX6_at_1 : decode cX6_at 1 = .ok (.ifCond .lt 29, 3) := by decide +kernel
theorem dX6_at_4 : decode cX6_at 4 = .ok (.iload_n 1, 1) := by decide +kernel
theorem dX6_at_5 : decode cX6_at 5 = .ok (.aload_n 0, 1) := by decide +kernel
theorem dX6_at_6 : decode cX6_at 6 = .ok (.getfield 29, 3) := by decide +kernel
theorem dX6_at_9 : decode cX6_at 9 = .ok (.if_icmp .ge 21, 3) := by decide +kernel
theorem dX6_at_12 : decode cX6_at 12 = .ok (.iload_n 1, 1) := by decide +kernel
theorem dX6_at_13 : decode cX6_at 13 = .ok (.aload_n 0, 1) := by decide +kernel
theorem dX6_at_14 : decode cX6_at 14 = .ok (.getfield 11, 3) := by decide +kernel
theorem dX6_at_17 : decode cX6_at 17 = .ok (.arraylength, 1) := by decide +kernel
theorem dX6_at_18 : decode cX6_at 18 = .ok (.if_icmp .ge 12, 3) := by decide +kernel
theorem dX6_at_21 : decode cX6_at 21 = .ok (.aload_n 0, 1) := by decide +kernel
theorem dX6_at_22 : decode cX6_at 22 = .ok (.getfield 11, 3) := by decide +kernel
theorem dX6_at_25 : decode cX6_at 25 = .ok (.iload_n 1, 1) := by decide +kernel
theorem dX6_at_26 : decode cX6_at 26 = .ok (.aaload, 1) := by decide +kernel
theorem dX6_at_27 : decode cX6_at 27 = .ok (.goto 4, 3) := by decide +kernel
theorem dX6_at_30 : decode cX6_at 30 = .ok (.aconst_null, 1) := by decide +kernel
theorem dX6_at_31 : decode cX6_at 31 = .ok (.areturn, 1) := by decide +kernel
theorem dX6_textOf_0 : decode cX6_textOf 0 = .ok (.iload_n 1, 1) := by decide +kernel
theorem dX6_textOf_1 : decode cX6_textOf 1 = .ok (.lookupswitch 37 #[(0, 27), (1, 32)], 27) := by decide +kernel
theorem dX6_textOf_28 : decode cX6_textOf 28 = .ok (.aload_n 0, 1) := by decide +kernel
theorem dX6_textOf_29 : decode cX6_textOf 29 = .ok (.getfield 22, 3) := by decide +kernel
theorem dX6_textOf_32 : decode cX6_textOf 32 = .ok (.areturn, 1) := by decide +kernel
theorem dX6_textOf_33 : decode cX6_textOf 33 = .ok (.aload_n 0, 1) := by decide +kernel
theorem dX6_textOf_34 : decode cX6_textOf 34 = .ok (.getfield 26, 3) := by decide +kernel
theorem dX6_textOf_37 : decode cX6_textOf 37 = .ok (.areturn, 1) := by decide +kernel
theorem dX6_textOf_38 : decode cX6_textOf 38 = .ok (.aconst_null, 1) := by decide +kernel
theorem dX6_textOf_39 : decode cX6_textOf 39 = .ok (.areturn, 1) := by decide +kernel
theorem dX6_add_0 : decode cX6_add 0 = .ok (.aload_n 0, 1) := by decide +kernel
theorem dX6_add_1 : decode cX6_add 1 = .ok (.getfield 29, 3) := by decide +kernel
theorem dX6_add_4 : decode cX6_add 4 = .ok (.istore 4, 2) := by decide +kernel
theorem dX6_add_6 : decode cX6_add 6 = .ok (.aload_n 0, 1) := by decide +kernel
theorem dX6_add_7 : decode cX6_add 7 = .ok (.invokevirtual 53, 3) := by decide +kernel
theorem dX6_add_10 : decode cX6_add 10 = .ok (.ifCond .ne 13, 3) := by decide +kernel
theorem dX6_add_13 : decode cX6_add 13 = .ok (.aload_n 0, 1) := by decide +kernel
theorem dX6_add_14 : decode cX6_add 14 = .ok (.dup, 1) := by decide +kernel
theorem dX6_add_15 : decode cX6_add 15 = .ok (.getfield 29, 3) := by decide +kernel
theorem dX6_add_18 : decode cX6_add 18 = .ok (.iconst 1, 1) := by decide +kernel
theorem dX6_add_19 : decode cX6_add 19 = .ok (.iadd, 1) := by decide +kernel
theorem dX6_add_20 : decode cX6_add 20 = .ok (.putfield 29, 3) := by decide +kernel
theorem dX6_add_23 : decode cX6_add 23 = .ok (.aload_n 0, 1) := by decide +kernel
theorem dX6_add_24 : decode cX6_add 24 = .ok (.iload 4, 2) := by decide +kernel
theorem dX6_add_26 : decode cX6_add 26 = .ok (.invokevirtual 57, 3) := by decide +kernel
theorem dX6_add_29 : decode cX6_add 29 = .ok (.astore 5, 2) := by decide +kernel
theorem dX6_add_31 : decode cX6_add 31 = .ok (.aload 5, 2) := by decide +kernel
theorem dX6_add_33 : decode cX6_add 33 = .ok (.ifnull 45, 3) := by decide +kernel
theorem dX6_add_36 : decode cX6_add 36 = .ok (.aload 5, 2) := by decide +kernel
theorem dX6_add_38 : decode cX6_add 38 = .ok (.iload_n 1, 1) := by decide +kernel
theorem dX6_add_39 : decode cX6_add 39 = .ok (.bipush 10, 2) := by decide +kernel
theorem dX6_add_41 : decode cX6_add 41 = .ok (.idiv, 1) := by decide +kernel
theorem dX6_add_42 : decode cX6_add 42 = .ok (.putfield 61, 3) := by decide +kernel
theorem dX6_add_45 : decode cX6_add 45 = .ok (.aload 5, 2) := by decide +kernel
theorem dX6_add_47 : decode cX6_add 47 = .ok (.iload_n 1, 1) := by decide +kernel
theorem dX6_add_48 : decode cX6_add 48 = .ok (.bipush 10, 2) := by decide +kernel
theorem dX6_add_50 : decode cX6_add 50 = .ok (.irem, 1) := by decide +kernel
theorem dX6_add_51 : decode cX6_add 51 = .ok (.putfield 64, 3) := by decide +kernel
theorem dX6_add_54 : decode cX6_add 54 = .ok (.aload 5, 2) := by decide +kernel
theorem dX6_add_56 : decode cX6_add 56 = .ok (.iload_n 2, 1) := by decide +kernel
theorem dX6_add_57 : decode cX6_add 57 = .ok (.putfield 67, 3) := by decide +kernel
theorem dX6_add_60 : decode cX6_add 60 = .ok (.aload 5, 2) := by decide +kernel
theorem dX6_add_62 : decode cX6_add 62 = .ok (.iload_n 3, 1) := by decide +kernel
theorem dX6_add_63 : decode cX6_add 63 = .ok (.bipush 100, 2) := by decide +kernel
theorem dX6_add_65 : decode cX6_add 65 = .ok (.idiv, 1) := by decide +kernel
theorem dX6_add_66 : decode cX6_add 66 = .ok (.putfield 70, 3) := by decide +kernel
theorem dX6_add_69 : decode cX6_add 69 = .ok (.aload 5, 2) := by decide +kernel
theorem dX6_add_71 : decode cX6_add 71 = .ok (.iload_n 3, 1) := by decide +kernel
theorem dX6_add_72 : decode cX6_add 72 = .ok (.bipush 100, 2) := by decide +kernel
theorem dX6_add_74 : decode cX6_add 74 = .ok (.irem, 1) := by decide +kernel
theorem dX6_add_75 : decode cX6_add 75 = .ok (.putfield 73, 3) := by decide +kernel
theorem dX6_add_78 : decode cX6_add 78 = .ok (.iload 4, 2) := by decide +kernel
theorem dX6_add_80 : decode cX6_add 80 = .ok (.ireturn, 1) := by decide +kernel
theorem dX6_light_0 : decode cX6_light 0 = .ok (.aload_n 0, 1) := by decide +kernel
theorem dX6_light_1 : decode cX6_light 1 = .ok (.getfield 22, 3) := by decide +kernel
theorem dX6_light_4 : decode cX6_light 4 = .ok (.aload_n 1, 1) := by decide +kernel
theorem dX6_light_5 : decode cX6_light 5 = .ok (.aload_n 0, 1) := by decide +kernel
theorem dX6_light_6 : decode cX6_light 6 = .ok (.getfield 36, 3) := by decide +kernel
theorem dX6_light_9 : decode cX6_light 9 = .ok (.invokevirtual 76, 3) := by decide +kernel
theorem dX6_light_12 : decode cX6_light 12 = .ok (.aload_n 1, 1) := by decide +kernel
theorem dX6_light_13 : decode cX6_light 13 = .ok (.getfield 67, 3) := by decide +kernel
theorem dX6_light_16 : decode cX6_light 16 = .ok (.invokestatic 80, 3) := by decide +kernel
theorem dX6_light_19 : decode cX6_light 19 = .ok (.aload_n 0, 1) := by decide +kernel
theorem dX6_light_20 : decode cX6_light 20 = .ok (.getfield 36, 3) := by decide +kernel
theorem dX6_light_23 : decode cX6_light 23 = .ok (.bipush 7, 2) := by decide +kernel
theorem dX6_light_25 : decode cX6_light 25 = .ok (.irem, 1) := by decide +kernel
theorem dX6_light_26 : decode cX6_light 26 = .ok (.invokevirtual 85, 3) := by decide +kernel
theorem dX6_light_29 : decode cX6_light 29 = .ok (.ireturn, 1) := by decide +kernel
theorem dX6_gives_0 : decode cX6_gives 0 = .ok (.aload_n 0, 1) := by decide +kernel
theorem dX6_gives_1 : decode cX6_gives 1 = .ok (.aload_n 1, 1) := by decide +kernel
theorem dX6_gives_2 : decode cX6_gives 2 = .ok (.invokevirtual 89, 3) := by decide +kernel
theorem dX6_gives_5 : decode cX6_gives 5 = .ok (.aload_n 1, 1) := by decide +kernel
theorem dX6_gives_6 : decode cX6_gives 6 = .ok (.aload_n 0, 1) := by decide +kernel
theorem dX6_gives_7 : decode cX6_gives 7 = .ok (.getfield 33, 3) := by decide +kernel
theorem dX6_gives_10 : decode cX6_gives 10 = .ok (.invokevirtual 93, 3) := by decide +kernel
theorem dX6_gives_13 : decode cX6_gives 13 = .ok (.isub, 1) := by decide +kernel
theorem dX6_gives_14 : decode cX6_gives 14 = .ok (.ireturn, 1) := by decide +kernel
theorem dX6_wanted_0 : decode cX6_wanted 0 = .ok (.aload_n 0, 1) := by decide +kernel
theorem dX6_wanted_1 : decode cX6_wanted 1 = .ok (.getfield 26, 3) := by decide +kernel
theorem dX6_wanted_4 : decode cX6_wanted 4 = .ok (.aload_n 0, 1) := by decide +kernel
theorem dX6_wanted_5 : decode cX6_wanted 5 = .ok (.getfield 33, 3) := by decide +kernel
theorem dX6_wanted_8 : decode cX6_wanted 8 = .ok (.aload_n 0, 1) := by decide +kernel
theorem dX6_wanted_9 : decode cX6_wanted 9 = .ok (.getfield 36, 3) := by decide +kernel
theorem dX6_wanted_12 : decode cX6_wanted 12 = .ok (.bipush 7, 2) := by decide +kernel
theorem dX6_wanted_14 : decode cX6_wanted 14 = .ok (.irem, 1) := by decide +kernel
theorem dX6_wanted_15 : decode cX6_wanted 15 = .ok (.aload_n 0, 1) := by decide +kernel
theorem dX6_wanted_16 : decode cX6_wanted 16 = .ok (.invokevirtual 96, 3) := by decide +kernel
theorem dX6_wanted_19 : decode cX6_wanted 19 = .ok (.invokevirtual 85, 3) := by decide +kernel
theorem dX6_wanted_22 : decode cX6_wanted 22 = .ok (.ireturn, 1) := by decide +kernel
theorem dX6_keepersWithOil_0 : decode cX6_keepersWithOil 0 = .ok (.iconst 0, 1) := by decide +kernel
theorem dX6_keepersWithOil_1 : decode cX6_keepersWithOil 1 = .ok (.istore_n 1, 1) := by decide +kernel
theorem dX6_keepersWithOil_2 : decode cX6_keepersWithOil 2 = .ok (.iconst 0, 1) := by decide +kernel
theorem dX6_keepersWithOil_3 : decode cX6_keepersWithOil 3 = .ok (.istore_n 2, 1) := by decide +kernel
theorem dX6_keepersWithOil_4 : decode cX6_keepersWithOil 4 = .ok (.iload_n 2, 1) := by decide +kernel
theorem dX6_keepersWithOil_5 : decode cX6_keepersWithOil 5 = .ok (.aload_n 0, 1) := by decide +kernel
theorem dX6_keepersWithOil_6 : decode cX6_keepersWithOil 6 = .ok (.getfield 29, 3) := by decide +kernel
theorem dX6_keepersWithOil_9 : decode cX6_keepersWithOil 9 = .ok (.if_icmp .ge 33, 3) := by decide +kernel
theorem dX6_keepersWithOil_12 : decode cX6_keepersWithOil 12 = .ok (.aload_n 0, 1) := by decide +kernel
theorem dX6_keepersWithOil_13 : decode cX6_keepersWithOil 13 = .ok (.iload_n 2, 1) := by decide +kernel
theorem dX6_keepersWithOil_14 : decode cX6_keepersWithOil 14 = .ok (.invokevirtual 57, 3) := by decide +kernel
theorem dX6_keepersWithOil_17 : decode cX6_keepersWithOil 17 = .ok (.astore_n 3, 1) := by decide +kernel
theorem dX6_keepersWithOil_18 : decode cX6_keepersWithOil 18 = .ok (.aload_n 3, 1) := by decide +kernel
theorem dX6_keepersWithOil_19 : decode cX6_keepersWithOil 19 = .ok (.ifnull 17, 3) := by decide +kernel
theorem dX6_keepersWithOil_22 : decode cX6_keepersWithOil 22 = .ok (.aload_n 3, 1) := by decide +kernel
theorem dX6_keepersWithOil_23 : decode cX6_keepersWithOil 23 = .ok (.getfield 70, 3) := by decide +kernel
theorem dX6_keepersWithOil_26 : decode cX6_keepersWithOil 26 = .ok (.ifCond .le 10, 3) := by decide +kernel
theorem dX6_keepersWithOil_29 : decode cX6_keepersWithOil 29 = .ok (.iload_n 1, 1) := by decide +kernel
theorem dX6_keepersWithOil_30 : decode cX6_keepersWithOil 30 = .ok (.aload_n 3, 1) := by decide +kernel
theorem dX6_keepersWithOil_31 : decode cX6_keepersWithOil 31 = .ok (.getfield 67, 3) := by decide +kernel
theorem dX6_keepersWithOil_34 : decode cX6_keepersWithOil 34 = .ok (.ior, 1) := by decide +kernel
theorem dX6_keepersWithOil_35 : decode cX6_keepersWithOil 35 = .ok (.istore_n 1, 1) := by decide +kernel
theorem dX6_keepersWithOil_36 : decode cX6_keepersWithOil 36 = .ok (.iinc 2 1, 3) := by decide +kernel
theorem dX6_keepersWithOil_39 : decode cX6_keepersWithOil 39 = .ok (.goto (-35), 3) := by decide +kernel
theorem dX6_keepersWithOil_42 : decode cX6_keepersWithOil 42 = .ok (.iload_n 1, 1) := by decide +kernel
theorem dX6_keepersWithOil_43 : decode cX6_keepersWithOil 43 = .ok (.invokestatic 80, 3) := by decide +kernel
theorem dX6_keepersWithOil_46 : decode cX6_keepersWithOil 46 = .ok (.ireturn, 1) := by decide +kernel
theorem dX6_passNight_0 : decode cX6_passNight 0 = .ok (.aload_n 1, 1) := by decide +kernel
theorem dX6_passNight_1 : decode cX6_passNight 1 = .ok (.aload_n 0, 1) := by decide +kernel
theorem dX6_passNight_2 : decode cX6_passNight 2 = .ok (.iload_n 2, 1) := by decide +kernel
theorem dX6_passNight_3 : decode cX6_passNight 3 = .ok (.invokevirtual 100, 3) := by decide +kernel
theorem dX6_passNight_6 : decode cX6_passNight 6 = .ok (.istore_n 3, 1) := by decide +kernel
theorem dX6_passNight_7 : decode cX6_passNight 7 = .ok (.iload_n 3, 1) := by decide +kernel
theorem dX6_passNight_8 : decode cX6_passNight 8 = .ok (.ifCond .eq 14, 3) := by decide +kernel
theorem dX6_passNight_11 : decode cX6_passNight 11 = .ok (.aload_n 0, 1) := by decide +kernel
theorem dX6_passNight_12 : decode cX6_passNight 12 = .ok (.aload_n 1, 1) := by decide +kernel
theorem dX6_passNight_13 : decode cX6_passNight 13 = .ok (.invokevirtual 106, 3) := by decide +kernel
theorem dX6_passNight_16 : decode cX6_passNight 16 = .ok (.invokevirtual 109, 3) := by decide +kernel
theorem dX6_passNight_19 : decode cX6_passNight 19 = .ok (.goto 19, 3) := by decide +kernel
theorem dX6_passNight_22 : decode cX6_passNight 22 = .ok (.aload_n 0, 1) := by decide +kernel
theorem dX6_passNight_23 : decode cX6_passNight 23 = .ok (.sipush 9999, 3) := by decide +kernel
theorem dX6_passNight_26 : decode cX6_passNight 26 = .ok (.aload_n 0, 1) := by decide +kernel
theorem dX6_passNight_27 : decode cX6_passNight 27 = .ok (.getfield 39, 3) := by decide +kernel
theorem dX6_passNight_30 : decode cX6_passNight 30 = .ok (.iconst 1, 1) := by decide +kernel
theorem dX6_passNight_31 : decode cX6_passNight 31 = .ok (.iadd, 1) := by decide +kernel
theorem dX6_passNight_32 : decode cX6_passNight 32 = .ok (.invokestatic 112, 3) := by decide +kernel
theorem dX6_passNight_35 : decode cX6_passNight 35 = .ok (.putfield 39, 3) := by decide +kernel
theorem dX6_passNight_38 : decode cX6_passNight 38 = .ok (.aload_n 0, 1) := by decide +kernel
theorem dX6_passNight_39 : decode cX6_passNight 39 = .ok (.dup, 1) := by decide +kernel
theorem dX6_passNight_40 : decode cX6_passNight 40 = .ok (.getfield 36, 3) := by decide +kernel
theorem dX6_passNight_43 : decode cX6_passNight 43 = .ok (.iconst 1, 1) := by decide +kernel
theorem dX6_passNight_44 : decode cX6_passNight 44 = .ok (.iadd, 1) := by decide +kernel
theorem dX6_passNight_45 : decode cX6_passNight 45 = .ok (.putfield 36, 3) := by decide +kernel
theorem dX6_passNight_48 : decode cX6_passNight 48 = .ok (.iload_n 3, 1) := by decide +kernel
theorem dX6_passNight_49 : decode cX6_passNight 49 = .ok (.ireturn, 1) := by decide +kernel
theorem dX6_burn_0 : decode cX6_burn 0 = .ok (.iconst 0, 1) := by decide +kernel
theorem dX6_burn_1 : decode cX6_burn 1 = .ok (.istore_n 2, 1) := by decide +kernel
theorem dX6_burn_2 : decode cX6_burn 2 = .ok (.iload_n 2, 1) := by decide +kernel
theorem dX6_burn_3 : decode cX6_burn 3 = .ok (.aload_n 0, 1) := by decide +kernel
theorem dX6_burn_4 : decode cX6_burn 4 = .ok (.getfield 29, 3) := by decide +kernel
theorem dX6_burn_7 : decode cX6_burn 7 = .ok (.if_icmp .ge 37, 3) := by decide +kernel
theorem dX6_burn_10 : decode cX6_burn 10 = .ok (.aload_n 0, 1) := by decide +kernel
theorem dX6_burn_11 : decode cX6_burn 11 = .ok (.iload_n 2, 1) := by decide +kernel
theorem dX6_burn_12 : decode cX6_burn 12 = .ok (.invokevirtual 57, 3) := by decide +kernel
theorem dX6_burn_15 : decode cX6_burn 15 = .ok (.astore_n 3, 1) := by decide +kernel
theorem dX6_burn_16 : decode cX6_burn 16 = .ok (.aload_n 3, 1) := by decide +kernel
theorem dX6_burn_17 : decode cX6_burn 17 = .ok (.ifnull 21, 3) := by decide +kernel
theorem dX6_burn_20 : decode cX6_burn 20 = .ok (.iload_n 1, 1) := by decide +kernel
theorem dX6_burn_21 : decode cX6_burn 21 = .ok (.iconst 1, 1) := by decide +kernel
theorem dX6_burn_22 : decode cX6_burn 22 = .ok (.iload_n 2, 1) := by decide +kernel
theorem dX6_burn_23 : decode cX6_burn 23 = .ok (.ishl, 1) := by decide +kernel
theorem dX6_burn_24 : decode cX6_burn 24 = .ok (.iand, 1) := by decide +kernel
theorem dX6_burn_25 : decode cX6_burn 25 = .ok (.ifCond .eq 13, 3) := by decide +kernel
theorem dX6_burn_28 : decode cX6_burn 28 = .ok (.aload_n 3, 1) := by decide +kernel
theorem dX6_burn_29 : decode cX6_burn 29 = .ok (.dup, 1) := by decide +kernel
theorem dX6_burn_30 : decode cX6_burn 30 = .ok (.getfield 70, 3) := by decide +kernel
theorem dX6_burn_33 : decode cX6_burn 33 = .ok (.iconst 1, 1) := by decide +kernel
theorem dX6_burn_34 : decode cX6_burn 34 = .ok (.isub, 1) := by decide +kernel
theorem dX6_burn_35 : decode cX6_burn 35 = .ok (.putfield 70, 3) := by decide +kernel
theorem dX6_burn_38 : decode cX6_burn 38 = .ok (.iinc 2 1, 3) := by decide +kernel
theorem dX6_burn_41 : decode cX6_burn 41 = .ok (.goto (-39), 3) := by decide +kernel
theorem dX6_burn_44 : decode cX6_burn 44 = .ok (.return_, 1) := by decide +kernel
theorem dX6_drawTheDay_0 : decode cX6_drawTheDay 0 = .ok (.aload_n 0, 1) := by decide +kernel
theorem dX6_drawTheDay_1 : decode cX6_drawTheDay 1 = .ok (.aload_n 0, 1) := by decide +kernel
theorem dX6_drawTheDay_2 : decode cX6_drawTheDay 2 = .ok (.invokevirtual 118, 3) := by decide +kernel
theorem dX6_drawTheDay_5 : decode cX6_drawTheDay 5 = .ok (.bipush 10, 2) := by decide +kernel
theorem dX6_drawTheDay_7 : decode cX6_drawTheDay 7 = .ok (.irem, 1) := by decide +kernel
theorem dX6_drawTheDay_8 : decode cX6_drawTheDay 8 = .ok (.putfield 33, 3) := by decide +kernel
theorem dX6_drawTheDay_11 : decode cX6_drawTheDay 11 = .ok (.aload_n 0, 1) := by decide +kernel
theorem dX6_drawTheDay_12 : decode cX6_drawTheDay 12 = .ok (.getfield 29, 3) := by decide +kernel
theorem dX6_drawTheDay_15 : decode cX6_drawTheDay 15 = .ok (.ifCond .le 53, 3) := by decide +kernel
theorem dX6_drawTheDay_18 : decode cX6_drawTheDay 18 = .ok (.aload_n 0, 1) := by decide +kernel
theorem dX6_drawTheDay_19 : decode cX6_drawTheDay 19 = .ok (.invokevirtual 118, 3) := by decide +kernel
theorem dX6_drawTheDay_22 : decode cX6_drawTheDay 22 = .ok (.bipush 8, 2) := by decide +kernel
theorem dX6_drawTheDay_24 : decode cX6_drawTheDay 24 = .ok (.irem, 1) := by decide +kernel
theorem dX6_drawTheDay_25 : decode cX6_drawTheDay 25 = .ok (.ifCond .ne 43, 3) := by decide +kernel
theorem dX6_drawTheDay_28 : decode cX6_drawTheDay 28 = .ok (.aload_n 0, 1) := by decide +kernel
theorem dX6_drawTheDay_29 : decode cX6_drawTheDay 29 = .ok (.aload_n 0, 1) := by decide +kernel
theorem dX6_drawTheDay_30 : decode cX6_drawTheDay 30 = .ok (.invokevirtual 118, 3) := by decide +kernel
theorem dX6_drawTheDay_33 : decode cX6_drawTheDay 33 = .ok (.aload_n 0, 1) := by decide +kernel
theorem dX6_drawTheDay_34 : decode cX6_drawTheDay 34 = .ok (.getfield 29, 3) := by decide +kernel
theorem dX6_drawTheDay_37 : decode cX6_drawTheDay 37 = .ok (.irem, 1) := by decide +kernel
theorem dX6_drawTheDay_38 : decode cX6_drawTheDay 38 = .ok (.invokevirtual 57, 3) := by decide +kernel
theorem dX6_drawTheDay_41 : decode cX6_drawTheDay 41 = .ok (.astore_n 1, 1) := by decide +kernel
theorem dX6_drawTheDay_42 : decode cX6_drawTheDay 42 = .ok (.aload_n 0, 1) := by decide +kernel
theorem dX6_drawTheDay_43 : decode cX6_drawTheDay 43 = .ok (.invokevirtual 118, 3) := by decide +kernel
theorem dX6_drawTheDay_46 : decode cX6_drawTheDay 46 = .ok (.iconst 5, 1) := by decide +kernel
theorem dX6_drawTheDay_47 : decode cX6_drawTheDay 47 = .ok (.irem, 1) := by decide +kernel
theorem dX6_drawTheDay_48 : decode cX6_drawTheDay 48 = .ok (.istore_n 2, 1) := by decide +kernel
theorem dX6_drawTheDay_49 : decode cX6_drawTheDay 49 = .ok (.aload_n 1, 1) := by decide +kernel
theorem dX6_drawTheDay_50 : decode cX6_drawTheDay 50 = .ok (.ifnull 18, 3) := by decide +kernel
theorem dX6_drawTheDay_53 : decode cX6_drawTheDay 53 = .ok (.aload_n 1, 1) := by decide +kernel
theorem dX6_drawTheDay_54 : decode cX6_drawTheDay 54 = .ok (.bipush 99, 2) := by decide +kernel
theorem dX6_drawTheDay_56 : decode cX6_drawTheDay 56 = .ok (.aload_n 1, 1) := by decide +kernel
theorem dX6_drawTheDay_57 : decode cX6_drawTheDay 57 = .ok (.getfield 70, 3) := by decide +kernel
theorem dX6_drawTheDay_60 : decode cX6_drawTheDay 60 = .ok (.iload_n 2, 1) := by decide +kernel
theorem dX6_drawTheDay_61 : decode cX6_drawTheDay 61 = .ok (.iadd, 1) := by decide +kernel
theorem dX6_drawTheDay_62 : decode cX6_drawTheDay 62 = .ok (.invokestatic 112, 3) := by decide +kernel
theorem dX6_drawTheDay_65 : decode cX6_drawTheDay 65 = .ok (.putfield 70, 3) := by decide +kernel
theorem dX6_drawTheDay_68 : decode cX6_drawTheDay 68 = .ok (.return_, 1) := by decide +kernel
theorem dX6_draw_0 : decode cX6_draw 0 = .ok (.aload_n 0, 1) := by decide +kernel
theorem dX6_draw_1 : decode cX6_draw 1 = .ok (.aload_n 0, 1) := by decide +kernel
theorem dX6_draw_2 : decode cX6_draw 2 = .ok (.getfield 42, 3) := by decide +kernel
theorem dX6_draw_5 : decode cX6_draw 5 = .ok (.ldc 121, 2) := by decide +kernel
theorem dX6_draw_7 : decode cX6_draw 7 = .ok (.imul, 1) := by decide +kernel
theorem dX6_draw_8 : decode cX6_draw 8 = .ok (.sipush 12345, 3) := by decide +kernel
theorem dX6_draw_11 : decode cX6_draw 11 = .ok (.iadd, 1) := by decide +kernel
theorem dX6_draw_12 : decode cX6_draw 12 = .ok (.putfield 42, 3) := by decide +kernel
theorem dX6_draw_15 : decode cX6_draw 15 = .ok (.aload_n 0, 1) := by decide +kernel
theorem dX6_draw_16 : decode cX6_draw 16 = .ok (.getfield 42, 3) := by decide +kernel
theorem dX6_draw_19 : decode cX6_draw 19 = .ok (.bipush 8, 2) := by decide +kernel
theorem dX6_draw_21 : decode cX6_draw 21 = .ok (.iushr, 1) := by decide +kernel
theorem dX6_draw_22 : decode cX6_draw 22 = .ok (.ireturn, 1) := by decide +kernel
theorem dX7_init_0 : decode cX7_init 0 = .ok (.aload_n 0, 1) := by decide +kernel
theorem dX7_init_1 : decode cX7_init 1 = .ok (.invokespecial 3, 3) := by decide +kernel
theorem dX7_init_4 : decode cX7_init 4 = .ok (.aload_n 0, 1) := by decide +kernel
theorem dX7_init_5 : decode cX7_init 5 = .ok (.new 9, 3) := by decide +kernel
theorem dX7_init_8 : decode cX7_init 8 = .ok (.dup, 1) := by decide +kernel
theorem dX7_init_9 : decode cX7_init 9 = .ok (.bipush 30, 2) := by decide +kernel
theorem dX7_init_11 : decode cX7_init 11 = .ok (.invokespecial 11, 3) := by decide +kernel
theorem dX7_init_14 : decode cX7_init 14 = .ok (.putfield 14, 3) := by decide +kernel
theorem dX7_init_17 : decode cX7_init 17 = .ok (.aload_n 0, 1) := by decide +kernel
theorem dX7_init_18 : decode cX7_init 18 = .ok (.iconst 0, 1) := by decide +kernel
theorem dX7_init_19 : decode cX7_init 19 = .ok (.putfield 20, 3) := by decide +kernel
theorem dX7_init_22 : decode cX7_init 22 = .ok (.aload_n 0, 1) := by decide +kernel
theorem dX7_init_23 : decode cX7_init 23 = .ok (.iconst 0, 1) := by decide +kernel
theorem dX7_init_24 : decode cX7_init 24 = .ok (.putfield 24, 3) := by decide +kernel
theorem dX7_init_27 : decode cX7_init 27 = .ok (.aload_n 0, 1) := by decide +kernel
theorem dX7_init_28 : decode cX7_init 28 = .ok (.iconst 0, 1) := by decide +kernel
theorem dX7_init_29 : decode cX7_init 29 = .ok (.putfield 27, 3) := by decide +kernel
theorem dX7_init_32 : decode cX7_init 32 = .ok (.aload_n 0, 1) := by decide +kernel
theorem dX7_init_33 : decode cX7_init 33 = .ok (.iconst 0, 1) := by decide +kernel
theorem dX7_init_34 : decode cX7_init 34 = .ok (.putfield 30, 3) := by decide +kernel
theorem dX7_init_37 : decode cX7_init 37 = .ok (.return_, 1) := by decide +kernel
theorem dX7_speak_0 : decode cX7_speak 0 = .ok (.aload_n 0, 1) := by decide +kernel
theorem dX7_speak_1 : decode cX7_speak 1 = .ok (.getfield 14, 3) := by decide +kernel
theorem dX7_speak_4 : decode cX7_speak 4 = .ok (.invokevirtual 34, 3) := by decide +kernel
theorem dX7_speak_7 : decode cX7_speak 7 = .ok (.aload_n 0, 1) := by decide +kernel
theorem dX7_speak_8 : decode cX7_speak 8 = .ok (.aload_n 1, 1) := by decide +kernel
theorem dX7_speak_9 : decode cX7_speak 9 = .ok (.getfield 37, 3) := by decide +kernel
theorem dX7_speak_12 : decode cX7_speak 12 = .ok (.putfield 20, 3) := by decide +kernel
theorem dX7_speak_15 : decode cX7_speak 15 = .ok (.aload_n 0, 1) := by decide +kernel
theorem dX7_speak_16 : decode cX7_speak 16 = .ok (.aload_n 1, 1) := by decide +kernel
theorem dX7_speak_17 : decode cX7_speak 17 = .ok (.getfield 40, 3) := by decide +kernel
theorem dX7_speak_20 : decode cX7_speak 20 = .ok (.putfield 24, 3) := by decide +kernel
theorem dX7_speak_23 : decode cX7_speak 23 = .ok (.aload_n 0, 1) := by decide +kernel
theorem dX7_speak_24 : decode cX7_speak 24 = .ok (.iload_n 2, 1) := by decide +kernel
theorem dX7_speak_25 : decode cX7_speak 25 = .ok (.putfield 27, 3) := by decide +kernel
theorem dX7_speak_28 : decode cX7_speak 28 = .ok (.aload_n 0, 1) := by decide +kernel
theorem dX7_speak_29 : decode cX7_speak 29 = .ok (.iconst 0, 1) := by decide +kernel
theorem dX7_speak_30 : decode cX7_speak 30 = .ok (.putfield 30, 3) := by decide +kernel
theorem dX7_speak_33 : decode cX7_speak 33 = .ok (.iload_n 3, 1) := by decide +kernel
theorem dX7_speak_34 : decode cX7_speak 34 = .ok (.tableswitch 47 0 2 #[26, 33, 40], 26) := by decide +kernel
theorem dX7_speak_60 : decode cX7_speak 60 = .ok (.aload_n 0, 1) := by decide +kernel
theorem dX7_speak_61 : decode cX7_speak 61 = .ok (.iload 4, 2) := by decide +kernel
theorem dX7_speak_63 : decode cX7_speak 63 = .ok (.invokevirtual 43, 3) := by decide +kernel
theorem dX7_speak_66 : decode cX7_speak 66 = .ok (.ireturn, 1) := by decide +kernel
theorem dX7_speak_67 : decode cX7_speak 67 = .ok (.aload_n 0, 1) := by decide +kernel
theorem dX7_speak_68 : decode cX7_speak 68 = .ok (.iload 4, 2) := by decide +kernel
theorem dX7_speak_70 : decode cX7_speak 70 = .ok (.invokevirtual 47, 3) := by decide +kernel
theorem dX7_speak_73 : decode cX7_speak 73 = .ok (.ireturn, 1) := by decide +kernel
theorem dX7_speak_74 : decode cX7_speak 74 = .ok (.aload_n 0, 1) := by decide +kernel
theorem dX7_speak_75 : decode cX7_speak 75 = .ok (.iload 4, 2) := by decide +kernel
theorem dX7_speak_77 : decode cX7_speak 77 = .ok (.invokevirtual 50, 3) := by decide +kernel
theorem dX7_speak_80 : decode cX7_speak 80 = .ok (.ireturn, 1) := by decide +kernel
theorem dX7_speak_81 : decode cX7_speak 81 = .ok (.aload_n 0, 1) := by decide +kernel
theorem dX7_speak_82 : decode cX7_speak 82 = .ok (.iload 4, 2) := by decide +kernel
theorem dX7_speak_84 : decode cX7_speak 84 = .ok (.invokevirtual 53, 3) := by decide +kernel
theorem dX7_speak_87 : decode cX7_speak 87 = .ok (.ireturn, 1) := by decide +kernel
theorem dX7_glow_0 : decode cX7_glow 0 = .ok (.aload_n 0, 1) := by decide +kernel
theorem dX7_glow_1 : decode cX7_glow 1 = .ok (.getfield 20, 3) := by decide +kernel
theorem dX7_glow_4 : decode cX7_glow 4 = .ok (.lookupswitch 119 #[(1, 36), (4, 65), (6, 106)], 36) := by decide +kernel
theorem dX7_glow_40 : decode cX7_glow 40 = .ok (.aload_n 0, 1) := by decide +kernel
theorem dX7_glow_41 : decode cX7_glow 41 = .ok (.getfield 14, 3) := by decide +kernel
theorem dX7_glow_44 : decode cX7_glow 44 = .ok (.bipush 20, 2) := by decide +kernel
theorem dX7_glow_46 : decode cX7_glow 46 = .ok (.invokevirtual 56, 3) := by decide +kernel
theorem dX7_glow_49 : decode cX7_glow 49 = .ok (.pop, 1) := by decide +kernel
theorem dX7_glow_50 : decode cX7_glow 50 = .ok (.aload_n 0, 1) := by decide +kernel
theorem dX7_glow_51 : decode cX7_glow 51 = .ok (.getfield 14, 3) := by decide +kernel
theorem dX7_glow_54 : decode cX7_glow 54 = .ok (.bipush 10, 2) := by decide +kernel
theorem dX7_glow_56 : decode cX7_glow 56 = .ok (.invokevirtual 56, 3) := by decide +kernel
theorem dX7_glow_59 : decode cX7_glow 59 = .ok (.pop, 1) := by decide +kernel
theorem dX7_glow_60 : decode cX7_glow 60 = .ok (.iload_n 1, 1) := by decide +kernel
theorem dX7_glow_61 : decode cX7_glow 61 = .ok (.aload_n 0, 1) := by decide +kernel
theorem dX7_glow_62 : decode cX7_glow 62 = .ok (.getfield 27, 3) := by decide +kernel
theorem dX7_glow_65 : decode cX7_glow 65 = .ok (.iadd, 1) := by decide +kernel
theorem dX7_glow_66 : decode cX7_glow 66 = .ok (.iconst 4, 1) := by decide +kernel
theorem dX7_glow_67 : decode cX7_glow 67 = .ok (.isub, 1) := by decide +kernel
theorem dX7_glow_68 : decode cX7_glow 68 = .ok (.ireturn, 1) := by decide +kernel
theorem dX7_glow_69 : decode cX7_glow 69 = .ok (.aload_n 0, 1) := by decide +kernel
theorem dX7_glow_70 : decode cX7_glow 70 = .ok (.getfield 14, 3) := by decide +kernel
theorem dX7_glow_73 : decode cX7_glow 73 = .ok (.bipush 50, 2) := by decide +kernel
theorem dX7_glow_75 : decode cX7_glow 75 = .ok (.invokevirtual 56, 3) := by decide +kernel
theorem dX7_glow_78 : decode cX7_glow 78 = .ok (.pop, 1) := by decide +kernel
theorem dX7_glow_79 : decode cX7_glow 79 = .ok (.aload_n 0, 1) := by decide +kernel
theorem dX7_glow_80 : decode cX7_glow 80 = .ok (.getfield 14, 3) := by decide +kernel
theorem dX7_glow_83 : decode cX7_glow 83 = .ok (.bipush 20, 2) := by decide +kernel
theorem dX7_glow_85 : decode cX7_glow 85 = .ok (.invokevirtual 56, 3) := by decide +kernel
theorem dX7_glow_88 : decode cX7_glow 88 = .ok (.pop, 1) := by decide +kernel
theorem dX7_glow_89 : decode cX7_glow 89 = .ok (.aload_n 0, 1) := by decide +kernel
theorem dX7_glow_90 : decode cX7_glow 90 = .ok (.getfield 14, 3) := by decide +kernel
theorem dX7_glow_93 : decode cX7_glow 93 = .ok (.bipush 10, 2) := by decide +kernel
theorem dX7_glow_95 : decode cX7_glow 95 = .ok (.invokevirtual 56, 3) := by decide +kernel
theorem dX7_glow_98 : decode cX7_glow 98 = .ok (.pop, 1) := by decide +kernel
theorem dX7_glow_99 : decode cX7_glow 99 = .ok (.iload_n 1, 1) := by decide +kernel
theorem dX7_glow_100 : decode cX7_glow 100 = .ok (.aload_n 0, 1) := by decide +kernel
theorem dX7_glow_101 : decode cX7_glow 101 = .ok (.getfield 27, 3) := by decide +kernel
theorem dX7_glow_104 : decode cX7_glow 104 = .ok (.iadd, 1) := by decide +kernel
theorem dX7_glow_105 : decode cX7_glow 105 = .ok (.iconst 4, 1) := by decide +kernel
theorem dX7_glow_106 : decode cX7_glow 106 = .ok (.isub, 1) := by decide +kernel
theorem dX7_glow_107 : decode cX7_glow 107 = .ok (.iconst 3, 1) := by decide +kernel
theorem dX7_glow_108 : decode cX7_glow 108 = .ok (.imul, 1) := by decide +kernel
theorem dX7_glow_109 : decode cX7_glow 109 = .ok (.ireturn, 1) := by decide +kernel
theorem dX7_glow_110 : decode cX7_glow 110 = .ok (.aload_n 0, 1) := by decide +kernel
theorem dX7_glow_111 : decode cX7_glow 111 = .ok (.getfield 14, 3) := by decide +kernel
theorem dX7_glow_114 : decode cX7_glow 114 = .ok (.bipush 70, 2) := by decide +kernel
theorem dX7_glow_116 : decode cX7_glow 116 = .ok (.invokevirtual 56, 3) := by decide +kernel
theorem dX7_glow_119 : decode cX7_glow 119 = .ok (.pop, 1) := by decide +kernel
theorem dX7_glow_120 : decode cX7_glow 120 = .ok (.bipush 9, 2) := by decide +kernel
theorem dX7_glow_122 : decode cX7_glow 122 = .ok (.ireturn, 1) := by decide +kernel
theorem dX7_glow_123 : decode cX7_glow 123 = .ok (.aload_n 0, 1) := by decide +kernel
theorem dX7_glow_124 : decode cX7_glow 124 = .ok (.getfield 14, 3) := by decide +kernel
theorem dX7_glow_127 : decode cX7_glow 127 = .ok (.bipush 10, 2) := by decide +kernel
theorem dX7_glow_129 : decode cX7_glow 129 = .ok (.invokevirtual 56, 3) := by decide +kernel
theorem dX7_glow_132 : decode cX7_glow 132 = .ok (.pop, 1) := by decide +kernel
theorem dX7_glow_133 : decode cX7_glow 133 = .ok (.iload_n 1, 1) := by decide +kernel
theorem dX7_glow_134 : decode cX7_glow 134 = .ok (.aload_n 0, 1) := by decide +kernel
theorem dX7_glow_135 : decode cX7_glow 135 = .ok (.getfield 27, 3) := by decide +kernel
theorem dX7_glow_138 : decode cX7_glow 138 = .ok (.iadd, 1) := by decide +kernel
theorem dX7_glow_139 : decode cX7_glow 139 = .ok (.ireturn, 1) := by decide +kernel
theorem dX7_turn_0 : decode cX7_turn 0 = .ok (.aload_n 0, 1) := by decide +kernel
theorem dX7_turn_1 : decode cX7_turn 1 = .ok (.getfield 20, 3) := by decide +kernel
theorem dX7_turn_4 : decode cX7_turn 4 = .ok (.tableswitch 105 2 6 #[36, 105, 105, 54, 84], 36) := by decide +kernel
theorem dX7_turn_40 : decode cX7_turn 40 = .ok (.aload_n 0, 1) := by decide +kernel
theorem dX7_turn_41 : decode cX7_turn 41 = .ok (.getfield 14, 3) := by decide +kernel
theorem dX7_turn_44 : decode cX7_turn 44 = .ok (.bipush 30, 2) := by decide +kernel
theorem dX7_turn_46 : decode cX7_turn 46 = .ok (.invokevirtual 56, 3) := by decide +kernel
theorem dX7_turn_49 : decode cX7_turn 49 = .ok (.pop, 1) := by decide +kernel
theorem dX7_turn_50 : decode cX7_turn 50 = .ok (.iconst 0, 1) := by decide +kernel
theorem dX7_turn_51 : decode cX7_turn 51 = .ok (.aload_n 0, 1) := by decide +kernel
theorem dX7_turn_52 : decode cX7_turn 52 = .ok (.iload_n 1, 1) := by decide +kernel
theorem dX7_turn_53 : decode cX7_turn 53 = .ok (.invokevirtual 60, 3) := by decide +kernel
theorem dX7_turn_56 : decode cX7_turn 56 = .ok (.isub, 1) := by decide +kernel
theorem dX7_turn_57 : decode cX7_turn 57 = .ok (.ireturn, 1) := by decide +kernel
theorem dX7_turn_58 : decode cX7_turn 58 = .ok (.aload_n 0, 1) := by decide +kernel
theorem dX7_turn_59 : decode cX7_turn 59 = .ok (.getfield 14, 3) := by decide +kernel
theorem dX7_turn_62 : decode cX7_turn 62 = .ok (.bipush 60, 2) := by decide +kernel
theorem dX7_turn_64 : decode cX7_turn 64 = .ok (.invokevirtual 56, 3) := by decide +kernel
theorem dX7_turn_67 : decode cX7_turn 67 = .ok (.pop, 1) := by decide +kernel
theorem dX7_turn_68 : decode cX7_turn 68 = .ok (.aload_n 0, 1) := by decide +kernel
theorem dX7_turn_69 : decode cX7_turn 69 = .ok (.getfield 14, 3) := by decide +kernel
theorem dX7_turn_72 : decode cX7_turn 72 = .ok (.bipush 30, 2) := by decide +kernel
theorem dX7_turn_74 : decode cX7_turn 74 = .ok (.invokevirtual 56, 3) := by decide +kernel
theorem dX7_turn_77 : decode cX7_turn 77 = .ok (.pop, 1) := by decide +kernel
theorem dX7_turn_78 : decode cX7_turn 78 = .ok (.iconst 0, 1) := by decide +kernel
theorem dX7_turn_79 : decode cX7_turn 79 = .ok (.aload_n 0, 1) := by decide +kernel
theorem dX7_turn_80 : decode cX7_turn 80 = .ok (.iload_n 1, 1) := by decide +kernel
theorem dX7_turn_81 : decode cX7_turn 81 = .ok (.iconst 1, 1) := by decide +kernel
theorem dX7_turn_82 : decode cX7_turn 82 = .ok (.iadd, 1) := by decide +kernel
theorem dX7_turn_83 : decode cX7_turn 83 = .ok (.invokevirtual 60, 3) := by decide +kernel
theorem dX7_turn_86 : decode cX7_turn 86 = .ok (.isub, 1) := by decide +kernel
theorem dX7_turn_87 : decode cX7_turn 87 = .ok (.ireturn, 1) := by decide +kernel
theorem dX7_turn_88 : decode cX7_turn 88 = .ok (.aload_n 0, 1) := by decide +kernel
theorem dX7_turn_89 : decode cX7_turn 89 = .ok (.getfield 14, 3) := by decide +kernel
theorem dX7_turn_92 : decode cX7_turn 92 = .ok (.bipush 71, 2) := by decide +kernel
theorem dX7_turn_94 : decode cX7_turn 94 = .ok (.invokevirtual 56, 3) := by decide +kernel
theorem dX7_turn_97 : decode cX7_turn 97 = .ok (.pop, 1) := by decide +kernel
theorem dX7_turn_98 : decode cX7_turn 98 = .ok (.aload_n 0, 1) := by decide +kernel
theorem dX7_turn_99 : decode cX7_turn 99 = .ok (.iload_n 1, 1) := by decide +kernel
theorem dX7_turn_100 : decode cX7_turn 100 = .ok (.invokevirtual 60, 3) := by decide +kernel
theorem dX7_turn_103 : decode cX7_turn 103 = .ok (.aload_n 0, 1) := by decide +kernel
theorem dX7_turn_104 : decode cX7_turn 104 = .ok (.getfield 24, 3) := by decide +kernel
theorem dX7_turn_107 : decode cX7_turn 107 = .ok (.iadd, 1) := by decide +kernel
theorem dX7_turn_108 : decode cX7_turn 108 = .ok (.ireturn, 1) := by decide +kernel
theorem dX7_turn_109 : decode cX7_turn 109 = .ok (.aload_n 0, 1) := by decide +kernel
theorem dX7_turn_110 : decode cX7_turn 110 = .ok (.iload_n 1, 1) := by decide +kernel
theorem dX7_turn_111 : decode cX7_turn 111 = .ok (.invokevirtual 60, 3) := by decide +kernel
theorem dX7_turn_114 : decode cX7_turn 114 = .ok (.ireturn, 1) := by decide +kernel
theorem dX7_turnAsEvening_0 : decode cX7_turnAsEvening 0 = .ok (.aload_n 0, 1) := by decide +kernel
theorem dX7_turnAsEvening_1 : decode cX7_turnAsEvening 1 = .ok (.getfield 14, 3) := by decide +kernel
theorem dX7_turnAsEvening_4 : decode cX7_turnAsEvening 4 = .ok (.bipush 11, 2) := by decide +kernel
theorem dX7_turnAsEvening_6 : decode cX7_turnAsEvening 6 = .ok (.invokevirtual 56, 3) := by decide +kernel
theorem dX7_turnAsEvening_9 : decode cX7_turnAsEvening 9 = .ok (.pop, 1) := by decide +kernel
theorem dX7_turnAsEvening_10 : decode cX7_turnAsEvening 10 = .ok (.aload_n 0, 1) := by decide +kernel
theorem dX7_turnAsEvening_11 : decode cX7_turnAsEvening 11 = .ok (.iload_n 1, 1) := by decide +kernel
theorem dX7_turnAsEvening_12 : decode cX7_turnAsEvening 12 = .ok (.invokevirtual 43, 3) := by decide +kernel
theorem dX7_turnAsEvening_15 : decode cX7_turnAsEvening 15 = .ok (.iconst 2, 1) := by decide +kernel
theorem dX7_turnAsEvening_16 : decode cX7_turnAsEvening 16 = .ok (.imul, 1) := by decide +kernel
theorem dX7_turnAsEvening_17 : decode cX7_turnAsEvening 17 = .ok (.ireturn, 1) := by decide +kernel
theorem dX7_gutter_0 : decode cX7_gutter 0 = .ok (.aload_n 0, 1) := by decide +kernel
theorem dX7_gutter_1 : decode cX7_gutter 1 = .ok (.getfield 20, 3) := by decide +kernel
theorem dX7_gutter_4 : decode cX7_gutter 4 = .ok (.lookupswitch 67 #[(3, 28), (4, 46)], 28) := by decide +kernel
theorem dX7_gutter_32 : decode cX7_gutter 32 = .ok (.aload_n 0, 1) := by decide +kernel
theorem dX7_gutter_33 : decode cX7_gutter 33 = .ok (.getfield 14, 3) := by decide +kernel
theorem dX7_gutter_36 : decode cX7_gutter 36 = .ok (.bipush 40, 2) := by decide +kernel
theorem dX7_gutter_38 : decode cX7_gutter 38 = .ok (.invokevirtual 56, 3) := by decide +kernel
theorem dX7_gutter_41 : decode cX7_gutter 41 = .ok (.pop, 1) := by decide +kernel
theorem dX7_gutter_42 : decode cX7_gutter 42 = .ok (.aload_n 0, 1) := by decide +kernel
theorem dX7_gutter_43 : decode cX7_gutter 43 = .ok (.iload_n 1, 1) := by decide +kernel
theorem dX7_gutter_44 : decode cX7_gutter 44 = .ok (.iconst 2, 1) := by decide +kernel
theorem dX7_gutter_45 : decode cX7_gutter 45 = .ok (.idiv, 1) := by decide +kernel
theorem dX7_gutter_46 : decode cX7_gutter 46 = .ok (.invokevirtual 63, 3) := by decide +kernel
theorem dX7_gutter_49 : decode cX7_gutter 49 = .ok (.ireturn, 1) := by decide +kernel
theorem dX7_gutter_50 : decode cX7_gutter 50 = .ok (.aload_n 0, 1) := by decide +kernel
theorem dX7_gutter_51 : decode cX7_gutter 51 = .ok (.getfield 14, 3) := by decide +kernel
theorem dX7_gutter_54 : decode cX7_gutter 54 = .ok (.bipush 51, 2) := by decide +kernel
theorem dX7_gutter_56 : decode cX7_gutter 56 = .ok (.invokevirtual 56, 3) := by decide +kernel
theorem dX7_gutter_59 : decode cX7_gutter 59 = .ok (.pop, 1) := by decide +kernel
theorem dX7_gutter_60 : decode cX7_gutter 60 = .ok (.aload_n 0, 1) := by decide +kernel
theorem dX7_gutter_61 : decode cX7_gutter 61 = .ok (.iload_n 1, 1) := by decide +kernel
theorem dX7_gutter_62 : decode cX7_gutter 62 = .ok (.invokevirtual 63, 3) := by decide +kernel
theorem dX7_gutter_65 : decode cX7_gutter 65 = .ok (.aload_n 0, 1) := by decide +kernel
theorem dX7_gutter_66 : decode cX7_gutter 66 = .ok (.getfield 27, 3) := by decide +kernel
theorem dX7_gutter_69 : decode cX7_gutter 69 = .ok (.ixor, 1) := by decide +kernel
theorem dX7_gutter_70 : decode cX7_gutter 70 = .ok (.ireturn, 1) := by decide +kernel
theorem dX7_gutter_71 : decode cX7_gutter 71 = .ok (.aload_n 0, 1) := by decide +kernel
theorem dX7_gutter_72 : decode cX7_gutter 72 = .ok (.iload_n 1, 1) := by decide +kernel
theorem dX7_gutter_73 : decode cX7_gutter 73 = .ok (.invokevirtual 63, 3) := by decide +kernel
theorem dX7_gutter_76 : decode cX7_gutter 76 = .ok (.ireturn, 1) := by decide +kernel
theorem dX7_gutterAsEvening_0 : decode cX7_gutterAsEvening 0 = .ok (.aload_n 0, 1) := by decide +kernel
theorem dX7_gutterAsEvening_1 : decode cX7_gutterAsEvening 1 = .ok (.getfield 14, 3) := by decide +kernel
theorem dX7_gutterAsEvening_4 : decode cX7_gutterAsEvening 4 = .ok (.bipush 12, 2) := by decide +kernel
theorem dX7_gutterAsEvening_6 : decode cX7_gutterAsEvening 6 = .ok (.invokevirtual 56, 3) := by decide +kernel
theorem dX7_gutterAsEvening_9 : decode cX7_gutterAsEvening 9 = .ok (.pop, 1) := by decide +kernel
theorem dX7_gutterAsEvening_10 : decode cX7_gutterAsEvening 10 = .ok (.aload_n 0, 1) := by decide +kernel
theorem dX7_gutterAsEvening_11 : decode cX7_gutterAsEvening 11 = .ok (.iload_n 1, 1) := by decide +kernel
theorem dX7_gutterAsEvening_12 : decode cX7_gutterAsEvening 12 = .ok (.invokevirtual 47, 3) := by decide +kernel
theorem dX7_gutterAsEvening_15 : decode cX7_gutterAsEvening 15 = .ok (.aload_n 0, 1) := by decide +kernel
theorem dX7_gutterAsEvening_16 : decode cX7_gutterAsEvening 16 = .ok (.getfield 24, 3) := by decide +kernel
theorem dX7_gutterAsEvening_19 : decode cX7_gutterAsEvening 19 = .ok (.isub, 1) := by decide +kernel
theorem dX7_gutterAsEvening_20 : decode cX7_gutterAsEvening 20 = .ok (.ireturn, 1) := by decide +kernel
theorem dX7_part_0 : decode cX7_part 0 = .ok (.aload_n 0, 1) := by decide +kernel
theorem dX7_part_1 : decode cX7_part 1 = .ok (.getfield 20, 3) := by decide +kernel
theorem dX7_part_4 : decode cX7_part 4 = .ok (.iconst 1, 1) := by decide +kernel
theorem dX7_part_5 : decode cX7_part 5 = .ok (.if_icmp .eq 11, 3) := by decide +kernel
theorem dX7_part_8 : decode cX7_part 8 = .ok (.aload_n 0, 1) := by decide +kernel
theorem dX7_part_9 : decode cX7_part 9 = .ok (.getfield 20, 3) := by decide +kernel
theorem dX7_part_12 : decode cX7_part 12 = .ok (.iconst 4, 1) := by decide +kernel
theorem dX7_part_13 : decode cX7_part 13 = .ok (.if_icmp .ne 7, 3) := by decide +kernel
theorem dX7_part_16 : decode cX7_part 16 = .ok (.iconst 1, 1) := by decide +kernel
theorem dX7_part_17 : decode cX7_part 17 = .ok (.goto 4, 3) := by decide +kernel
theorem dX7_part_20 : decode cX7_part 20 = .ok (.iconst 0, 1) := by decide +kernel
theorem dX7_part_21 : decode cX7_part 21 = .ok (.istore_n 2, 1) := by decide +kernel
theorem dX7_part_22 : decode cX7_part 22 = .ok (.iload_n 2, 1) := by decide +kernel
theorem dX7_part_23 : decode cX7_part 23 = .ok (.ifCond .eq 13, 3) := by decide +kernel
theorem dX7_part_26 : decode cX7_part 26 = .ok (.aload_n 0, 1) := by decide +kernel
theorem dX7_part_27 : decode cX7_part 27 = .ok (.getfield 14, 3) := by decide +kernel
theorem dX7_part_30 : decode cX7_part 30 = .ok (.bipush 21, 2) := by decide +kernel
theorem dX7_part_32 : decode cX7_part 32 = .ok (.invokevirtual 56, 3) := by decide +kernel
theorem dX7_part_35 : decode cX7_part 35 = .ok (.pop, 1) := by decide +kernel
theorem dX7_part_36 : decode cX7_part 36 = .ok (.aload_n 0, 1) := by decide +kernel
theorem dX7_part_37 : decode cX7_part 37 = .ok (.getfield 14, 3) := by decide +kernel
theorem dX7_part_40 : decode cX7_part 40 = .ok (.bipush 13, 2) := by decide +kernel
theorem dX7_part_42 : decode cX7_part 42 = .ok (.invokevirtual 56, 3) := by decide +kernel
theorem dX7_part_45 : decode cX7_part 45 = .ok (.pop, 1) := by decide +kernel
theorem dX7_part_46 : decode cX7_part 46 = .ok (.aload_n 0, 1) := by decide +kernel
theorem dX7_part_47 : decode cX7_part 47 = .ok (.getfield 24, 3) := by decide +kernel
theorem dX7_part_50 : decode cX7_part 50 = .ok (.aload_n 0, 1) := by decide +kernel
theorem dX7_part_51 : decode cX7_part 51 = .ok (.getfield 27, 3) := by decide +kernel
theorem dX7_part_54 : decode cX7_part 54 = .ok (.isub, 1) := by decide +kernel
theorem dX7_part_55 : decode cX7_part 55 = .ok (.ifCond .ne 10, 3) := by decide +kernel
theorem dX7_part_58 : decode cX7_part 58 = .ok (.aload_n 0, 1) := by decide +kernel
theorem dX7_part_59 : decode cX7_part 59 = .ok (.iconst 1, 1) := by decide +kernel
theorem dX7_part_60 : decode cX7_part 60 = .ok (.putfield 30, 3) := by decide +kernel
theorem dX7_part_63 : decode cX7_part 63 = .ok (.iconst 0, 1) := by decide +kernel
theorem dX7_part_64 : decode cX7_part 64 = .ok (.ireturn, 1) := by decide +kernel
theorem dX7_part_65 : decode cX7_part 65 = .ok (.iload_n 1, 1) := by decide +kernel
theorem dX7_part_66 : decode cX7_part 66 = .ok (.aload_n 0, 1) := by decide +kernel
theorem dX7_part_67 : decode cX7_part 67 = .ok (.getfield 24, 3) := by decide +kernel
theorem dX7_part_70 : decode cX7_part 70 = .ok (.aload_n 0, 1) := by decide +kernel
theorem dX7_part_71 : decode cX7_part 71 = .ok (.getfield 27, 3) := by decide +kernel
theorem dX7_part_74 : decode cX7_part 74 = .ok (.isub, 1) := by decide +kernel
theorem dX7_part_75 : decode cX7_part 75 = .ok (.idiv, 1) := by decide +kernel
theorem dX7_part_76 : decode cX7_part 76 = .ok (.istore_n 3, 1) := by decide +kernel
theorem dX7_part_77 : decode cX7_part 77 = .ok (.iload_n 2, 1) := by decide +kernel
theorem dX7_part_78 : decode cX7_part 78 = .ok (.ifCond .eq 13, 3) := by decide +kernel
theorem dX7_part_81 : decode cX7_part 81 = .ok (.iload_n 3, 1) := by decide +kernel
theorem dX7_part_82 : decode cX7_part 82 = .ok (.aload_n 0, 1) := by decide +kernel
theorem dX7_part_83 : decode cX7_part 83 = .ok (.iconst 1, 1) := by decide +kernel
theorem dX7_part_84 : decode cX7_part 84 = .ok (.invokevirtual 47, 3) := by decide +kernel
theorem dX7_part_87 : decode cX7_part 87 = .ok (.iadd, 1) := by decide +kernel
theorem dX7_part_88 : decode cX7_part 88 = .ok (.goto 4, 3) := by decide +kernel
theorem dX7_part_91 : decode cX7_part 91 = .ok (.iload_n 3, 1) := by decide +kernel
theorem dX7_part_92 : decode cX7_part 92 = .ok (.ireturn, 1) := by decide +kernel
theorem dX8_init_0 : decode cX8_init 0 = .ok (.aload_n 0, 1) := by decide +kernel
theorem dX8_init_1 : decode cX8_init 1 = .ok (.invokespecial 1, 3) := by decide +kernel
theorem dX8_init_4 : decode cX8_init 4 = .ok (.aload_n 0, 1) := by decide +kernel
theorem dX8_init_5 : decode cX8_init 5 = .ok (.new 7, 3) := by decide +kernel
theorem dX8_init_8 : decode cX8_init 8 = .ok (.dup, 1) := by decide +kernel
theorem dX8_init_9 : decode cX8_init 9 = .ok (.invokespecial 9, 3) := by decide +kernel
theorem dX8_init_12 : decode cX8_init 12 = .ok (.putfield 10, 3) := by decide +kernel
theorem dX8_init_15 : decode cX8_init 15 = .ok (.aload_n 0, 1) := by decide +kernel
theorem dX8_init_16 : decode cX8_init 16 = .ok (.new 7, 3) := by decide +kernel
theorem dX8_init_19 : decode cX8_init 19 = .ok (.dup, 1) := by decide +kernel
theorem dX8_init_20 : decode cX8_init 20 = .ok (.invokespecial 9, 3) := by decide +kernel
theorem dX8_init_23 : decode cX8_init 23 = .ok (.putfield 16, 3) := by decide +kernel
theorem dX8_init_26 : decode cX8_init 26 = .ok (.aload_n 0, 1) := by decide +kernel
theorem dX8_init_27 : decode cX8_init 27 = .ok (.new 7, 3) := by decide +kernel
theorem dX8_init_30 : decode cX8_init 30 = .ok (.dup, 1) := by decide +kernel
theorem dX8_init_31 : decode cX8_init 31 = .ok (.invokespecial 9, 3) := by decide +kernel
theorem dX8_init_34 : decode cX8_init 34 = .ok (.putfield 19, 3) := by decide +kernel
theorem dX8_init_37 : decode cX8_init 37 = .ok (.aload_n 0, 1) := by decide +kernel
theorem dX8_init_38 : decode cX8_init 38 = .ok (.new 22, 3) := by decide +kernel
theorem dX8_init_41 : decode cX8_init 41 = .ok (.dup, 1) := by decide +kernel
theorem dX8_init_42 : decode cX8_init 42 = .ok (.invokespecial 24, 3) := by decide +kernel
theorem dX8_init_45 : decode cX8_init 45 = .ok (.putfield 25, 3) := by decide +kernel
theorem dX8_init_48 : decode cX8_init 48 = .ok (.aload_n 0, 1) := by decide +kernel
theorem dX8_init_49 : decode cX8_init 49 = .ok (.new 29, 3) := by decide +kernel
theorem dX8_init_52 : decode cX8_init 52 = .ok (.dup, 1) := by decide +kernel
theorem dX8_init_53 : decode cX8_init 53 = .ok (.bipush 60, 2) := by decide +kernel
theorem dX8_init_55 : decode cX8_init 55 = .ok (.invokespecial 31, 3) := by decide +kernel
theorem dX8_init_58 : decode cX8_init 58 = .ok (.putfield 34, 3) := by decide +kernel
theorem dX8_init_61 : decode cX8_init 61 = .ok (.aload_n 0, 1) := by decide +kernel
theorem dX8_init_62 : decode cX8_init 62 = .ok (.new 29, 3) := by decide +kernel
theorem dX8_init_65 : decode cX8_init 65 = .ok (.dup, 1) := by decide +kernel
theorem dX8_init_66 : decode cX8_init 66 = .ok (.bipush 60, 2) := by decide +kernel
theorem dX8_init_68 : decode cX8_init 68 = .ok (.invokespecial 31, 3) := by decide +kernel
theorem dX8_init_71 : decode cX8_init 71 = .ok (.putfield 38, 3) := by decide +kernel
theorem dX8_init_74 : decode cX8_init 74 = .ok (.aload_n 0, 1) := by decide +kernel
theorem dX8_init_75 : decode cX8_init 75 = .ok (.new 29, 3) := by decide +kernel
theorem dX8_init_78 : decode cX8_init 78 = .ok (.dup, 1) := by decide +kernel
theorem dX8_init_79 : decode cX8_init 79 = .ok (.bipush 24, 2) := by decide +kernel
theorem dX8_init_81 : decode cX8_init 81 = .ok (.invokespecial 31, 3) := by decide +kernel
theorem dX8_init_84 : decode cX8_init 84 = .ok (.putfield 41, 3) := by decide +kernel
theorem dX8_init_87 : decode cX8_init 87 = .ok (.aload_n 0, 1) := by decide +kernel
theorem dX8_init_88 : decode cX8_init 88 = .ok (.new 29, 3) := by decide +kernel
theorem dX8_init_91 : decode cX8_init 91 = .ok (.dup, 1) := by decide +kernel
theorem dX8_init_92 : decode cX8_init 92 = .ok (.bipush 24, 2) := by decide +kernel
theorem dX8_init_94 : decode cX8_init 94 = .ok (.invokespecial 31, 3) := by decide +kernel
theorem dX8_init_97 : decode cX8_init 97 = .ok (.putfield 44, 3) := by decide +kernel
theorem dX8_init_100 : decode cX8_init 100 = .ok (.aload_n 0, 1) := by decide +kernel
theorem dX8_init_101 : decode cX8_init 101 = .ok (.new 47, 3) := by decide +kernel
theorem dX8_init_104 : decode cX8_init 104 = .ok (.dup, 1) := by decide +kernel
theorem dX8_init_105 : decode cX8_init 105 = .ok (.invokespecial 49, 3) := by decide +kernel
theorem dX8_init_108 : decode cX8_init 108 = .ok (.putfield 50, 3) := by decide +kernel
theorem dX8_init_111 : decode cX8_init 111 = .ok (.aload_n 0, 1) := by decide +kernel
theorem dX8_init_112 : decode cX8_init 112 = .ok (.new 54, 3) := by decide +kernel
theorem dX8_init_115 : decode cX8_init 115 = .ok (.dup, 1) := by decide +kernel
theorem dX8_init_116 : decode cX8_init 116 = .ok (.invokespecial 56, 3) := by decide +kernel
theorem dX8_init_119 : decode cX8_init 119 = .ok (.putfield 57, 3) := by decide +kernel
theorem dX8_init_122 : decode cX8_init 122 = .ok (.aload_n 0, 1) := by decide +kernel
theorem dX8_init_123 : decode cX8_init 123 = .ok (.iconst 4, 1) := by decide +kernel
theorem dX8_init_124 : decode cX8_init 124 = .ok (.anewarray 61, 3) := by decide +kernel
theorem dX8_init_127 : decode cX8_init 127 = .ok (.putfield 63, 3) := by decide +kernel
theorem dX8_init_130 : decode cX8_init 130 = .ok (.aload_n 0, 1) := by decide +kernel
theorem dX8_init_131 : decode cX8_init 131 = .ok (.bipush 7, 2) := by decide +kernel
theorem dX8_init_133 : decode cX8_init 133 = .ok (.newarray .int, 2) := by decide +kernel
theorem dX8_init_135 : decode cX8_init 135 = .ok (.putfield 67, 3) := by decide +kernel
theorem dX8_init_138 : decode cX8_init 138 = .ok (.aload_n 0, 1) := by decide +kernel
theorem dX8_init_139 : decode cX8_init 139 = .ok (.iconst 0, 1) := by decide +kernel
theorem dX8_init_140 : decode cX8_init 140 = .ok (.putfield 71, 3) := by decide +kernel
theorem dX8_init_143 : decode cX8_init 143 = .ok (.iconst 0, 1) := by decide +kernel
theorem dX8_init_144 : decode cX8_init 144 = .ok (.istore_n 1, 1) := by decide +kernel
theorem dX8_init_145 : decode cX8_init 145 = .ok (.iload_n 1, 1) := by decide +kernel
theorem dX8_init_146 : decode cX8_init 146 = .ok (.aload_n 0, 1) := by decide +kernel
theorem dX8_init_147 : decode cX8_init 147 = .ok (.getfield 63, 3) := by decide +kernel
theorem dX8_init_150 : decode cX8_init 150 = .ok (.arraylength, 1) := by decide +kernel
theorem dX8_init_151 : decode cX8_init 151 = .ok (.if_icmp .ge 22, 3) := by decide +kernel
theorem dX8_init_154 : decode cX8_init 154 = .ok (.aload_n 0, 1) := by decide +kernel
theorem dX8_init_155 : decode cX8_init 155 = .ok (.getfield 63, 3) := by decide +kernel
theorem dX8_init_158 : decode cX8_init 158 = .ok (.iload_n 1, 1) := by decide +kernel
theorem dX8_init_159 : decode cX8_init 159 = .ok (.new 61, 3) := by decide +kernel
theorem dX8_init_162 : decode cX8_init 162 = .ok (.dup, 1) := by decide +kernel
theorem dX8_init_163 : decode cX8_init 163 = .ok (.invokespecial 75, 3) := by decide +kernel
theorem dX8_init_166 : decode cX8_init 166 = .ok (.aastore, 1) := by decide +kernel
theorem dX8_init_167 : decode cX8_init 167 = .ok (.iinc 1 1, 3) := by decide +kernel
theorem dX8_init_170 : decode cX8_init 170 = .ok (.goto (-25), 3) := by decide +kernel
theorem dX8_init_173 : decode cX8_init 173 = .ok (.return_, 1) := by decide +kernel
theorem dX8_memory_0 : decode cX8_memory 0 = .ok (.iload_n 1, 1) := by decide +kernel
theorem dX8_memory_1 : decode cX8_memory 1 = .ok (.invokestatic 76, 3) := by decide +kernel
theorem dX8_memory_4 : decode cX8_memory 4 = .ok (.ifCond .eq 24, 3) := by decide +kernel
theorem dX8_memory_7 : decode cX8_memory 7 = .ok (.iload_n 2, 1) := by decide +kernel
theorem dX8_memory_8 : decode cX8_memory 8 = .ok (.iconst 1, 1) := by decide +kernel
theorem dX8_memory_9 : decode cX8_memory 9 = .ok (.bipush 15, 2) := by decide +kernel
theorem dX8_memory_11 : decode cX8_memory 11 = .ok (.invokestatic 80, 3) := by decide +kernel
theorem dX8_memory_14 : decode cX8_memory 14 = .ok (.ifCond .eq 14, 3) := by decide +kernel
theorem dX8_memory_17 : decode cX8_memory 17 = .ok (.iload_n 3, 1) := by decide +kernel
theorem dX8_memory_18 : decode cX8_memory 18 = .ok (.iconst 0, 1) := by decide +kernel
theorem dX8_memory_19 : decode cX8_memory 19 = .ok (.sipush 9999, 3) := by decide +kernel
theorem dX8_memory_22 : decode cX8_memory 22 = .ok (.invokestatic 80, 3) := by decide +kernel
theorem dX8_memory_25 : decode cX8_memory 25 = .ok (.ifCond .ne 9, 3) := by decide +kernel
theorem dX8_memory_28 : decode cX8_memory 28 = .ok (.aload_n 0, 1) := by decide +kernel
theorem dX8_memory_29 : decode cX8_memory 29 = .ok (.iconst 1, 1) := by decide +kernel
theorem dX8_memory_30 : decode cX8_memory 30 = .ok (.invokevirtual 84, 3) := by decide +kernel
theorem dX8_memory_33 : decode cX8_memory 33 = .ok (.ireturn, 1) := by decide +kernel
theorem dX8_memory_34 : decode cX8_memory 34 = .ok (.aload_n 0, 1) := by decide +kernel
theorem dX8_memory_35 : decode cX8_memory 35 = .ok (.getfield 10, 3) := by decide +kernel
theorem dX8_memory_38 : decode cX8_memory 38 = .ok (.invokevirtual 88, 3) := by decide +kernel
theorem dX8_memory_41 : decode cX8_memory 41 = .ok (.ifCond .eq 9, 3) := by decide +kernel
theorem dX8_memory_44 : decode cX8_memory 44 = .ok (.aload_n 0, 1) := by decide +kernel
theorem dX8_memory_45 : decode cX8_memory 45 = .ok (.iconst 4, 1) := by decide +kernel
theorem dX8_memory_46 : decode cX8_memory 46 = .ok (.invokevirtual 84, 3) := by decide +kernel
theorem dX8_memory_49 : decode cX8_memory 49 = .ok (.ireturn, 1) := by decide +kernel
theorem dX8_memory_50 : decode cX8_memory 50 = .ok (.aload_n 0, 1) := by decide +kernel
theorem dX8_memory_51 : decode cX8_memory 51 = .ok (.getfield 10, 3) := by decide +kernel
theorem dX8_memory_54 : decode cX8_memory 54 = .ok (.iload_n 1, 1) := by decide +kernel
theorem dX8_memory_55 : decode cX8_memory 55 = .ok (.iload_n 2, 1) := by decide +kernel
theorem dX8_memory_56 : decode cX8_memory 56 = .ok (.iload_n 3, 1) := by decide +kernel
theorem dX8_memory_57 : decode cX8_memory 57 = .ok (.invokevirtual 92, 3) := by decide +kernel
theorem dX8_memory_60 : decode cX8_memory 60 = .ok (.ireturn, 1) := by decide +kernel
theorem dX8_memoryIs_0 : decode cX8_memoryIs 0 = .ok (.aload_n 0, 1) := by decide +kernel
theorem dX8_memoryIs_1 : decode cX8_memoryIs 1 = .ok (.getfield 10, 3) := by decide +kernel
theorem dX8_memoryIs_4 : decode cX8_memoryIs 4 = .ok (.iload_n 1, 1) := by decide +kernel
theorem dX8_memoryIs_5 : decode cX8_memoryIs 5 = .ok (.invokevirtual 96, 3) := by decide +kernel
theorem dX8_memoryIs_8 : decode cX8_memoryIs 8 = .ok (.astore_n 3, 1) := by decide +kernel
theorem dX8_memoryIs_9 : decode cX8_memoryIs 9 = .ok (.aload_n 3, 1) := by decide +kernel
theorem dX8_memoryIs_10 : decode cX8_memoryIs 10 = .ok (.ifnonnull 9, 3) := by decide +kernel
theorem dX8_memoryIs_13 : decode cX8_memoryIs 13 = .ok (.aload_n 0, 1) := by decide +kernel
theorem dX8_memoryIs_14 : decode cX8_memoryIs 14 = .ok (.iconst 1, 1) := by decide +kernel
theorem dX8_memoryIs_15 : decode cX8_memoryIs 15 = .ok (.invokevirtual 84, 3) := by decide +kernel
theorem dX8_memoryIs_18 : decode cX8_memoryIs 18 = .ok (.ireturn, 1) := by decide +kernel
theorem dX8_memoryIs_19 : decode cX8_memoryIs 19 = .ok (.iload_n 2, 1) := by decide +kernel
theorem dX8_memoryIs_20 : decode cX8_memoryIs 20 = .ok (.tableswitch 90 0 6 #[44, 49, 54, 59, 64, 69, 78], 44) := by decide +kernel
theorem dX8_memoryIs_64 : decode cX8_memoryIs 64 = .ok (.aload_n 3, 1) := by decide +kernel
theorem dX8_memoryIs_65 : decode cX8_memoryIs 65 = .ok (.getfield 100, 3) := by decide +kernel
theorem dX8_memoryIs_68 : decode cX8_memoryIs 68 = .ok (.ireturn, 1) := by decide +kernel
theorem dX8_memoryIs_69 : decode cX8_memoryIs 69 = .ok (.aload_n 3, 1) := by decide +kernel
theorem dX8_memoryIs_70 : decode cX8_memoryIs 70 = .ok (.getfield 105, 3) := by decide +kernel
theorem dX8_memoryIs_73 : decode cX8_memoryIs 73 = .ok (.ireturn, 1) := by decide +kernel
theorem dX8_memoryIs_74 : decode cX8_memoryIs 74 = .ok (.aload_n 3, 1) := by decide +kernel
theorem dX8_memoryIs_75 : decode cX8_memoryIs 75 = .ok (.getfield 108, 3) := by decide +kernel
theorem dX8_memoryIs_78 : decode cX8_memoryIs 78 = .ok (.ireturn, 1) := by decide +kernel
theorem dX8_memoryIs_79 : decode cX8_memoryIs 79 = .ok (.aload_n 3, 1) := by decide +kernel
theorem dX8_memoryIs_80 : decode cX8_memoryIs 80 = .ok (.getfield 111, 3) := by decide +kernel
theorem dX8_memoryIs_83 : decode cX8_memoryIs 83 = .ok (.ireturn, 1) := by decide +kernel
theorem dX8_memoryIs_84 : decode cX8_memoryIs 84 = .ok (.aload_n 3, 1) := by decide +kernel
theorem dX8_memoryIs_85 : decode cX8_memoryIs 85 = .ok (.getfield 114, 3) := by decide +kernel
theorem dX8_memoryIs_88 : decode cX8_memoryIs 88 = .ok (.ireturn, 1) := by decide +kernel
theorem dX8_memoryIs_89 : decode cX8_memoryIs 89 = .ok (.aload_n 0, 1) := by decide +kernel
theorem dX8_memoryIs_90 : decode cX8_memoryIs 90 = .ok (.getfield 10, 3) := by decide +kernel
theorem dX8_memoryIs_93 : decode cX8_memoryIs 93 = .ok (.aload_n 3, 1) := by decide +kernel
theorem dX8_memoryIs_94 : decode cX8_memoryIs 94 = .ok (.invokevirtual 117, 3) := by decide +kernel
theorem dX8_memoryIs_97 : decode cX8_memoryIs 97 = .ok (.ireturn, 1) := by decide +kernel
theorem dX8_memoryIs_98 : decode cX8_memoryIs 98 = .ok (.aload_n 3, 1) := by decide +kernel
theorem dX8_memoryIs_99 : decode cX8_memoryIs 99 = .ok (.aload_n 0, 1) := by decide +kernel
theorem dX8_memoryIs_100 : decode cX8_memoryIs 100 = .ok (.getfield 10, 3) := by decide +kernel
theorem dX8_memoryIs_103 : decode cX8_memoryIs 103 = .ok (.getfield 121, 3) := by decide +kernel
theorem dX8_memoryIs_106 : decode cX8_memoryIs 106 = .ok (.invokevirtual 124, 3) := by decide +kernel
theorem dX8_memoryIs_109 : decode cX8_memoryIs 109 = .ok (.ireturn, 1) := by decide +kernel
theorem dX8_memoryIs_110 : decode cX8_memoryIs 110 = .ok (.aload_n 0, 1) := by decide +kernel
theorem dX8_memoryIs_111 : decode cX8_memoryIs 111 = .ok (.iconst 1, 1) := by decide +kernel
theorem dX8_memoryIs_112 : decode cX8_memoryIs 112 = .ok (.invokevirtual 84, 3) := by decide +kernel
theorem dX8_memoryIs_115 : decode cX8_memoryIs 115 = .ok (.ireturn, 1) := by decide +kernel
theorem dX8_become_0 : decode cX8_become 0 = .ok (.aload_n 0, 1) := by decide +kernel
theorem dX8_become_1 : decode cX8_become 1 = .ok (.getfield 10, 3) := by decide +kernel
theorem dX8_become_4 : decode cX8_become 4 = .ok (.iload_n 1, 1) := by decide +kernel
theorem dX8_become_5 : decode cX8_become 5 = .ok (.invokevirtual 96, 3) := by decide +kernel
theorem dX8_become_8 : decode cX8_become 8 = .ok (.astore_n 3, 1) := by decide +kernel
theorem dX8_become_9 : decode cX8_become 9 = .ok (.aload_n 3, 1) := by decide +kernel
theorem dX8_become_10 : decode cX8_become 10 = .ok (.ifnull 10, 3) := by decide +kernel
theorem dX8_become_13 : decode cX8_become 13 = .ok (.iload_n 2, 1) := by decide +kernel
theorem dX8_become_14 : decode cX8_become 14 = .ok (.invokestatic 76, 3) := by decide +kernel
theorem dX8_become_17 : decode cX8_become 17 = .ok (.ifCond .ne 9, 3) := by decide +kernel
theorem dX8_become_20 : decode cX8_become 20 = .ok (.aload_n 0, 1) := by decide +kernel
theorem dX8_become_21 : decode cX8_become 21 = .ok (.iconst 1, 1) := by decide +kernel
theorem dX8_become_22 : decode cX8_become 22 = .ok (.invokevirtual 84, 3) := by decide +kernel
theorem dX8_become_25 : decode cX8_become 25 = .ok (.ireturn, 1) := by decide +kernel
theorem dX8_become_26 : decode cX8_become 26 = .ok (.aload_n 3, 1) := by decide +kernel
theorem dX8_become_27 : decode cX8_become 27 = .ok (.getfield 100, 3) := by decide +kernel
theorem dX8_become_30 : decode cX8_become 30 = .ok (.istore 4, 2) := by decide +kernel
theorem dX8_become_32 : decode cX8_become 32 = .ok (.aload_n 3, 1) := by decide +kernel
theorem dX8_become_33 : decode cX8_become 33 = .ok (.iload_n 2, 1) := by decide +kernel
theorem dX8_become_34 : decode cX8_become 34 = .ok (.bipush 10, 2) := by decide +kernel
theorem dX8_become_36 : decode cX8_become 36 = .ok (.idiv, 1) := by decide +kernel
theorem dX8_become_37 : decode cX8_become 37 = .ok (.putfield 100, 3) := by decide +kernel
theorem dX8_become_40 : decode cX8_become 40 = .ok (.aload_n 3, 1) := by decide +kernel
theorem dX8_become_41 : decode cX8_become 41 = .ok (.iload_n 2, 1) := by decide +kernel
theorem dX8_become_42 : decode cX8_become 42 = .ok (.bipush 10, 2) := by decide +kernel
theorem dX8_become_44 : decode cX8_become 44 = .ok (.irem, 1) := by decide +kernel
theorem dX8_become_45 : decode cX8_become 45 = .ok (.putfield 105, 3) := by decide +kernel
theorem dX8_become_48 : decode cX8_become 48 = .ok (.iload 4, 2) := by decide +kernel
theorem dX8_become_50 : decode cX8_become 50 = .ok (.ireturn, 1) := by decide +kernel
theorem dX8_as_0 : decode cX8_as 0 = .ok (.aload_n 0, 1) := by decide +kernel
theorem dX8_as_1 : decode cX8_as 1 = .ok (.getfield 10, 3) := by decide +kernel
theorem dX8_as_4 : decode cX8_as 4 = .ok (.iload_n 1, 1) := by decide +kernel
theorem dX8_as_5 : decode cX8_as 5 = .ok (.invokevirtual 96, 3) := by decide +kernel
theorem dX8_as_8 : decode cX8_as 8 = .ok (.astore_n 3, 1) := by decide +kernel
theorem dX8_as_9 : decode cX8_as 9 = .ok (.aload_n 3, 1) := by decide +kernel
theorem dX8_as_10 : decode cX8_as 10 = .ok (.ifnull 13, 3) := by decide +kernel
theorem dX8_as_13 : decode cX8_as 13 = .ok (.iload_n 2, 1) := by decide +kernel
theorem dX8_as_14 : decode cX8_as 14 = .ok (.iconst 0, 1) := by decide +kernel
theorem dX8_as_15 : decode cX8_as 15 = .ok (.bipush 6, 2) := by decide +kernel
theorem dX8_as_17 : decode cX8_as 17 = .ok (.invokestatic 80, 3) := by decide +kernel
theorem dX8_as_20 : decode cX8_as 20 = .ok (.ifCond .ne 9, 3) := by decide +kernel
theorem dX8_as_23 : decode cX8_as 23 = .ok (.aload_n 0, 1) := by decide +kernel
theorem dX8_as_24 : decode cX8_as 24 = .ok (.iconst 1, 1) := by decide +kernel
theorem dX8_as_25 : decode cX8_as 25 = .ok (.invokevirtual 84, 3) := by decide +kernel
theorem dX8_as_28 : decode cX8_as 28 = .ok (.ireturn, 1) := by decide +kernel
theorem dX8_as_29 : decode cX8_as 29 = .ok (.aload_n 3, 1) := by decide +kernel
theorem dX8_as_30 : decode cX8_as 30 = .ok (.iload_n 2, 1) := by decide +kernel
theorem dX8_as_31 : decode cX8_as 31 = .ok (.invokevirtual 127, 3) := by decide +kernel
theorem dX8_as_34 : decode cX8_as 34 = .ok (.ifCond .ne 9, 3) := by decide +kernel
theorem dX8_as_37 : decode cX8_as 37 = .ok (.aload_n 0, 1) := by decide +kernel
theorem dX8_as_38 : decode cX8_as 38 = .ok (.iconst 5, 1) := by decide +kernel
theorem dX8_as_39 : decode cX8_as 39 = .ok (.invokevirtual 84, 3) := by decide +kernel
theorem dX8_as_42 : decode cX8_as 42 = .ok (.ireturn, 1) := by decide +kernel
theorem dX8_as_43 : decode cX8_as 43 = .ok (.aload_n 3, 1) := by decide +kernel
theorem dX8_as_44 : decode cX8_as 44 = .ok (.getfield 105, 3) := by decide +kernel
theorem dX8_as_47 : decode cX8_as 47 = .ok (.ireturn, 1) := by decide +kernel
theorem dX8_fills_0 : decode cX8_fills 0 = .ok (.aload_n 0, 1) := by decide +kernel
theorem dX8_fills_1 : decode cX8_fills 1 = .ok (.getfield 10, 3) := by decide +kernel
theorem dX8_fills_4 : decode cX8_fills 4 = .ok (.iload_n 1, 1) := by decide +kernel
theorem dX8_fills_5 : decode cX8_fills 5 = .ok (.invokevirtual 96, 3) := by decide +kernel
theorem dX8_fills_8 : decode cX8_fills 8 = .ok (.astore_n 3, 1) := by decide +kernel
theorem dX8_fills_9 : decode cX8_fills 9 = .ok (.aload_n 3, 1) := by decide +kernel
theorem dX8_fills_10 : decode cX8_fills 10 = .ok (.ifnull 13, 3) := by decide +kernel
theorem dX8_fills_13 : decode cX8_fills 13 = .ok (.iload_n 2, 1) := by decide +kernel
theorem dX8_fills_14 : decode cX8_fills 14 = .ok (.iconst 0, 1) := by decide +kernel
theorem dX8_fills_15 : decode cX8_fills 15 = .ok (.bipush 99, 2) := by decide +kernel
theorem dX8_fills_17 : decode cX8_fills 17 = .ok (.invokestatic 80, 3) := by decide +kernel
theorem dX8_fills_20 : decode cX8_fills 20 = .ok (.ifCond .ne 9, 3) := by decide +kernel
theorem dX8_fills_23 : decode cX8_fills 23 = .ok (.aload_n 0, 1) := by decide +kernel
theorem dX8_fills_24 : decode cX8_fills 24 = .ok (.iconst 1, 1) := by decide +kernel
theorem dX8_fills_25 : decode cX8_fills 25 = .ok (.invokevirtual 84, 3) := by decide +kernel
theorem dX8_fills_28 : decode cX8_fills 28 = .ok (.ireturn, 1) := by decide +kernel
theorem dX8_fills_29 : decode cX8_fills 29 = .ok (.aload_n 3, 1) := by decide +kernel
theorem dX8_fills_30 : decode cX8_fills 30 = .ok (.getfield 111, 3) := by decide +kernel
theorem dX8_fills_33 : decode cX8_fills 33 = .ok (.istore 4, 2) := by decide +kernel
theorem dX8_fills_35 : decode cX8_fills 35 = .ok (.aload_n 3, 1) := by decide +kernel
theorem dX8_fills_36 : decode cX8_fills 36 = .ok (.iload_n 2, 1) := by decide +kernel
theorem dX8_fills_37 : decode cX8_fills 37 = .ok (.putfield 111, 3) := by decide +kernel
theorem dX8_fills_40 : decode cX8_fills 40 = .ok (.iload 4, 2) := by decide +kernel
theorem dX8_fills_42 : decode cX8_fills 42 = .ok (.ireturn, 1) := by decide +kernel
theorem dX8_dear_0 : decode cX8_dear 0 = .ok (.aload_n 0, 1) := by decide +kernel
theorem dX8_dear_1 : decode cX8_dear 1 = .ok (.getfield 10, 3) := by decide +kernel
theorem dX8_dear_4 : decode cX8_dear 4 = .ok (.iload_n 1, 1) := by decide +kernel
theorem dX8_dear_5 : decode cX8_dear 5 = .ok (.invokevirtual 96, 3) := by decide +kernel
theorem dX8_dear_8 : decode cX8_dear 8 = .ok (.astore_n 3, 1) := by decide +kernel
theorem dX8_dear_9 : decode cX8_dear 9 = .ok (.aload_n 3, 1) := by decide +kernel
theorem dX8_dear_10 : decode cX8_dear 10 = .ok (.ifnull 13, 3) := by decide +kernel
theorem dX8_dear_13 : decode cX8_dear 13 = .ok (.iload_n 2, 1) := by decide +kernel
theorem dX8_dear_14 : decode cX8_dear 14 = .ok (.iconst 0, 1) := by decide +kernel
theorem dX8_dear_15 : decode cX8_dear 15 = .ok (.bipush 99, 2) := by decide +kernel
theorem dX8_dear_17 : decode cX8_dear 17 = .ok (.invokestatic 80, 3) := by decide +kernel
theorem dX8_dear_20 : decode cX8_dear 20 = .ok (.ifCond .ne 9, 3) := by decide +kernel
theorem dX8_dear_23 : decode cX8_dear 23 = .ok (.aload_n 0, 1) := by decide +kernel
theorem dX8_dear_24 : decode cX8_dear 24 = .ok (.iconst 1, 1) := by decide +kernel
theorem dX8_dear_25 : decode cX8_dear 25 = .ok (.invokevirtual 84, 3) := by decide +kernel
theorem dX8_dear_28 : decode cX8_dear 28 = .ok (.ireturn, 1) := by decide +kernel
theorem dX8_dear_29 : decode cX8_dear 29 = .ok (.aload_n 3, 1) := by decide +kernel
theorem dX8_dear_30 : decode cX8_dear 30 = .ok (.getfield 114, 3) := by decide +kernel
theorem dX8_dear_33 : decode cX8_dear 33 = .ok (.istore 4, 2) := by decide +kernel
theorem dX8_dear_35 : decode cX8_dear 35 = .ok (.aload_n 3, 1) := by decide +kernel
theorem dX8_dear_36 : decode cX8_dear 36 = .ok (.iload_n 2, 1) := by decide +kernel
theorem dX8_dear_37 : decode cX8_dear 37 = .ok (.putfield 114, 3) := by decide +kernel
theorem dX8_dear_40 : decode cX8_dear 40 = .ok (.iload 4, 2) := by decide +kernel
theorem dX8_dear_42 : decode cX8_dear 42 = .ok (.ireturn, 1) := by decide +kernel
theorem dX8_trim_0 : decode cX8_trim 0 = .ok (.aload_n 0, 1) := by decide +kernel
theorem dX8_trim_1 : decode cX8_trim 1 = .ok (.getfield 10, 3) := by decide +kernel
theorem dX8_trim_4 : decode cX8_trim 4 = .ok (.iload_n 1, 1) := by decide +kernel
theorem dX8_trim_5 : decode cX8_trim 5 = .ok (.invokevirtual 96, 3) := by decide +kernel
theorem dX8_trim_8 : decode cX8_trim 8 = .ok (.astore_n 3, 1) := by decide +kernel
theorem dX8_trim_9 : decode cX8_trim 9 = .ok (.aload_n 3, 1) := by decide +kernel
theorem dX8_trim_10 : decode cX8_trim 10 = .ok (.ifnull 10, 3) := by decide +kernel
theorem dX8_trim_13 : decode cX8_trim 13 = .ok (.iload_n 2, 1) := by decide +kernel
theorem dX8_trim_14 : decode cX8_trim 14 = .ok (.invokestatic 130, 3) := by decide +kernel
theorem dX8_trim_17 : decode cX8_trim 17 = .ok (.ifCond .ne 9, 3) := by decide +kernel
theorem dX8_trim_20 : decode cX8_trim 20 = .ok (.aload_n 0, 1) := by decide +kernel
theorem dX8_trim_21 : decode cX8_trim 21 = .ok (.iconst 1, 1) := by decide +kernel
theorem dX8_trim_22 : decode cX8_trim 22 = .ok (.invokevirtual 84, 3) := by decide +kernel
theorem dX8_trim_25 : decode cX8_trim 25 = .ok (.ireturn, 1) := by decide +kernel
theorem dX8_trim_26 : decode cX8_trim 26 = .ok (.iconst 1, 1) := by decide +kernel
theorem dX8_trim_27 : decode cX8_trim 27 = .ok (.iload_n 2, 1) := by decide +kernel
theorem dX8_trim_28 : decode cX8_trim 28 = .ok (.ishl, 1) := by decide +kernel
theorem dX8_trim_29 : decode cX8_trim 29 = .ok (.istore 4, 2) := by decide +kernel
theorem dX8_trim_31 : decode cX8_trim 31 = .ok (.aload_n 3, 1) := by decide +kernel
theorem dX8_trim_32 : decode cX8_trim 32 = .ok (.getfield 108, 3) := by decide +kernel
theorem dX8_trim_35 : decode cX8_trim 35 = .ok (.iload 4, 2) := by decide +kernel
theorem dX8_trim_37 : decode cX8_trim 37 = .ok (.if_icmp .ne 9, 3) := by decide +kernel
theorem dX8_trim_40 : decode cX8_trim 40 = .ok (.aload_n 0, 1) := by decide +kernel
theorem dX8_trim_41 : decode cX8_trim 41 = .ok (.iconst 3, 1) := by decide +kernel
theorem dX8_trim_42 : decode cX8_trim 42 = .ok (.invokevirtual 84, 3) := by decide +kernel
theorem dX8_trim_45 : decode cX8_trim 45 = .ok (.ireturn, 1) := by decide +kernel
theorem dX8_trim_46 : decode cX8_trim 46 = .ok (.aload_n 3, 1) := by decide +kernel
theorem dX8_trim_47 : decode cX8_trim 47 = .ok (.getfield 108, 3) := by decide +kernel
theorem dX8_trim_50 : decode cX8_trim 50 = .ok (.iload 4, 2) := by decide +kernel
theorem dX8_trim_52 : decode cX8_trim 52 = .ok (.iand, 1) := by decide +kernel
theorem dX8_trim_53 : decode cX8_trim 53 = .ok (.ifCond .eq 7, 3) := by decide +kernel
theorem dX8_trim_56 : decode cX8_trim 56 = .ok (.iconst 1, 1) := by decide +kernel
theorem dX8_trim_57 : decode cX8_trim 57 = .ok (.goto 4, 3) := by decide +kernel
theorem dX8_trim_60 : decode cX8_trim 60 = .ok (.iconst 0, 1) := by decide +kernel
theorem dX8_trim_61 : decode cX8_trim 61 = .ok (.istore 5, 2) := by decide +kernel
theorem dX8_trim_63 : decode cX8_trim 63 = .ok (.aload_n 3, 1) := by decide +kernel
theorem dX8_trim_64 : decode cX8_trim 64 = .ok (.dup, 1) := by decide +kernel
theorem dX8_trim_65 : decode cX8_trim 65 = .ok (.getfield 108, 3) := by decide +kernel
theorem dX8_trim_68 : decode cX8_trim 68 = .ok (.iload 4, 2) := by decide +kernel
theorem dX8_trim_70 : decode cX8_trim 70 = .ok (.iconst (-1), 1) := by decide +kernel
theorem dX8_trim_71 : decode cX8_trim 71 = .ok (.ixor, 1) := by decide +kernel
theorem dX8_trim_72 : decode cX8_trim 72 = .ok (.iand, 1) := by decide +kernel
theorem dX8_trim_73 : decode cX8_trim 73 = .ok (.putfield 108, 3) := by decide +kernel
theorem dX8_trim_76 : decode cX8_trim 76 = .ok (.iload 5, 2) := by decide +kernel
theorem dX8_trim_78 : decode cX8_trim 78 = .ok (.ireturn, 1) := by decide +kernel
theorem dX8_tells_0 : decode cX8_tells 0 = .ok (.aload_n 0, 1) := by decide +kernel
theorem dX8_tells_1 : decode cX8_tells 1 = .ok (.getfield 10, 3) := by decide +kernel
theorem dX8_tells_4 : decode cX8_tells 4 = .ok (.iload_n 1, 1) := by decide +kernel
theorem dX8_tells_5 : decode cX8_tells 5 = .ok (.invokevirtual 96, 3) := by decide +kernel
theorem dX8_tells_8 : decode cX8_tells 8 = .ok (.astore_n 3, 1) := by decide +kernel
theorem dX8_tells_9 : decode cX8_tells 9 = .ok (.aload_n 3, 1) := by decide +kernel
theorem dX8_tells_10 : decode cX8_tells 10 = .ok (.ifnull 10, 3) := by decide +kernel
theorem dX8_tells_13 : decode cX8_tells 13 = .ok (.iload_n 2, 1) := by decide +kernel
theorem dX8_tells_14 : decode cX8_tells 14 = .ok (.invokestatic 130, 3) := by decide +kernel
theorem dX8_tells_17 : decode cX8_tells 17 = .ok (.ifCond .ne 9, 3) := by decide +kernel
theorem dX8_tells_20 : decode cX8_tells 20 = .ok (.aload_n 0, 1) := by decide +kernel
theorem dX8_tells_21 : decode cX8_tells 21 = .ok (.iconst 1, 1) := by decide +kernel
theorem dX8_tells_22 : decode cX8_tells 22 = .ok (.invokevirtual 84, 3) := by decide +kernel
theorem dX8_tells_25 : decode cX8_tells 25 = .ok (.ireturn, 1) := by decide +kernel
theorem dX8_tells_26 : decode cX8_tells 26 = .ok (.iconst 1, 1) := by decide +kernel
theorem dX8_tells_27 : decode cX8_tells 27 = .ok (.iload_n 2, 1) := by decide +kernel
theorem dX8_tells_28 : decode cX8_tells 28 = .ok (.ishl, 1) := by decide +kernel
theorem dX8_tells_29 : decode cX8_tells 29 = .ok (.istore 4, 2) := by decide +kernel
theorem dX8_tells_31 : decode cX8_tells 31 = .ok (.aload_n 3, 1) := by decide +kernel
theorem dX8_tells_32 : decode cX8_tells 32 = .ok (.getfield 108, 3) := by decide +kernel
theorem dX8_tells_35 : decode cX8_tells 35 = .ok (.iload 4, 2) := by decide +kernel
theorem dX8_tells_37 : decode cX8_tells 37 = .ok (.iand, 1) := by decide +kernel
theorem dX8_tells_38 : decode cX8_tells 38 = .ok (.ifCond .eq 7, 3) := by decide +kernel
theorem dX8_tells_41 : decode cX8_tells 41 = .ok (.iconst 1, 1) := by decide +kernel
theorem dX8_tells_42 : decode cX8_tells 42 = .ok (.goto 4, 3) := by decide +kernel
theorem dX8_tells_45 : decode cX8_tells 45 = .ok (.iconst 0, 1) := by decide +kernel
theorem dX8_tells_46 : decode cX8_tells 46 = .ok (.istore 5, 2) := by decide +kernel
theorem dX8_tells_48 : decode cX8_tells 48 = .ok (.aload_n 3, 1) := by decide +kernel
theorem dX8_tells_49 : decode cX8_tells 49 = .ok (.dup, 1) := by decide +kernel
theorem dX8_tells_50 : decode cX8_tells 50 = .ok (.getfield 108, 3) := by decide +kernel
theorem dX8_tells_53 : decode cX8_tells 53 = .ok (.iload 4, 2) := by decide +kernel
theorem dX8_tells_55 : decode cX8_tells 55 = .ok (.ior, 1) := by decide +kernel
theorem dX8_tells_56 : decode cX8_tells 56 = .ok (.putfield 108, 3) := by decide +kernel
theorem dX8_tells_59 : decode cX8_tells 59 = .ok (.iload 5, 2) := by decide +kernel
theorem dX8_tells_61 : decode cX8_tells 61 = .ok (.ireturn, 1) := by decide +kernel
theorem dX8_blows_0 : decode cX8_blows 0 = .ok (.iload_n 1, 1) := by decide +kernel
theorem dX8_blows_1 : decode cX8_blows 1 = .ok (.iconst 0, 1) := by decide +kernel
theorem dX8_blows_2 : decode cX8_blows 2 = .ok (.bipush 9, 2) := by decide +kernel
theorem dX8_blows_4 : decode cX8_blows 4 = .ok (.invokestatic 80, 3) := by decide +kernel
theorem dX8_blows_7 : decode cX8_blows 7 = .ok (.ifCond .ne 9, 3) := by decide +kernel
theorem dX8_blows_10 : decode cX8_blows 10 = .ok (.aload_n 0, 1) := by decide +kernel
theorem dX8_blows_11 : decode cX8_blows 11 = .ok (.iconst 1, 1) := by decide +kernel
theorem dX8_blows_12 : decode cX8_blows 12 = .ok (.invokevirtual 84, 3) := by decide +kernel
theorem dX8_blows_15 : decode cX8_blows 15 = .ok (.ireturn, 1) := by decide +kernel
theorem dX8_blows_16 : decode cX8_blows 16 = .ok (.aload_n 0, 1) := by decide +kernel
theorem dX8_blows_17 : decode cX8_blows 17 = .ok (.getfield 10, 3) := by decide +kernel
theorem dX8_blows_20 : decode cX8_blows 20 = .ok (.getfield 121, 3) := by decide +kernel
theorem dX8_blows_23 : decode cX8_blows 23 = .ok (.istore_n 2, 1) := by decide +kernel
theorem dX8_blows_24 : decode cX8_blows 24 = .ok (.aload_n 0, 1) := by decide +kernel
theorem dX8_blows_25 : decode cX8_blows 25 = .ok (.getfield 10, 3) := by decide +kernel
theorem dX8_blows_28 : decode cX8_blows 28 = .ok (.iload_n 1, 1) := by decide +kernel
theorem dX8_blows_29 : decode cX8_blows 29 = .ok (.putfield 121, 3) := by decide +kernel
theorem dX8_blows_32 : decode cX8_blows 32 = .ok (.iload_n 2, 1) := by decide +kernel
theorem dX8_blows_33 : decode cX8_blows 33 = .ok (.ireturn, 1) := by decide +kernel
theorem dX8_feed_0 : decode cX8_feed 0 = .ok (.iload_n 3, 1) := by decide +kernel
theorem dX8_feed_1 : decode cX8_feed 1 = .ok (.iconst 1, 1) := by decide +kernel
theorem dX8_feed_2 : decode cX8_feed 2 = .ok (.bipush 8, 2) := by decide +kernel
theorem dX8_feed_4 : decode cX8_feed 4 = .ok (.invokestatic 80, 3) := by decide +kernel
theorem dX8_feed_7 : decode cX8_feed 7 = .ok (.ifCond .ne 9, 3) := by decide +kernel
theorem dX8_feed_10 : decode cX8_feed 10 = .ok (.aload_n 0, 1) := by decide +kernel
theorem dX8_feed_11 : decode cX8_feed 11 = .ok (.iconst 1, 1) := by decide +kernel
theorem dX8_feed_12 : decode cX8_feed 12 = .ok (.invokevirtual 84, 3) := by decide +kernel
theorem dX8_feed_15 : decode cX8_feed 15 = .ok (.ireturn, 1) := by decide +kernel
theorem dX8_feed_16 : decode cX8_feed 16 = .ok (.aload_n 0, 1) := by decide +kernel
theorem dX8_feed_17 : decode cX8_feed 17 = .ok (.getfield 34, 3) := by decide +kernel
theorem dX8_feed_20 : decode cX8_feed 20 = .ok (.invokevirtual 133, 3) := by decide +kernel
theorem dX8_feed_23 : decode cX8_feed 23 = .ok (.iload_n 3, 1) := by decide +kernel
theorem dX8_feed_24 : decode cX8_feed 24 = .ok (.iadd, 1) := by decide +kernel
theorem dX8_feed_25 : decode cX8_feed 25 = .ok (.bipush 60, 2) := by decide +kernel
theorem dX8_feed_27 : decode cX8_feed 27 = .ok (.if_icmp .le 9, 3) := by decide +kernel
theorem dX8_feed_30 : decode cX8_feed 30 = .ok (.aload_n 0, 1) := by decide +kernel
theorem dX8_feed_31 : decode cX8_feed 31 = .ok (.iconst 4, 1) := by decide +kernel
theorem dX8_feed_32 : decode cX8_feed 32 = .ok (.invokevirtual 84, 3) := by decide +kernel
theorem dX8_feed_35 : decode cX8_feed 35 = .ok (.ireturn, 1) := by decide +kernel
theorem dX8_feed_36 : decode cX8_feed 36 = .ok (.iconst 0, 1) := by decide +kernel
theorem dX8_feed_37 : decode cX8_feed 37 = .ok (.istore 4, 2) := by decide +kernel
theorem dX8_feed_39 : decode cX8_feed 39 = .ok (.iload 4, 2) := by decide +kernel
theorem dX8_feed_41 : decode cX8_feed 41 = .ok (.iload_n 3, 1) := by decide +kernel
theorem dX8_feed_42 : decode cX8_feed 42 = .ok (.if_icmp .ge 29, 3) := by decide +kernel
theorem dX8_feed_45 : decode cX8_feed 45 = .ok (.aload_n 0, 1) := by decide +kernel
theorem dX8_feed_46 : decode cX8_feed 46 = .ok (.getfield 34, 3) := by decide +kernel
theorem dX8_feed_49 : decode cX8_feed 49 = .ok (.lload_n 1, 1) := by decide +kernel
theorem dX8_feed_50 : decode cX8_feed 50 = .ok (.bipush 8, 2) := by decide +kernel
theorem dX8_feed_52 : decode cX8_feed 52 = .ok (.iload 4, 2) := by decide +kernel
theorem dX8_feed_54 : decode cX8_feed 54 = .ok (.imul, 1) := by decide +kernel
theorem dX8_feed_55 : decode cX8_feed 55 = .ok (.lushr, 1) := by decide +kernel
theorem dX8_feed_56 : decode cX8_feed 56 = .ok (.l2i, 1) := by decide +kernel
theorem dX8_feed_57 : decode cX8_feed 57 = .ok (.sipush 255, 3) := by decide +kernel
theorem dX8_feed_60 : decode cX8_feed 60 = .ok (.iand, 1) := by decide +kernel
theorem dX8_feed_61 : decode cX8_feed 61 = .ok (.invokevirtual 137, 3) := by decide +kernel
theorem dX8_feed_64 : decode cX8_feed 64 = .ok (.pop, 1) := by decide +kernel
theorem dX8_feed_65 : decode cX8_feed 65 = .ok (.iinc 4 1, 3) := by decide +kernel
theorem dX8_feed_68 : decode cX8_feed 68 = .ok (.goto (-29), 3) := by decide +kernel
theorem dX8_feed_71 : decode cX8_feed 71 = .ok (.aload_n 0, 1) := by decide +kernel
theorem dX8_feed_72 : decode cX8_feed 72 = .ok (.getfield 34, 3) := by decide +kernel
theorem dX8_feed_75 : decode cX8_feed 75 = .ok (.invokevirtual 133, 3) := by decide +kernel
theorem dX8_feed_78 : decode cX8_feed 78 = .ok (.ireturn, 1) := by decide +kernel
theorem dX8_text_0 : decode cX8_text 0 = .ok (.aload_n 0, 1) := by decide +kernel
theorem dX8_text_1 : decode cX8_text 1 = .ok (.getfield 10, 3) := by decide +kernel
theorem dX8_text_4 : decode cX8_text 4 = .ok (.iload_n 1, 1) := by decide +kernel
theorem dX8_text_5 : decode cX8_text 5 = .ok (.invokevirtual 139, 3) := by decide +kernel
theorem dX8_text_8 : decode cX8_text 8 = .ok (.astore_n 2, 1) := by decide +kernel
theorem dX8_text_9 : decode cX8_text 9 = .ok (.aload_n 2, 1) := by decide +kernel
theorem dX8_text_10 : decode cX8_text 10 = .ok (.ifnonnull 9, 3) := by decide +kernel
theorem dX8_text_13 : decode cX8_text 13 = .ok (.aload_n 0, 1) := by decide +kernel
theorem dX8_text_14 : decode cX8_text 14 = .ok (.iconst 1, 1) := by decide +kernel
theorem dX8_text_15 : decode cX8_text 15 = .ok (.invokevirtual 84, 3) := by decide +kernel
theorem dX8_text_18 : decode cX8_text 18 = .ok (.ireturn, 1) := by decide +kernel
theorem dX8_text_19 : decode cX8_text 19 = .ok (.aload_n 0, 1) := by decide +kernel
theorem dX8_text_20 : decode cX8_text 20 = .ok (.getfield 50, 3) := by decide +kernel
theorem dX8_text_23 : decode cX8_text 23 = .ok (.aload_n 0, 1) := by decide +kernel
theorem dX8_text_24 : decode cX8_text 24 = .ok (.getfield 34, 3) := by decide +kernel
theorem dX8_text_27 : decode cX8_text 27 = .ok (.iload_n 1, 1) := by decide +kernel
theorem dX8_text_28 : decode cX8_text 28 = .ok (.invokevirtual 143, 3) := by decide +kernel
theorem dX8_text_31 : decode cX8_text 31 = .ok (.istore_n 3, 1) := by decide +kernel
theorem dX8_text_32 : decode cX8_text 32 = .ok (.aload_n 0, 1) := by decide +kernel
theorem dX8_text_33 : decode cX8_text 33 = .ok (.getfield 34, 3) := by decide +kernel
theorem dX8_text_36 : decode cX8_text 36 = .ok (.invokevirtual 147, 3) := by decide +kernel
theorem dX8_text_39 : decode cX8_text 39 = .ok (.iload_n 3, 1) := by decide +kernel
theorem dX8_text_40 : decode cX8_text 40 = .ok (.iconst (-1), 1) := by decide +kernel
theorem dX8_text_41 : decode cX8_text 41 = .ok (.if_icmp .eq 8, 3) := by decide +kernel
theorem dX8_text_44 : decode cX8_text 44 = .ok (.bipush (-10), 2) := by decide +kernel
theorem dX8_text_46 : decode cX8_text 46 = .ok (.iload_n 3, 1) := by decide +kernel
theorem dX8_text_47 : decode cX8_text 47 = .ok (.isub, 1) := by decide +kernel
theorem dX8_text_48 : decode cX8_text 48 = .ok (.ireturn, 1) := by decide +kernel
theorem dX8_text_49 : decode cX8_text 49 = .ok (.aload_n 2, 1) := by decide +kernel
theorem dX8_text_50 : decode cX8_text 50 = .ok (.aload_n 0, 1) := by decide +kernel
theorem dX8_text_51 : decode cX8_text 51 = .ok (.getfield 50, 3) := by decide +kernel
theorem dX8_text_54 : decode cX8_text 54 = .ok (.getfield 150, 3) := by decide +kernel
theorem dX8_text_57 : decode cX8_text 57 = .ok (.invokevirtual 154, 3) := by decide +kernel
theorem dX8_text_60 : decode cX8_text 60 = .ok (.iconst 1, 1) := by decide +kernel
theorem dX8_text_61 : decode cX8_text 61 = .ok (.ireturn, 1) := by decide +kernel
theorem dX8_untell_0 : decode cX8_untell 0 = .ok (.aload_n 0, 1) := by decide +kernel
theorem dX8_untell_1 : decode cX8_untell 1 = .ok (.getfield 10, 3) := by decide +kernel
theorem dX8_untell_4 : decode cX8_untell 4 = .ok (.iload_n 1, 1) := by decide +kernel
theorem dX8_untell_5 : decode cX8_untell 5 = .ok (.invokevirtual 139, 3) := by decide +kernel
theorem dX8_untell_8 : decode cX8_untell 8 = .ok (.astore_n 2, 1) := by decide +kernel
theorem dX8_untell_9 : decode cX8_untell 9 = .ok (.aload_n 2, 1) := by decide +kernel
theorem dX8_untell_10 : decode cX8_untell 10 = .ok (.ifnonnull 9, 3) := by decide +kernel
theorem dX8_untell_13 : decode cX8_untell 13 = .ok (.aload_n 0, 1) := by decide +kernel
theorem dX8_untell_14 : decode cX8_untell 14 = .ok (.iconst 1, 1) := by decide +kernel
theorem dX8_untell_15 : decode cX8_untell 15 = .ok (.invokevirtual 84, 3) := by decide +kernel
theorem dX8_untell_18 : decode cX8_untell 18 = .ok (.ireturn, 1) := by decide +kernel
theorem dX8_untell_19 : decode cX8_untell 19 = .ok (.aload_n 2, 1) := by decide +kernel
theorem dX8_untell_20 : decode cX8_untell 20 = .ok (.getfield 160, 3) := by decide +kernel
theorem dX8_untell_23 : decode cX8_untell 23 = .ok (.invokevirtual 133, 3) := by decide +kernel
theorem dX8_untell_26 : decode cX8_untell 26 = .ok (.ifCond .le 7, 3) := by decide +kernel
theorem dX8_untell_29 : decode cX8_untell 29 = .ok (.iconst 1, 1) := by decide +kernel
theorem dX8_untell_30 : decode cX8_untell 30 = .ok (.goto 4, 3) := by decide +kernel
theorem dX8_untell_33 : decode cX8_untell 33 = .ok (.iconst 0, 1) := by decide +kernel
theorem dX8_untell_34 : decode cX8_untell 34 = .ok (.istore_n 3, 1) := by decide +kernel
theorem dX8_untell_35 : decode cX8_untell 35 = .ok (.aload_n 2, 1) := by decide +kernel
theorem dX8_untell_36 : decode cX8_untell 36 = .ok (.invokevirtual 163, 3) := by decide +kernel
theorem dX8_untell_39 : decode cX8_untell 39 = .ok (.iload_n 3, 1) := by decide +kernel
theorem dX8_untell_40 : decode cX8_untell 40 = .ok (.ireturn, 1) := by decide +kernel
theorem dX8_law_0 : decode cX8_law 0 = .ok (.aload_n 0, 1) := by decide +kernel
theorem dX8_law_1 : decode cX8_law 1 = .ok (.getfield 10, 3) := by decide +kernel
theorem dX8_law_4 : decode cX8_law 4 = .ok (.iload_n 1, 1) := by decide +kernel
theorem dX8_law_5 : decode cX8_law 5 = .ok (.invokevirtual 139, 3) := by decide +kernel
theorem dX8_law_8 : decode cX8_law 8 = .ok (.astore 5, 2) := by decide +kernel
theorem dX8_law_10 : decode cX8_law 10 = .ok (.aload 5, 2) := by decide +kernel
theorem dX8_law_12 : decode cX8_law 12 = .ok (.ifnonnull 9, 3) := by decide +kernel
theorem dX8_law_15 : decode cX8_law 15 = .ok (.aload_n 0, 1) := by decide +kernel
theorem dX8_law_16 : decode cX8_law 16 = .ok (.iconst 1, 1) := by decide +kernel
theorem dX8_law_17 : decode cX8_law 17 = .ok (.invokevirtual 84, 3) := by decide +kernel
theorem dX8_law_20 : decode cX8_law 20 = .ok (.ireturn, 1) := by decide +kernel
theorem dX8_law_21 : decode cX8_law 21 = .ok (.aload 5, 2) := by decide +kernel
theorem dX8_law_23 : decode cX8_law 23 = .ok (.iload_n 2, 1) := by decide +kernel
theorem dX8_law_24 : decode cX8_law 24 = .ok (.iload_n 3, 1) := by decide +kernel
theorem dX8_law_25 : decode cX8_law 25 = .ok (.iload 4, 2) := by decide +kernel
theorem dX8_law_27 : decode cX8_law 27 = .ok (.invokevirtual 164, 3) := by decide +kernel
theorem dX8_law_30 : decode cX8_law 30 = .ok (.ireturn, 1) := by decide +kernel
theorem dX8_nights_0 : decode cX8_nights 0 = .ok (.iload_n 1, 1) := by decide +kernel
theorem dX8_nights_1 : decode cX8_nights 1 = .ok (.iconst 1, 1) := by decide +kernel
theorem dX8_nights_2 : decode cX8_nights 2 = .ok (.bipush 60, 2) := by decide +kernel
theorem dX8_nights_4 : decode cX8_nights 4 = .ok (.invokestatic 80, 3) := by decide +kernel
theorem dX8_nights_7 : decode cX8_nights 7 = .ok (.ifCond .ne 9, 3) := by decide +kernel
theorem dX8_nights_10 : decode cX8_nights 10 = .ok (.aload_n 0, 1) := by decide +kernel
theorem dX8_nights_11 : decode cX8_nights 11 = .ok (.iconst 1, 1) := by decide +kernel
theorem dX8_nights_12 : decode cX8_nights 12 = .ok (.invokevirtual 84, 3) := by decide +kernel
theorem dX8_nights_15 : decode cX8_nights 15 = .ok (.ireturn, 1) := by decide +kernel
theorem dX8_nights_16 : decode cX8_nights 16 = .ok (.aload_n 0, 1) := by decide +kernel
theorem dX8_nights_17 : decode cX8_nights 17 = .ok (.getfield 10, 3) := by decide +kernel
theorem dX8_nights_20 : decode cX8_nights 20 = .ok (.getfield 167, 3) := by decide +kernel
theorem dX8_nights_23 : decode cX8_nights 23 = .ok (.iload_n 1, 1) := by decide +kernel
theorem dX8_nights_24 : decode cX8_nights 24 = .ok (.iadd, 1) := by decide +kernel
theorem dX8_nights_25 : decode cX8_nights 25 = .ok (.sipush 9999, 3) := by decide +kernel
theorem dX8_nights_28 : decode cX8_nights 28 = .ok (.if_icmp .le 9, 3) := by decide +kernel
theorem dX8_nights_31 : decode cX8_nights 31 = .ok (.aload_n 0, 1) := by decide +kernel
theorem dX8_nights_32 : decode cX8_nights 32 = .ok (.iconst 3, 1) := by decide +kernel
theorem dX8_nights_33 : decode cX8_nights 33 = .ok (.invokevirtual 84, 3) := by decide +kernel
theorem dX8_nights_36 : decode cX8_nights 36 = .ok (.ireturn, 1) := by decide +kernel
theorem dX8_nights_37 : decode cX8_nights 37 = .ok (.iconst 0, 1) := by decide +kernel
theorem dX8_nights_38 : decode cX8_nights 38 = .ok (.istore_n 2, 1) := by decide +kernel
theorem dX8_nights_39 : decode cX8_nights 39 = .ok (.iconst 0, 1) := by decide +kernel
theorem dX8_nights_40 : decode cX8_nights 40 = .ok (.istore_n 3, 1) := by decide +kernel
theorem dX8_nights_41 : decode cX8_nights 41 = .ok (.iload_n 3, 1) := by decide +kernel
theorem dX8_nights_42 : decode cX8_nights 42 = .ok (.iload_n 1, 1) := by decide +kernel
theorem dX8_nights_43 : decode cX8_nights 43 = .ok (.if_icmp .ge 27, 3) := by decide +kernel
theorem dX8_nights_46 : decode cX8_nights 46 = .ok (.aload_n 0, 1) := by decide +kernel
theorem dX8_nights_47 : decode cX8_nights 47 = .ok (.getfield 10, 3) := by decide +kernel
theorem dX8_nights_50 : decode cX8_nights 50 = .ok (.aload_n 0, 1) := by decide +kernel
theorem dX8_nights_51 : decode cX8_nights 51 = .ok (.getfield 25, 3) := by decide +kernel
theorem dX8_nights_54 : decode cX8_nights 54 = .ok (.iconst (-1), 1) := by decide +kernel
theorem dX8_nights_55 : decode cX8_nights 55 = .ok (.invokevirtual 170, 3) := by decide +kernel
theorem dX8_nights_58 : decode cX8_nights 58 = .ok (.ifCond .eq 6, 3) := by decide +kernel
theorem dX8_nights_61 : decode cX8_nights 61 = .ok (.iinc 2 1, 3) := by decide +kernel
theorem dX8_nights_64 : decode cX8_nights 64 = .ok (.iinc 3 1, 3) := by decide +kernel
theorem dX8_nights_67 : decode cX8_nights 67 = .ok (.goto (-26), 3) := by decide +kernel
theorem dX8_nights_70 : decode cX8_nights 70 = .ok (.iload_n 2, 1) := by decide +kernel
theorem dX8_nights_71 : decode cX8_nights 71 = .ok (.ireturn, 1) := by decide +kernel
theorem dX8_loose_0 : decode cX8_loose 0 = .ok (.iload_n 1, 1) := by decide +kernel
theorem dX8_loose_1 : decode cX8_loose 1 = .ok (.iconst 1, 1) := by decide +kernel
theorem dX8_loose_2 : decode cX8_loose 2 = .ok (.bipush 30, 2) := by decide +kernel
theorem dX8_loose_4 : decode cX8_loose 4 = .ok (.invokestatic 80, 3) := by decide +kernel
theorem dX8_loose_7 : decode cX8_loose 7 = .ok (.ifCond .ne 9, 3) := by decide +kernel
theorem dX8_loose_10 : decode cX8_loose 10 = .ok (.aload_n 0, 1) := by decide +kernel
theorem dX8_loose_11 : decode cX8_loose 11 = .ok (.iconst 1, 1) := by decide +kernel
theorem dX8_loose_12 : decode cX8_loose 12 = .ok (.invokevirtual 84, 3) := by decide +kernel
theorem dX8_loose_15 : decode cX8_loose 15 = .ok (.ireturn, 1) := by decide +kernel
theorem dX8_loose_16 : decode cX8_loose 16 = .ok (.aload_n 0, 1) := by decide +kernel
theorem dX8_loose_17 : decode cX8_loose 17 = .ok (.getfield 10, 3) := by decide +kernel
theorem dX8_loose_20 : decode cX8_loose 20 = .ok (.getfield 167, 3) := by decide +kernel
theorem dX8_loose_23 : decode cX8_loose 23 = .ok (.iload_n 1, 1) := by decide +kernel
theorem dX8_loose_24 : decode cX8_loose 24 = .ok (.iadd, 1) := by decide +kernel
theorem dX8_loose_25 : decode cX8_loose 25 = .ok (.sipush 9999, 3) := by decide +kernel
theorem dX8_loose_28 : decode cX8_loose 28 = .ok (.if_icmp .le 9, 3) := by decide +kernel
theorem dX8_loose_31 : decode cX8_loose 31 = .ok (.aload_n 0, 1) := by decide +kernel
theorem dX8_loose_32 : decode cX8_loose 32 = .ok (.iconst 3, 1) := by decide +kernel
theorem dX8_loose_33 : decode cX8_loose 33 = .ok (.invokevirtual 84, 3) := by decide +kernel
theorem dX8_loose_36 : decode cX8_loose 36 = .ok (.ireturn, 1) := by decide +kernel
theorem dX8_loose_37 : decode cX8_loose 37 = .ok (.iconst 0, 1) := by decide +kernel
theorem dX8_loose_38 : decode cX8_loose 38 = .ok (.istore_n 2, 1) := by decide +kernel
theorem dX8_loose_39 : decode cX8_loose 39 = .ok (.iconst 0, 1) := by decide +kernel
theorem dX8_loose_40 : decode cX8_loose 40 = .ok (.istore_n 3, 1) := by decide +kernel
theorem dX8_loose_41 : decode cX8_loose 41 = .ok (.iload_n 3, 1) := by decide +kernel
theorem dX8_loose_42 : decode cX8_loose 42 = .ok (.iload_n 1, 1) := by decide +kernel
theorem dX8_loose_43 : decode cX8_loose 43 = .ok (.if_icmp .ge 34, 3) := by decide +kernel
theorem dX8_loose_46 : decode cX8_loose 46 = .ok (.aload_n 0, 1) := by decide +kernel
theorem dX8_loose_47 : decode cX8_loose 47 = .ok (.getfield 10, 3) := by decide +kernel
theorem dX8_loose_50 : decode cX8_loose 50 = .ok (.invokevirtual 174, 3) := by decide +kernel
theorem dX8_loose_53 : decode cX8_loose 53 = .ok (.aload_n 0, 1) := by decide +kernel
theorem dX8_loose_54 : decode cX8_loose 54 = .ok (.getfield 10, 3) := by decide +kernel
theorem dX8_loose_57 : decode cX8_loose 57 = .ok (.aload_n 0, 1) := by decide +kernel
theorem dX8_loose_58 : decode cX8_loose 58 = .ok (.getfield 25, 3) := by decide +kernel
theorem dX8_loose_61 : decode cX8_loose 61 = .ok (.iconst (-1), 1) := by decide +kernel
theorem dX8_loose_62 : decode cX8_loose 62 = .ok (.invokevirtual 170, 3) := by decide +kernel
theorem dX8_loose_65 : decode cX8_loose 65 = .ok (.ifCond .eq 6, 3) := by decide +kernel
theorem dX8_loose_68 : decode cX8_loose 68 = .ok (.iinc 2 1, 3) := by decide +kernel
theorem dX8_loose_71 : decode cX8_loose 71 = .ok (.iinc 3 1, 3) := by decide +kernel
theorem dX8_loose_74 : decode cX8_loose 74 = .ok (.goto (-33), 3) := by decide +kernel
theorem dX8_loose_77 : decode cX8_loose 77 = .ok (.iload_n 2, 1) := by decide +kernel
theorem dX8_loose_78 : decode cX8_loose 78 = .ok (.ireturn, 1) := by decide +kernel
theorem dX8_seed_0 : decode cX8_seed 0 = .ok (.aload_n 0, 1) := by decide +kernel
theorem dX8_seed_1 : decode cX8_seed 1 = .ok (.getfield 10, 3) := by decide +kernel
theorem dX8_seed_4 : decode cX8_seed 4 = .ok (.getfield 177, 3) := by decide +kernel
theorem dX8_seed_7 : decode cX8_seed 7 = .ok (.istore_n 2, 1) := by decide +kernel
theorem dX8_seed_8 : decode cX8_seed 8 = .ok (.aload_n 0, 1) := by decide +kernel
theorem dX8_seed_9 : decode cX8_seed 9 = .ok (.getfield 10, 3) := by decide +kernel
theorem dX8_seed_12 : decode cX8_seed 12 = .ok (.iload_n 1, 1) := by decide +kernel
theorem dX8_seed_13 : decode cX8_seed 13 = .ok (.putfield 177, 3) := by decide +kernel
theorem dX8_seed_16 : decode cX8_seed 16 = .ok (.iload_n 2, 1) := by decide +kernel
theorem dX8_seed_17 : decode cX8_seed 17 = .ok (.ireturn, 1) := by decide +kernel
theorem dX8_tonight_0 : decode cX8_tonight 0 = .ok (.iload_n 1, 1) := by decide +kernel
theorem dX8_tonight_1 : decode cX8_tonight 1 = .ok (.iconst 0, 1) := by decide +kernel
theorem dX8_tonight_2 : decode cX8_tonight 2 = .ok (.iconst 3, 1) := by decide +kernel
theorem dX8_tonight_3 : decode cX8_tonight 3 = .ok (.invokestatic 80, 3) := by decide +kernel
theorem dX8_tonight_6 : decode cX8_tonight 6 = .ok (.ifCond .ne 9, 3) := by decide +kernel
theorem dX8_tonight_9 : decode cX8_tonight 9 = .ok (.aload_n 0, 1) := by decide +kernel
theorem dX8_tonight_10 : decode cX8_tonight 10 = .ok (.iconst 1, 1) := by decide +kernel
theorem dX8_tonight_11 : decode cX8_tonight 11 = .ok (.invokevirtual 84, 3) := by decide +kernel
theorem dX8_tonight_14 : decode cX8_tonight 14 = .ok (.ireturn, 1) := by decide +kernel
theorem dX8_tonight_15 : decode cX8_tonight 15 = .ok (.iload_n 1, 1) := by decide +kernel
theorem dX8_tonight_16 : decode cX8_tonight 16 = .ok (.iconst 3, 1) := by decide +kernel
theorem dX8_tonight_17 : decode cX8_tonight 17 = .ok (.if_icmp .ne 11, 3) := by decide +kernel
theorem dX8_tonight_20 : decode cX8_tonight 20 = .ok (.aload_n 0, 1) := by decide +kernel
theorem dX8_tonight_21 : decode cX8_tonight 21 = .ok (.getfield 10, 3) := by decide +kernel
theorem dX8_tonight_24 : decode cX8_tonight 24 = .ok (.invokevirtual 180, 3) := by decide +kernel
theorem dX8_tonight_27 : decode cX8_tonight 27 = .ok (.ireturn, 1) := by decide +kernel
theorem dX8_tonight_28 : decode cX8_tonight 28 = .ok (.aload_n 0, 1) := by decide +kernel
theorem dX8_tonight_29 : decode cX8_tonight 29 = .ok (.getfield 25, 3) := by decide +kernel
theorem dX8_tonight_32 : decode cX8_tonight 32 = .ok (.aload_n 0, 1) := by decide +kernel
theorem dX8_tonight_33 : decode cX8_tonight 33 = .ok (.getfield 10, 3) := by decide +kernel
theorem dX8_tonight_36 : decode cX8_tonight 36 = .ok (.iconst (-1), 1) := by decide +kernel
theorem dX8_tonight_37 : decode cX8_tonight 37 = .ok (.invokevirtual 183, 3) := by decide +kernel
theorem dX8_tonight_40 : decode cX8_tonight 40 = .ok (.ifCond .ne 9, 3) := by decide +kernel
theorem dX8_tonight_43 : decode cX8_tonight 43 = .ok (.aload_n 0, 1) := by decide +kernel
theorem dX8_tonight_44 : decode cX8_tonight 44 = .ok (.iconst 2, 1) := by decide +kernel
theorem dX8_tonight_45 : decode cX8_tonight 45 = .ok (.invokevirtual 84, 3) := by decide +kernel
theorem dX8_tonight_48 : decode cX8_tonight 48 = .ok (.ireturn, 1) := by decide +kernel
theorem dX8_tonight_49 : decode cX8_tonight 49 = .ok (.iload_n 1, 1) := by decide +kernel
theorem dX8_tonight_50 : decode cX8_tonight 50 = .ok (.lookupswitch 42 #[(0, 26), (1, 34)], 26) := by decide +kernel
theorem dX8_tonight_76 : decode cX8_tonight 76 = .ok (.aload_n 0, 1) := by decide +kernel
theorem dX8_tonight_77 : decode cX8_tonight 77 = .ok (.getfield 25, 3) := by decide +kernel
theorem dX8_tonight_80 : decode cX8_tonight 80 = .ok (.invokevirtual 187, 3) := by decide +kernel
