set_option maxRecDepth 100000 in
theorem kc_0 : om_kc 0 = 8 := by decide
set_option maxRecDepth 100000 in
theorem rf_0_0 : om_rf 0 0 = some 1 := by decide
set_option maxRecDepth 100000 in
theorem rf_0_1 : om_rf 0 1 = some 20 := by decide
set_option maxRecDepth 100000 in
theorem rf_0_2 : om_rf 0 2 = some 39 := by decide
set_option maxRecDepth 100000 in
theorem rf_0_3 : om_rf 0 3 = some 58 := by decide
set_option maxRecDepth 100000 in
theorem rf_0_4 : om_rf 0 4 = some 62 := by decide
set_option maxRecDepth 100000 in
theorem rf_0_5 : om_rf 0 5 = some 64 := by decide
set_option maxRecDepth 100000 in
theorem rf_0_6 : om_rf 0 6 = some 66 := by decide
set_option maxRecDepth 100000 in
theorem rf_0_7 : om_rf 0 7 = some 68 := by decide
set_option maxRecDepth 100000 in
theorem rf_0_8 : om_rf 0 8 = some 70 := by decide
set_option maxRecDepth 100000 in
theorem rf_0_9 : om_rf 0 9 = some 77 := by decide
set_option maxRecDepth 100000 in
theorem rf_0_10 : om_rf 0 10 = some 80 := by decide
set_option maxRecDepth 100000 in
theorem rf_0_11 : om_rf 0 11 = some 81 := by decide
set_option maxRecDepth 100000 in
theorem kc_1 : om_kc 1 = 6 := by decide
set_option maxRecDepth 100000 in
theorem rf_1_0 : om_rf 1 0 = some 2 := by decide
set_option maxRecDepth 100000 in
theorem rf_1_1 : om_rf 1 1 = some 3 := by decide
set_option maxRecDepth 100000 in
theorem rf_1_2 : om_rf 1 2 = some 7 := by decide
set_option maxRecDepth 100000 in
theorem kc_2 : om_kc 2 = 21 := by decide
set_option maxRecDepth 100000 in
theorem al_2 : om_al 2 = 9 := by decide
set_option maxRecDepth 100000 in
theorem rf_2_0 : om_rf 2 0 = some 11 := by decide
set_option maxRecDepth 100000 in
theorem rf_2_1 : om_rf 2 1 = some 12 := by decide
set_option maxRecDepth 100000 in
theorem rf_2_2 : om_rf 2 2 = some 13 := by decide
set_option maxRecDepth 100000 in
theorem rf_2_3 : om_rf 2 3 = some 14 := by decide
set_option maxRecDepth 100000 in
theorem rf_2_4 : om_rf 2 4 = some 15 := by decide
set_option maxRecDepth 100000 in
theorem rf_2_5 : om_rf 2 5 = some 16 := by decide
set_option maxRecDepth 100000 in
theorem rf_2_6 : om_rf 2 6 = some 17 := by decide
set_option maxRecDepth 100000 in
theorem rf_2_7 : om_rf 2 7 = some 18 := by decide
set_option maxRecDepth 100000 in
theorem rf_2_8 : om_rf 2 8 = some 19 := by decide
set_option maxRecDepth 100000 in
theorem kc_3 : om_kc 3 = 5 := by decide
set_option maxRecDepth 100000 in
theorem rf_3_1 : om_rf 3 1 = some 4 := by decide
set_option maxRecDepth 100000 in
theorem rf_3_2 : om_rf 3 2 = some 6 := by decide
set_option maxRecDepth 100000 in
theorem kc_4 : om_kc 4 = 3 := by decide
set_option maxRecDepth 100000 in
theorem rf_4_0 : om_rf 4 0 = some 5 := by decide
set_option maxRecDepth 100000 in
theorem kc_5 : om_kc 5 = 20 := by decide
set_option maxRecDepth 100000 in
theorem al_5 : om_al 5 = 60 := by decide
set_option maxRecDepth 100000 in
theorem kc_6 : om_kc 6 = 20 := by decide
set_option maxRecDepth 100000 in
theorem al_6 : om_al 6 = 60 := by decide
set_option maxRecDepth 100000 in
theorem kc_7 : om_kc 7 = 5 := by decide
set_option maxRecDepth 100000 in
theorem rf_7_1 : om_rf 7 1 = some 8 := by decide
set_option maxRecDepth 100000 in
theorem rf_7_2 : om_rf 7 2 = some 10 := by decide
set_option maxRecDepth 100000 in
theorem kc_8 : om_kc 8 = 3 := by decide
set_option maxRecDepth 100000 in
theorem rf_8_0 : om_rf 8 0 = some 9 := by decide
set_option maxRecDepth 100000 in
theorem kc_9 : om_kc 9 = 20 := by decide
set_option maxRecDepth 100000 in
theorem al_9 : om_al 9 = 60 := by decide
set_option maxRecDepth 100000 in
theorem kc_10 : om_kc 10 = 20 := by decide
set_option maxRecDepth 100000 in
theorem al_10 : om_al 10 = 60 := by decide
set_option maxRecDepth 100000 in
theorem kc_11 : om_kc 11 = 1 := by decide
set_option maxRecDepth 100000 in
theorem kc_12 : om_kc 12 = 1 := by decide
set_option maxRecDepth 100000 in
theorem kc_13 : om_kc 13 = 1 := by decide
set_option maxRecDepth 100000 in
theorem kc_14 : om_kc 14 = 1 := by decide
set_option maxRecDepth 100000 in
theorem kc_15 : om_kc 15 = 1 := by decide
set_option maxRecDepth 100000 in
theorem kc_16 : om_kc 16 = 1 := by decide
set_option maxRecDepth 100000 in
theorem kc_17 : om_kc 17 = 1 := by decide
set_option maxRecDepth 100000 in
theorem kc_18 : om_kc 18 = 1 := by decide
set_option maxRecDepth 100000 in
theorem kc_19 : om_kc 19 = 1 := by decide
set_option maxRecDepth 100000 in
theorem kc_20 : om_kc 20 = 6 := by decide
set_option maxRecDepth 100000 in
theorem rf_20_0 : om_rf 20 0 = some 21 := by decide
set_option maxRecDepth 100000 in
theorem rf_20_1 : om_rf 20 1 = some 22 := by decide
set_option maxRecDepth 100000 in
theorem rf_20_2 : om_rf 20 2 = some 26 := by decide
set_option maxRecDepth 100000 in
theorem kc_21 : om_kc 21 = 21 := by decide
set_option maxRecDepth 100000 in
theorem al_21 : om_al 21 = 9 := by decide
set_option maxRecDepth 100000 in
theorem rf_21_0 : om_rf 21 0 = some 30 := by decide
set_option maxRecDepth 100000 in
theorem rf_21_1 : om_rf 21 1 = some 31 := by decide
set_option maxRecDepth 100000 in
theorem rf_21_2 : om_rf 21 2 = some 32 := by decide
set_option maxRecDepth 100000 in
theorem rf_21_3 : om_rf 21 3 = some 33 := by decide
set_option maxRecDepth 100000 in
theorem rf_21_4 : om_rf 21 4 = some 34 := by decide
set_option maxRecDepth 100000 in
theorem rf_21_5 : om_rf 21 5 = some 35 := by decide
set_option maxRecDepth 100000 in
theorem rf_21_6 : om_rf 21 6 = some 36 := by decide
set_option maxRecDepth 100000 in
theorem rf_21_7 : om_rf 21 7 = some 37 := by decide
set_option maxRecDepth 100000 in
theorem rf_21_8 : om_rf 21 8 = some 38 := by decide
set_option maxRecDepth 100000 in
theorem kc_22 : om_kc 22 = 5 := by decide
set_option maxRecDepth 100000 in
theorem rf_22_1 : om_rf 22 1 = some 23 := by decide
set_option maxRecDepth 100000 in
theorem rf_22_2 : om_rf 22 2 = some 25 := by decide
set_option maxRecDepth 100000 in
theorem kc_23 : om_kc 23 = 3 := by decide
set_option maxRecDepth 100000 in
theorem rf_23_0 : om_rf 23 0 = some 24 := by decide
set_option maxRecDepth 100000 in
theorem kc_24 : om_kc 24 = 20 := by decide
set_option maxRecDepth 100000 in
theorem al_24 : om_al 24 = 60 := by decide
set_option maxRecDepth 100000 in
theorem kc_25 : om_kc 25 = 20 := by decide
set_option maxRecDepth 100000 in
theorem al_25 : om_al 25 = 60 := by decide
set_option maxRecDepth 100000 in
theorem kc_26 : om_kc 26 = 5 := by decide
set_option maxRecDepth 100000 in
theorem rf_26_1 : om_rf 26 1 = some 27 := by decide
set_option maxRecDepth 100000 in
theorem rf_26_2 : om_rf 26 2 = some 29 := by decide
set_option maxRecDepth 100000 in
theorem kc_27 : om_kc 27 = 3 := by decide
set_option maxRecDepth 100000 in
theorem rf_27_0 : om_rf 27 0 = some 28 := by decide
set_option maxRecDepth 100000 in
theorem kc_28 : om_kc 28 = 20 := by decide
set_option maxRecDepth 100000 in
theorem al_28 : om_al 28 = 60 := by decide
set_option maxRecDepth 100000 in
theorem kc_29 : om_kc 29 = 20 := by decide
set_option maxRecDepth 100000 in
theorem al_29 : om_al 29 = 60 := by decide
set_option maxRecDepth 100000 in
theorem kc_30 : om_kc 30 = 1 := by decide
set_option maxRecDepth 100000 in
theorem kc_31 : om_kc 31 = 1 := by decide
set_option maxRecDepth 100000 in
theorem kc_32 : om_kc 32 = 1 := by decide
set_option maxRecDepth 100000 in
theorem kc_33 : om_kc 33 = 1 := by decide
set_option maxRecDepth 100000 in
theorem kc_34 : om_kc 34 = 1 := by decide
set_option maxRecDepth 100000 in
theorem kc_35 : om_kc 35 = 1 := by decide
set_option maxRecDepth 100000 in
theorem kc_36 : om_kc 36 = 1 := by decide
set_option maxRecDepth 100000 in
theorem kc_37 : om_kc 37 = 1 := by decide
set_option maxRecDepth 100000 in
theorem kc_38 : om_kc 38 = 1 := by decide
set_option maxRecDepth 100000 in
theorem kc_39 : om_kc 39 = 6 := by decide
set_option maxRecDepth 100000 in
theorem rf_39_0 : om_rf 39 0 = some 40 := by decide
set_option maxRecDepth 100000 in
theorem rf_39_1 : om_rf 39 1 = some 41 := by decide
set_option maxRecDepth 100000 in
theorem rf_39_2 : om_rf 39 2 = some 45 := by decide
set_option maxRecDepth 100000 in
theorem kc_40 : om_kc 40 = 21 := by decide
set_option maxRecDepth 100000 in
theorem al_40 : om_al 40 = 9 := by decide
set_option maxRecDepth 100000 in
theorem rf_40_0 : om_rf 40 0 = some 49 := by decide
set_option maxRecDepth 100000 in
theorem rf_40_1 : om_rf 40 1 = some 50 := by decide
set_option maxRecDepth 100000 in
theorem rf_40_2 : om_rf 40 2 = some 51 := by decide
set_option maxRecDepth 100000 in
theorem rf_40_3 : om_rf 40 3 = some 52 := by decide
set_option maxRecDepth 100000 in
theorem rf_40_4 : om_rf 40 4 = some 53 := by decide
set_option maxRecDepth 100000 in
theorem rf_40_5 : om_rf 40 5 = some 54 := by decide
set_option maxRecDepth 100000 in
theorem rf_40_6 : om_rf 40 6 = some 55 := by decide
set_option maxRecDepth 100000 in
theorem rf_40_7 : om_rf 40 7 = some 56 := by decide
set_option maxRecDepth 100000 in
theorem rf_40_8 : om_rf 40 8 = some 57 := by decide
set_option maxRecDepth 100000 in
theorem kc_41 : om_kc 41 = 5 := by decide
set_option maxRecDepth 100000 in
theorem rf_41_1 : om_rf 41 1 = some 42 := by decide
set_option maxRecDepth 100000 in
theorem rf_41_2 : om_rf 41 2 = some 44 := by decide
set_option maxRecDepth 100000 in
theorem kc_42 : om_kc 42 = 3 := by decide
set_option maxRecDepth 100000 in
theorem rf_42_0 : om_rf 42 0 = some 43 := by decide
set_option maxRecDepth 100000 in
theorem kc_43 : om_kc 43 = 20 := by decide
set_option maxRecDepth 100000 in
theorem al_43 : om_al 43 = 60 := by decide
set_option maxRecDepth 100000 in
theorem kc_44 : om_kc 44 = 20 := by decide
set_option maxRecDepth 100000 in
theorem al_44 : om_al 44 = 60 := by decide
set_option maxRecDepth 100000 in
theorem kc_45 : om_kc 45 = 5 := by decide
set_option maxRecDepth 100000 in
theorem rf_45_1 : om_rf 45 1 = some 46 := by decide
set_option maxRecDepth 100000 in
theorem rf_45_2 : om_rf 45 2 = some 48 := by decide
set_option maxRecDepth 100000 in
theorem kc_46 : om_kc 46 = 3 := by decide
set_option maxRecDepth 100000 in
theorem rf_46_0 : om_rf 46 0 = some 47 := by decide
set_option maxRecDepth 100000 in
theorem kc_47 : om_kc 47 = 20 := by decide
set_option maxRecDepth 100000 in
theorem al_47 : om_al 47 = 60 := by decide
set_option maxRecDepth 100000 in
theorem kc_48 : om_kc 48 = 20 := by decide
set_option maxRecDepth 100000 in
theorem al_48 : om_al 48 = 60 := by decide
set_option maxRecDepth 100000 in
theorem kc_49 : om_kc 49 = 1 := by decide
set_option maxRecDepth 100000 in
theorem kc_50 : om_kc 50 = 1 := by decide
set_option maxRecDepth 100000 in
theorem kc_51 : om_kc 51 = 1 := by decide
set_option maxRecDepth 100000 in
theorem kc_52 : om_kc 52 = 1 := by decide
set_option maxRecDepth 100000 in
theorem kc_53 : om_kc 53 = 1 := by decide
set_option maxRecDepth 100000 in
theorem kc_54 : om_kc 54 = 1 := by decide
set_option maxRecDepth 100000 in
theorem kc_55 : om_kc 55 = 1 := by decide
set_option maxRecDepth 100000 in
theorem kc_56 : om_kc 56 = 1 := by decide
set_option maxRecDepth 100000 in
theorem kc_57 : om_kc 57 = 1 := by decide
set_option maxRecDepth 100000 in
theorem kc_58 : om_kc 58 = 0 := by decide
set_option maxRecDepth 100000 in
theorem rf_58_0 : om_rf 58 0 = some 59 := by decide
set_option maxRecDepth 100000 in
theorem rf_58_1 : om_rf 58 1 = some 60 := by decide
set_option maxRecDepth 100000 in
theorem rf_58_2 : om_rf 58 2 = some 61 := by decide
set_option maxRecDepth 100000 in
theorem kc_59 : om_kc 59 = 20 := by decide
set_option maxRecDepth 100000 in
theorem al_59 : om_al 59 = 512 := by decide
set_option maxRecDepth 100000 in
theorem kc_60 : om_kc 60 = 20 := by decide
set_option maxRecDepth 100000 in
theorem al_60 : om_al 60 = 512 := by decide
set_option maxRecDepth 100000 in
theorem kc_61 : om_kc 61 = 20 := by decide
set_option maxRecDepth 100000 in
theorem al_61 : om_al 61 = 512 := by decide
set_option maxRecDepth 100000 in
theorem kc_62 : om_kc 62 = 3 := by decide
set_option maxRecDepth 100000 in
theorem rf_62_0 : om_rf 62 0 = some 63 := by decide
set_option maxRecDepth 100000 in
theorem kc_63 : om_kc 63 = 20 := by decide
set_option maxRecDepth 100000 in
theorem al_63 : om_al 63 = 60 := by decide
set_option maxRecDepth 100000 in
theorem kc_64 : om_kc 64 = 3 := by decide
set_option maxRecDepth 100000 in
theorem rf_64_0 : om_rf 64 0 = some 65 := by decide
set_option maxRecDepth 100000 in
theorem kc_65 : om_kc 65 = 20 := by decide
set_option maxRecDepth 100000 in
theorem al_65 : om_al 65 = 60 := by decide
set_option maxRecDepth 100000 in
theorem kc_66 : om_kc 66 = 3 := by decide
set_option maxRecDepth 100000 in
theorem rf_66_0 : om_rf 66 0 = some 67 := by decide
set_option maxRecDepth 100000 in
theorem kc_67 : om_kc 67 = 20 := by decide
set_option maxRecDepth 100000 in
theorem al_67 : om_al 67 = 24 := by decide
set_option maxRecDepth 100000 in
theorem kc_68 : om_kc 68 = 3 := by decide
set_option maxRecDepth 100000 in
theorem rf_68_0 : om_rf 68 0 = some 69 := by decide
set_option maxRecDepth 100000 in
theorem kc_69 : om_kc 69 = 20 := by decide
set_option maxRecDepth 100000 in
theorem al_69 : om_al 69 = 24 := by decide
set_option maxRecDepth 100000 in
theorem kc_70 : om_kc 70 = 2 := by decide
set_option maxRecDepth 100000 in
theorem rf_70_0 : om_rf 70 0 = some 71 := by decide
set_option maxRecDepth 100000 in
theorem rf_70_1 : om_rf 70 1 = some 75 := by decide
set_option maxRecDepth 100000 in
theorem kc_71 : om_kc 71 = 5 := by decide
set_option maxRecDepth 100000 in
theorem rf_71_1 : om_rf 71 1 = some 72 := by decide
set_option maxRecDepth 100000 in
theorem rf_71_2 : om_rf 71 2 = some 74 := by decide
set_option maxRecDepth 100000 in
theorem kc_72 : om_kc 72 = 3 := by decide
set_option maxRecDepth 100000 in
theorem rf_72_0 : om_rf 72 0 = some 73 := by decide
set_option maxRecDepth 100000 in
theorem kc_73 : om_kc 73 = 20 := by decide
set_option maxRecDepth 100000 in
theorem al_73 : om_al 73 = 60 := by decide
set_option maxRecDepth 100000 in
theorem kc_74 : om_kc 74 = 20 := by decide
set_option maxRecDepth 100000 in
theorem al_74 : om_al 74 = 60 := by decide
set_option maxRecDepth 100000 in
theorem kc_75 : om_kc 75 = 3 := by decide
set_option maxRecDepth 100000 in
theorem rf_75_0 : om_rf 75 0 = some 76 := by decide
set_option maxRecDepth 100000 in
theorem kc_76 : om_kc 76 = 20 := by decide
set_option maxRecDepth 100000 in
theorem al_76 : om_al 76 = 60 := by decide
set_option maxRecDepth 100000 in
theorem kc_77 : om_kc 77 = 7 := by decide
set_option maxRecDepth 100000 in
theorem rf_77_0 : om_rf 77 0 = some 78 := by decide
set_option maxRecDepth 100000 in
theorem kc_78 : om_kc 78 = 3 := by decide
set_option maxRecDepth 100000 in
theorem rf_78_0 : om_rf 78 0 = some 79 := by decide
set_option maxRecDepth 100000 in
theorem kc_79 : om_kc 79 = 20 := by decide
set_option maxRecDepth 100000 in
theorem al_79 : om_al 79 = 30 := by decide
set_option maxRecDepth 100000 in
theorem kc_80 : om_kc 80 = 22 := by decide
set_option maxRecDepth 100000 in
theorem al_80 : om_al 80 = 4 := by decide
set_option maxRecDepth 100000 in
theorem rf_80_0 : om_rf 80 0 = some 82 := by decide
set_option maxRecDepth 100000 in
theorem rf_80_1 : om_rf 80 1 = some 84 := by decide
set_option maxRecDepth 100000 in
theorem rf_80_2 : om_rf 80 2 = some 86 := by decide
set_option maxRecDepth 100000 in
theorem rf_80_3 : om_rf 80 3 = some 88 := by decide
set_option maxRecDepth 100000 in
theorem kc_81 : om_kc 81 = 20 := by decide
set_option maxRecDepth 100000 in
theorem al_81 : om_al 81 = 7 := by decide
set_option maxRecDepth 100000 in
theorem kc_82 : om_kc 82 = 4 := by decide
set_option maxRecDepth 100000 in
theorem rf_82_0 : om_rf 82 0 = some 83 := by decide
set_option maxRecDepth 100000 in
theorem kc_83 : om_kc 83 = 20 := by decide
set_option maxRecDepth 100000 in
theorem al_83 : om_al 83 = 24 := by decide
set_option maxRecDepth 100000 in
theorem kc_84 : om_kc 84 = 4 := by decide
set_option maxRecDepth 100000 in
theorem rf_84_0 : om_rf 84 0 = some 85 := by decide
set_option maxRecDepth 100000 in
theorem kc_85 : om_kc 85 = 20 := by decide
set_option maxRecDepth 100000 in
theorem al_85 : om_al 85 = 24 := by decide
set_option maxRecDepth 100000 in
theorem kc_86 : om_kc 86 = 4 := by decide
set_option maxRecDepth 100000 in
theorem rf_86_0 : om_rf 86 0 = some 87 := by decide
set_option maxRecDepth 100000 in
theorem kc_87 : om_kc 87 = 20 := by decide
set_option maxRecDepth 100000 in
theorem al_87 : om_al 87 = 24 := by decide
set_option maxRecDepth 100000 in
theorem kc_88 : om_kc 88 = 4 := by decide
set_option maxRecDepth 100000 in
theorem rf_88_0 : om_rf 88 0 = some 89 := by decide
set_option maxRecDepth 100000 in
theorem kc_89 : om_kc 89 = 20 := by decide
set_option maxRecDepth 100000 in
theorem al_89 : om_al 89 = 24 := by decide
set_option maxRecDepth 100000 in
theorem kc_90 : om_kc 90 = 9 := by decide
set_option maxRecDepth 100000 in
theorem rf_90_0 : om_rf 90 0 = some 91 := by decide
set_option maxRecDepth 100000 in
theorem rf_90_1 : om_rf 90 1 = some 92 := by decide
set_option maxRecDepth 100000 in
theorem rf_90_2 : om_rf 90 2 = some 93 := by decide
set_option maxRecDepth 100000 in
theorem rf_90_4 : om_rf 90 4 = some 94 := by decide
set_option maxRecDepth 100000 in
theorem rf_90_10 : om_rf 90 10 = some 95 := by decide
set_option maxRecDepth 100000 in
theorem rf_90_11 : om_rf 90 11 = some 96 := by decide
set_option maxRecDepth 100000 in
theorem rf_90_12 : om_rf 90 12 = some 97 := by decide
set_option maxRecDepth 100000 in
theorem rf_90_13 : om_rf 90 13 = some 98 := by decide
set_option maxRecDepth 100000 in
theorem rf_90_14 : om_rf 90 14 = some 99 := by decide
set_option maxRecDepth 100000 in
theorem rf_90_16 : om_rf 90 16 = some 100 := by decide
set_option maxRecDepth 100000 in
theorem rf_90_19 : om_rf 90 19 = some 101 := by decide
set_option maxRecDepth 100000 in
theorem rf_90_20 : om_rf 90 20 = some 102 := by decide
set_option maxRecDepth 100000 in
theorem rf_90_21 : om_rf 90 21 = some 103 := by decide
set_option maxRecDepth 100000 in
theorem rf_90_22 : om_rf 90 22 = some 104 := by decide
set_option maxRecDepth 100000 in
theorem kc_91 : om_kc 91 = 20 := by decide
set_option maxRecDepth 100000 in
theorem al_91 : om_al 91 = 387 := by decide
set_option maxRecDepth 100000 in
theorem kc_92 : om_kc 92 = 20 := by decide
set_option maxRecDepth 100000 in
theorem al_92 : om_al 92 = 387 := by decide
set_option maxRecDepth 100000 in
theorem kc_93 : om_kc 93 = 20 := by decide
set_option maxRecDepth 100000 in
theorem al_93 : om_al 93 = 53 := by decide
set_option maxRecDepth 100000 in
theorem kc_94 : om_kc 94 = 20 := by decide
set_option maxRecDepth 100000 in
theorem al_94 : om_al 94 = 7 := by decide
set_option maxRecDepth 100000 in
theorem kc_95 : om_kc 95 = 20 := by decide
set_option maxRecDepth 100000 in
theorem al_95 : om_al 95 = 124 := by decide
set_option maxRecDepth 100000 in
theorem kc_96 : om_kc 96 = 20 := by decide
set_option maxRecDepth 100000 in
theorem al_96 : om_al 96 = 128 := by decide
set_option maxRecDepth 100000 in
theorem kc_97 : om_kc 97 = 20 := by decide
set_option maxRecDepth 100000 in
theorem al_97 : om_al 97 = 64 := by decide
set_option maxRecDepth 100000 in
theorem kc_98 : om_kc 98 = 20 := by decide
set_option maxRecDepth 100000 in
theorem al_98 : om_al 98 = 512 := by decide
set_option maxRecDepth 100000 in
theorem kc_99 : om_kc 99 = 20 := by decide
set_option maxRecDepth 100000 in
theorem al_99 : om_al 99 = 512 := by decide
set_option maxRecDepth 100000 in
theorem kc_100 : om_kc 100 = 20 := by decide
set_option maxRecDepth 100000 in
theorem al_100 : om_al 100 = 30 := by decide
set_option maxRecDepth 100000 in
theorem kc_101 : om_kc 101 = 20 := by decide
set_option maxRecDepth 100000 in
theorem al_101 : om_al 101 = 4 := by decide
set_option maxRecDepth 100000 in
theorem kc_102 : om_kc 102 = 20 := by decide
set_option maxRecDepth 100000 in
theorem al_102 : om_al 102 = 4 := by decide
set_option maxRecDepth 100000 in
theorem kc_103 : om_kc 103 = 20 := by decide
set_option maxRecDepth 100000 in
theorem al_103 : om_al 103 = 96 := by decide
set_option maxRecDepth 100000 in
theorem kc_104 : om_kc 104 = 20 := by decide
set_option maxRecDepth 100000 in
theorem al_104 : om_al 104 = 24 := by decide
set_option maxRecDepth 100000 in
theorem kM : om_kc 90 = 9 ∧ om_kc 91 = 20 ∧ om_kc 92 = 20 ∧ om_kc 93 = 20 ∧ om_kc 94 = 20 ∧ om_kc 95 = 20 ∧ om_kc 96 = 20 ∧ om_kc 97 = 20 ∧ om_kc 98 = 20 ∧ om_kc 99 = 20 ∧ om_kc 100 = 20 ∧ om_kc 101 = 20 ∧ om_kc 102 = 20 ∧ om_kc 103 = 20 ∧ om_kc 104 = 20 := ⟨kc_90, kc_91, kc_92, kc_93, kc_94, kc_95, kc_96, kc_97, kc_98, kc_99, kc_100, kc_101, kc_102, kc_103, kc_104⟩
set_option maxRecDepth 100000 in
theorem aM : om_al 91 = 387 ∧ om_al 92 = 387 ∧ om_al 93 = 53 ∧ om_al 94 = 7 ∧ om_al 95 = 124 ∧ om_al 96 = 128 ∧ om_al 97 = 64 ∧ om_al 98 = 512 ∧ om_al 99 = 512 ∧ om_al 100 = 30 ∧ om_al 101 = 4 ∧ om_al 102 = 4 ∧ om_al 103 = 96 ∧ om_al 104 = 24 := ⟨al_91, al_92, al_93, al_94, al_95, al_96, al_97, al_98, al_99, al_100, al_101, al_102, al_103, al_104⟩
set_option maxRecDepth 100000 in
theorem rM : om_rf 90 0 = some 91 ∧ om_rf 90 1 = some 92 ∧ om_rf 90 2 = some 93 ∧ om_rf 90 4 = some 94 ∧ om_rf 90 10 = some 95 ∧ om_rf 90 11 = some 96 ∧ om_rf 90 12 = some 97 ∧ om_rf 90 13 = some 98 ∧ om_rf 90 14 = some 99 ∧ om_rf 90 16 = some 100 ∧ om_rf 90 19 = some 101 ∧ om_rf 90 20 = some 102 ∧ om_rf 90 21 = some 103 ∧ om_rf 90 22 = some 104 := ⟨rf_90_0, rf_90_1, rf_90_2, rf_90_4, rf_90_10, rf_90_11, rf_90_12, rf_90_13, rf_90_14, rf_90_16, rf_90_19, rf_90_20, rf_90_21, rf_90_22⟩
set_option maxRecDepth 100000 in
theorem rX : om_rf 0 0 = some 1 ∧ om_rf 0 1 = some 20 ∧ om_rf 0 2 = some 39 ∧ om_rf 0 3 = some 58 ∧ om_rf 0 4 = some 62 ∧ om_rf 0 5 = some 64 ∧ om_rf 0 6 = some 66 ∧ om_rf 0 7 = some 68 ∧ om_rf 0 8 = some 70 ∧ om_rf 0 9 = some 77 ∧ om_rf 0 10 = some 80 ∧ om_rf 0 11 = some 81 := ⟨rf_0_0, rf_0_1, rf_0_2, rf_0_3, rf_0_4, rf_0_5, rf_0_6, rf_0_7, rf_0_8, rf_0_9, rf_0_10, rf_0_11⟩
set_option maxRecDepth 100000 in
theorem kX : om_kc 0 = 8 ∧ om_kc 1 = 6 ∧ om_kc 20 = 6 ∧ om_kc 39 = 6 ∧ om_kc 58 = 0 ∧ om_kc 62 = 3 ∧ om_kc 64 = 3 ∧ om_kc 66 = 3 ∧ om_kc 68 = 3 ∧ om_kc 70 = 2 ∧ om_kc 77 = 7 ∧ om_kc 80 = 22 ∧ om_kc 81 = 20 := ⟨kc_0, kc_1, kc_20, kc_39, kc_58, kc_62, kc_64, kc_66, kc_68, kc_70, kc_77, kc_80, kc_81⟩
