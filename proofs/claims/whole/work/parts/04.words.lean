set_option maxRecDepth 100000 in
theorem wd_0 : Cond.selects RX8 yX8_refuse yX8_refuse ∈ om_tbl := om_mem (i := 0) rfl rfl
set_option maxRecDepth 100000 in
theorem wd_1 : Cond.selects RX2 yX2_readChain yX2_readChain ∈ om_tbl := om_mem (i := 1) rfl rfl
set_option maxRecDepth 100000 in
theorem wd_2 : Cond.selects RX2 yX2_readUnit yX2_readUnit ∈ om_tbl := om_mem (i := 2) rfl rfl
set_option maxRecDepth 100000 in
theorem wd_3 : Cond.selects RX2 yX2_readNumber yX2_readNumber ∈ om_tbl := om_mem (i := 3) rfl rfl
set_option maxRecDepth 100000 in
theorem wd_4 : Cond.selects RX2 yX2_readNot yX2_readNot ∈ om_tbl := om_mem (i := 4) rfl rfl
set_option maxRecDepth 100000 in
theorem wd_5 : Cond.selects RX2 yX2_readBracketed yX2_readBracketed ∈ om_tbl := om_mem (i := 5) rfl rfl
set_option maxRecDepth 100000 in
theorem wd_6 : Cond.selects RX8 yX8_litNightsAhead yX8_litNightsAhead ∈ om_tbl := om_mem (i := 6) rfl rfl
set_option maxRecDepth 100000 in
theorem wd_7 : Cond.selects RX8 yX8_sheetAt yX8_sheetAt ∈ om_tbl := om_mem (i := 7) rfl rfl
set_option maxRecDepth 100000 in
theorem wd_8 : Cond.selects RX9 yX9_error yX9_error ∈ om_tbl := om_mem (i := 8) rfl rfl
set_option maxRecDepth 100000 in
theorem wd_9 : Cond.selects RX9 yX9_whole yX9_whole ∈ om_tbl := om_mem (i := 9) rfl rfl
set_option maxRecDepth 100000 in
theorem wd_10 : Cond.selects RX9 yX9_both yX9_both ∈ om_tbl := om_mem (i := 10) rfl rfl
set_option maxRecDepth 100000 in
theorem wd_11 : Cond.selects RX9 yX9_compared yX9_compared ∈ om_tbl := om_mem (i := 11) rfl rfl
set_option maxRecDepth 100000 in
theorem wd_12 : Cond.selects RX9 yX9_sum yX9_sum ∈ om_tbl := om_mem (i := 12) rfl rfl
set_option maxRecDepth 100000 in
theorem wd_13 : Cond.selects RX9 yX9_product yX9_product ∈ om_tbl := om_mem (i := 13) rfl rfl
set_option maxRecDepth 100000 in
theorem wd_14 : Cond.selects RX9 yX9_one yX9_one ∈ om_tbl := om_mem (i := 14) rfl rfl
set_option maxRecDepth 100000 in
theorem wd_15 : Cond.selects RX9 yX9_look yX9_look ∈ om_tbl := om_mem (i := 15) rfl rfl
set_option maxRecDepth 100000 in
theorem wd_16 : Cond.selects RX9 yX9_isName yX9_isName ∈ om_tbl := om_mem (i := 16) rfl rfl
set_option maxRecDepth 100000 in
theorem wd_17 : Cond.selects RX9 yX9_step1 yX9_step1 ∈ om_tbl := om_mem (i := 17) rfl rfl
set_option maxRecDepth 100000 in
theorem wd_18 : Cond.selects RX9 yX9_opens yX9_opens ∈ om_tbl := om_mem (i := 18) rfl rfl
set_option maxRecDepth 100000 in
theorem wd_19 : Cond.selects RX9 yX9_hasText yX9_hasText ∈ om_tbl := om_mem (i := 19) rfl rfl
set_option maxRecDepth 100000 in
theorem wd_20 : Cond.selects RX9 yX9_lays1 yX9_lays1 ∈ om_tbl := om_mem (i := 20) rfl rfl
set_option maxRecDepth 100000 in
theorem wd_21 : Cond.selects RX9 yX9_isMemory yX9_isMemory ∈ om_tbl := om_mem (i := 21) rfl rfl
set_option maxRecDepth 100000 in
theorem wd_22 : Cond.selects RX9 yX9_its yX9_its ∈ om_tbl := om_mem (i := 22) rfl rfl
set_option maxRecDepth 100000 in
theorem wd_23 : Cond.selects RX9 yX9_lightBy yX9_lightBy ∈ om_tbl := om_mem (i := 23) rfl rfl
set_option maxRecDepth 100000 in
theorem wd_24 : Cond.selects RX9 yX9_burnsOf yX9_burnsOf ∈ om_tbl := om_mem (i := 24) rfl rfl
set_option maxRecDepth 100000 in
theorem wd_25 : Cond.selects RX9 yX9_lightTold yX9_lightTold ∈ om_tbl := om_mem (i := 25) rfl rfl
set_option maxRecDepth 100000 in
theorem wd_26 : Cond.selects RX9 yX9_worked yX9_worked ∈ om_tbl := om_mem (i := 26) rfl rfl
set_option maxRecDepth 100000 in
theorem wd_27 : Cond.selects RX9 yX9_smokeOf yX9_smokeOf ∈ om_tbl := om_mem (i := 27) rfl rfl
set_option maxRecDepth 100000 in
theorem wd_28 : Cond.selects RX9 yX9_change1 yX9_change1 ∈ om_tbl := om_mem (i := 28) rfl rfl
set_option maxRecDepth 100000 in
theorem wd_29 : Cond.selects RX9 yX9_wantedTold yX9_wantedTold ∈ om_tbl := om_mem (i := 29) rfl rfl
set_option maxRecDepth 100000 in
theorem wd_30 : Cond.selects RX9 yX9_whyNot yX9_whyNot ∈ om_tbl := om_mem (i := 30) rfl rfl
set_option maxRecDepth 100000 in
theorem wd_31 : Cond.selects RX9 yX9_goes yX9_goes ∈ om_tbl := om_mem (i := 31) rfl rfl
set_option maxRecDepth 100000 in
theorem wd_32 : Cond.selects RX9 yX9_aNight yX9_aNight ∈ om_tbl := om_mem (i := 32) rfl rfl
set_option maxRecDepth 100000 in
theorem wd_33 : Cond.selects RX9 yX9_tonightSet yX9_tonightSet ∈ om_tbl := om_mem (i := 33) rfl rfl
set_option maxRecDepth 100000 in
theorem wd_34 : Cond.selects RX9 yX9_wanted yX9_wanted ∈ om_tbl := om_mem (i := 34) rfl rfl
set_option maxRecDepth 100000 in
theorem wd_35 : Cond.selects RX9 yX9_givesBy yX9_givesBy ∈ om_tbl := om_mem (i := 35) rfl rfl
set_option maxRecDepth 100000 in
theorem wd_36 : Cond.selects RX9 yX9_weathers yX9_weathers ∈ om_tbl := om_mem (i := 36) rfl rfl
set_option maxRecDepth 100000 in
theorem wd_37 : Cond.selects RX9 yX9_draw yX9_draw ∈ om_tbl := om_mem (i := 37) rfl rfl
set_option maxRecDepth 100000 in
theorem wd_38 : Cond.selects RX9 yX9_litNights yX9_litNights ∈ om_tbl := om_mem (i := 38) rfl rfl
set_option maxRecDepth 100000 in
theorem wd_39 : Cond.selects RX9 yX9_layDown yX9_layDown ∈ om_tbl := om_mem (i := 39) rfl rfl
set_option maxRecDepth 100000 in
theorem wd_40 : Cond.selects RX9 yX9_layBack yX9_layBack ∈ om_tbl := om_mem (i := 40) rfl rfl
set_option maxRecDepth 100000 in
theorem wd_41 : Cond.selects RX9 yX9_lacks yX9_lacks ∈ om_tbl := om_mem (i := 41) rfl rfl
set_option maxRecDepth 100000 in
theorem wd_42 : Cond.selects RX9 yX9_areLeftSo yX9_areLeftSo ∈ om_tbl := om_mem (i := 42) rfl rfl
set_option maxRecDepth 100000 in
theorem wd_43 : Cond.selects RX9 yX9_kindNow yX9_kindNow ∈ om_tbl := om_mem (i := 43) rfl rfl
set_option maxRecDepth 100000 in
theorem wd_44 : Cond.selects RX9 yX9_glowsAs yX9_glowsAs ∈ om_tbl := om_mem (i := 44) rfl rfl
set_option maxRecDepth 100000 in
theorem wd_45 : Cond.selects RX9 yX9_starts yX9_starts ∈ om_tbl := om_mem (i := 45) rfl rfl
set_option maxRecDepth 100000 in
theorem wd_46 : Cond.selects RX9 yX9_turnsAs yX9_turnsAs ∈ om_tbl := om_mem (i := 46) rfl rfl
set_option maxRecDepth 100000 in
theorem wd_47 : Cond.selects RX9 yX9_mNow yX9_mNow ∈ om_tbl := om_mem (i := 47) rfl rfl
set_option maxRecDepth 100000 in
theorem wd_48 : Cond.selects RX9 yX9_guttersAs yX9_guttersAs ∈ om_tbl := om_mem (i := 48) rfl rfl
set_option maxRecDepth 100000 in
theorem wd_49 : Cond.selects RX9 yX9_partsAs yX9_partsAs ∈ om_tbl := om_mem (i := 49) rfl rfl
set_option maxRecDepth 100000 in
theorem wd_50 : Cond.initialized RL ∈ om_tbl := om_mem (i := 50) rfl rfl
set_option maxRecDepth 100000 in
theorem wd_51 : Cond.initialized RX8 ∈ om_tbl := om_mem (i := 51) rfl rfl
set_option maxRecDepth 100000 in
theorem wd_52 : Cond.initialized RX6 ∈ om_tbl := om_mem (i := 52) rfl rfl
set_option maxRecDepth 100000 in
theorem wd_53 : Cond.initialized RX5 ∈ om_tbl := om_mem (i := 53) rfl rfl
set_option maxRecDepth 100000 in
theorem wd_54 : Cond.initialized RX3 ∈ om_tbl := om_mem (i := 54) rfl rfl
set_option maxRecDepth 100000 in
theorem wd_55 : Cond.initialized RX1 ∈ om_tbl := om_mem (i := 55) rfl rfl
set_option maxRecDepth 100000 in
theorem wd_56 : Cond.initialized RX0 ∈ om_tbl := om_mem (i := 56) rfl rfl
set_option maxRecDepth 100000 in
theorem wd_57 : Cond.initialized RX2 ∈ om_tbl := om_mem (i := 57) rfl rfl
set_option maxRecDepth 100000 in
theorem wd_58 : Cond.initialized RX7 ∈ om_tbl := om_mem (i := 58) rfl rfl
set_option maxRecDepth 100000 in
theorem wd_59 : Cond.initialized RX4 ∈ om_tbl := om_mem (i := 59) rfl rfl
set_option maxRecDepth 100000 in
theorem wd_60 : Cond.initialized RX9 ∈ om_tbl := om_mem (i := 60) rfl rfl
set_option maxRecDepth 100000 in
theorem wd_61 : Cond.initialized RJ6 ∈ om_tbl := om_mem (i := 61) rfl rfl
set_option maxRecDepth 100000 in
theorem wd_62 : Cond.initialized RJ9 ∈ om_tbl := om_mem (i := 62) rfl rfl
set_option maxRecDepth 100000 in
theorem wd_63 : Cond.classLink RL 7 RX8 ∈ om_tbl := om_mem (i := 63) rfl rfl
set_option maxRecDepth 100000 in
theorem wd_64 : Cond.instantiable RX8 13 ∈ om_tbl := om_mem (i := 64) rfl rfl
set_option maxRecDepth 100000 in
theorem wd_65 : Cond.methodLink RL 9 yX8_init ∈ om_tbl := om_mem (i := 65) rfl rfl
set_option maxRecDepth 100000 in
theorem wd_66 : Cond.instanceMethod yX8_init ∈ om_tbl := om_mem (i := 66) rfl rfl
set_option maxRecDepth 100000 in
theorem wd_67 : Cond.code yX8_init cX8_init 2 none ∈ om_tbl := om_mem (i := 67) rfl rfl
set_option maxRecDepth 100000 in
theorem wd_68 : Cond.methodLink RX8 1 objectInit ∈ om_tbl := om_mem (i := 68) rfl rfl
set_option maxRecDepth 100000 in
theorem wd_69 : Cond.instanceMethod objectInit ∈ om_tbl := om_mem (i := 69) rfl rfl
set_option maxRecDepth 100000 in
theorem wd_70 : Cond.code objectInit object_method_1_code 1 none ∈ om_tbl := om_mem (i := 70) rfl rfl
set_option maxRecDepth 100000 in
theorem wd_71 : Cond.classLink RX8 7 RX6 ∈ om_tbl := om_mem (i := 71) rfl rfl
set_option maxRecDepth 100000 in
theorem wd_72 : Cond.instantiable RX6 8 ∈ om_tbl := om_mem (i := 72) rfl rfl
set_option maxRecDepth 100000 in
theorem wd_73 : Cond.methodLink RX8 9 yX6_init ∈ om_tbl := om_mem (i := 73) rfl rfl
set_option maxRecDepth 100000 in
theorem wd_74 : Cond.instanceMethod yX6_init ∈ om_tbl := om_mem (i := 74) rfl rfl
set_option maxRecDepth 100000 in
theorem wd_75 : Cond.code yX6_init cX6_init 2 none ∈ om_tbl := om_mem (i := 75) rfl rfl
set_option maxRecDepth 100000 in
theorem wd_76 : Cond.methodLink RX6 3 objectInit ∈ om_tbl := om_mem (i := 76) rfl rfl
set_option maxRecDepth 100000 in
theorem wd_77 : Cond.classLink RX6 9 RX1 ∈ om_tbl := om_mem (i := 77) rfl rfl
set_option maxRecDepth 100000 in
theorem wn_78 : Cond.arrayOver (FieldType.object "OilMemories$Memory") ∈ lw_tbl := List.mem_of_getElem? (i := 78) rfl
set_option maxRecDepth 100000 in
theorem wd_79 : Cond.classLink RX6 17 RX5 ∈ om_tbl := om_mem (i := 79) rfl rfl
set_option maxRecDepth 100000 in
theorem wd_80 : Cond.instantiable RX5 3 ∈ om_tbl := om_mem (i := 80) rfl rfl
set_option maxRecDepth 100000 in
theorem wd_81 : Cond.methodLink RX6 19 yX5_init ∈ om_tbl := om_mem (i := 81) rfl rfl
set_option maxRecDepth 100000 in
theorem wd_82 : Cond.instanceMethod yX5_init ∈ om_tbl := om_mem (i := 82) rfl rfl
set_option maxRecDepth 100000 in
theorem wd_83 : Cond.code yX5_init cX5_init 2 none ∈ om_tbl := om_mem (i := 83) rfl rfl
set_option maxRecDepth 100000 in
theorem wd_84 : Cond.methodLink RX5 3 objectInit ∈ om_tbl := om_mem (i := 84) rfl rfl
set_option maxRecDepth 100000 in
theorem wd_85 : Cond.classLink RX5 9 RX3 ∈ om_tbl := om_mem (i := 85) rfl rfl
set_option maxRecDepth 100000 in
theorem wd_86 : Cond.instantiable RX3 2 ∈ om_tbl := om_mem (i := 86) rfl rfl
set_option maxRecDepth 100000 in
theorem wd_87 : Cond.methodLink RX5 11 yX3_init ∈ om_tbl := om_mem (i := 87) rfl rfl
set_option maxRecDepth 100000 in
theorem wd_88 : Cond.instanceMethod yX3_init ∈ om_tbl := om_mem (i := 88) rfl rfl
set_option maxRecDepth 100000 in
theorem wd_89 : Cond.code yX3_init cX3_init 2 none ∈ om_tbl := om_mem (i := 89) rfl rfl
set_option maxRecDepth 100000 in
theorem wd_90 : Cond.methodLink RX3 1 objectInit ∈ om_tbl := om_mem (i := 90) rfl rfl
set_option maxRecDepth 100000 in
theorem wd_91 : Cond.fieldLink RX3 13 RX3 "values" "[I" ∈ om_tbl := om_mem (i := 91) rfl rfl
set_option maxRecDepth 100000 in
theorem wd_92 : Cond.fieldLink RX3 7 RX3 "filled" "I" ∈ om_tbl := om_mem (i := 92) rfl rfl
set_option maxRecDepth 100000 in
theorem wd_93 : Cond.laysFinal RX3 RX3 "values" "[I" ∈ om_tbl := om_mem (i := 93) rfl rfl
set_option maxRecDepth 100000 in
theorem wd_95 : Cond.lays RX3 RX3 "filled" "I" ∈ om_tbl := om_mem (i := 95) rfl rfl
set_option maxRecDepth 100000 in
theorem wd_98 : Cond.arrayClass FieldType.int ∈ om_tbl := om_mem (i := 98) rfl rfl
set_option maxRecDepth 100000 in
theorem wd_99 : Cond.fieldLink RX5 24 RX5 "use" "I" ∈ om_tbl := om_mem (i := 99) rfl rfl
set_option maxRecDepth 100000 in
theorem wd_100 : Cond.fieldLink RX5 14 RX5 "codes" "LOilMemories$Row;" ∈ om_tbl := om_mem (i := 100) rfl rfl
set_option maxRecDepth 100000 in
theorem wd_101 : Cond.fieldLink RX2 60 RX5 "codes" "LOilMemories$Row;" ∈ om_tbl := om_mem (i := 101) rfl rfl
set_option maxRecDepth 100000 in
theorem wd_102 : Cond.fieldLink RX8 160 RX5 "codes" "LOilMemories$Row;" ∈ om_tbl := om_mem (i := 102) rfl rfl
set_option maxRecDepth 100000 in
theorem wd_103 : Cond.fieldLink RX5 20 RX5 "stack" "[I" ∈ om_tbl := om_mem (i := 103) rfl rfl
set_option maxRecDepth 100000 in
theorem wd_104 : Cond.laysFinal RX5 RX5 "use" "I" ∈ om_tbl := om_mem (i := 104) rfl rfl
set_option maxRecDepth 100000 in
theorem wd_106 : Cond.laysFinal RX5 RX5 "codes" "LOilMemories$Row;" ∈ om_tbl := om_mem (i := 106) rfl rfl
set_option maxRecDepth 100000 in
theorem wd_108 : Cond.laysFinal RX5 RX5 "stack" "[I" ∈ om_tbl := om_mem (i := 108) rfl rfl
set_option maxRecDepth 100000 in
theorem wd_111 : Cond.instantiable RX1 5 ∈ om_tbl := om_mem (i := 111) rfl rfl
set_option maxRecDepth 100000 in
theorem wn_112 : Cond.methodLinkNest RX6 45 yX1_init RX8 ∈ lw_tbl := List.mem_of_getElem? (i := 112) rfl
set_option maxRecDepth 100000 in
theorem wd_113 : Cond.instanceMethod yX1_init ∈ om_tbl := om_mem (i := 113) rfl rfl
set_option maxRecDepth 100000 in
theorem wd_114 : Cond.code yX1_init cX1_init 1 none ∈ om_tbl := om_mem (i := 114) rfl rfl
set_option maxRecDepth 100000 in
theorem wd_115 : Cond.methodLink RX1 3 objectInit ∈ om_tbl := om_mem (i := 115) rfl rfl
set_option maxRecDepth 100000 in
theorem wd_116 : Cond.fieldLink RX1 9 RX1 "kind" "I" ∈ om_tbl := om_mem (i := 116) rfl rfl
set_option maxRecDepth 100000 in
theorem wd_117 : Cond.fieldLink RX7 37 RX1 "kind" "I" ∈ om_tbl := om_mem (i := 117) rfl rfl
set_option maxRecDepth 100000 in
theorem wd_118 : Cond.fieldLink RX8 100 RX1 "kind" "I" ∈ om_tbl := om_mem (i := 118) rfl rfl
set_option maxRecDepth 100000 in
theorem wd_119 : Cond.fieldLink RX6 61 RX1 "kind" "I" ∈ om_tbl := om_mem (i := 119) rfl rfl
set_option maxRecDepth 100000 in
theorem wd_120 : Cond.fieldLink RX1 15 RX1 "number" "I" ∈ om_tbl := om_mem (i := 120) rfl rfl
set_option maxRecDepth 100000 in
theorem wd_121 : Cond.fieldLink RX7 40 RX1 "number" "I" ∈ om_tbl := om_mem (i := 121) rfl rfl
set_option maxRecDepth 100000 in
theorem wd_122 : Cond.fieldLink RX8 105 RX1 "number" "I" ∈ om_tbl := om_mem (i := 122) rfl rfl
set_option maxRecDepth 100000 in
theorem wd_123 : Cond.fieldLink RX6 64 RX1 "number" "I" ∈ om_tbl := om_mem (i := 123) rfl rfl
set_option maxRecDepth 100000 in
theorem wd_124 : Cond.fieldLink RX1 18 RX1 "whose" "I" ∈ om_tbl := om_mem (i := 124) rfl rfl
set_option maxRecDepth 100000 in
theorem wd_125 : Cond.fieldLink RX8 108 RX1 "whose" "I" ∈ om_tbl := om_mem (i := 125) rfl rfl
set_option maxRecDepth 100000 in
theorem wd_126 : Cond.fieldLink RX6 67 RX1 "whose" "I" ∈ om_tbl := om_mem (i := 126) rfl rfl
set_option maxRecDepth 100000 in
theorem wd_127 : Cond.fieldLink RX1 21 RX1 "left" "I" ∈ om_tbl := om_mem (i := 127) rfl rfl
set_option maxRecDepth 100000 in
theorem wd_128 : Cond.fieldLink RX0 37 RX1 "left" "I" ∈ om_tbl := om_mem (i := 128) rfl rfl
set_option maxRecDepth 100000 in
theorem wd_129 : Cond.fieldLink RX8 111 RX1 "left" "I" ∈ om_tbl := om_mem (i := 129) rfl rfl
set_option maxRecDepth 100000 in
theorem wd_130 : Cond.fieldLink RX6 70 RX1 "left" "I" ∈ om_tbl := om_mem (i := 130) rfl rfl
set_option maxRecDepth 100000 in
theorem wd_131 : Cond.fieldLink RX1 24 RX1 "dear" "I" ∈ om_tbl := om_mem (i := 131) rfl rfl
set_option maxRecDepth 100000 in
theorem wd_132 : Cond.fieldLink RX0 45 RX1 "dear" "I" ∈ om_tbl := om_mem (i := 132) rfl rfl
set_option maxRecDepth 100000 in
theorem wd_133 : Cond.fieldLink RX8 114 RX1 "dear" "I" ∈ om_tbl := om_mem (i := 133) rfl rfl
set_option maxRecDepth 100000 in
theorem wd_134 : Cond.fieldLink RX6 73 RX1 "dear" "I" ∈ om_tbl := om_mem (i := 134) rfl rfl
set_option maxRecDepth 100000 in
theorem wd_135 : Cond.lays RX1 RX1 "kind" "I" ∈ om_tbl := om_mem (i := 135) rfl rfl
set_option maxRecDepth 100000 in
theorem wd_137 : Cond.lays RX1 RX1 "number" "I" ∈ om_tbl := om_mem (i := 137) rfl rfl
set_option maxRecDepth 100000 in
theorem wd_139 : Cond.lays RX1 RX1 "whose" "I" ∈ om_tbl := om_mem (i := 139) rfl rfl
set_option maxRecDepth 100000 in
theorem wd_141 : Cond.lays RX1 RX1 "left" "I" ∈ om_tbl := om_mem (i := 141) rfl rfl
set_option maxRecDepth 100000 in
theorem wd_143 : Cond.lays RX1 RX1 "dear" "I" ∈ om_tbl := om_mem (i := 143) rfl rfl
set_option maxRecDepth 100000 in
theorem wd_146 : Cond.fieldLink RX6 11 RX6 "memories" "[LOilMemories$Memory;" ∈ om_tbl := om_mem (i := 146) rfl rfl
set_option maxRecDepth 100000 in
theorem wd_147 : Cond.fieldLink RX6 22 RX6 "lightText" "LOilMemories$Text;" ∈ om_tbl := om_mem (i := 147) rfl rfl
set_option maxRecDepth 100000 in
theorem wd_148 : Cond.fieldLink RX6 26 RX6 "wantedText" "LOilMemories$Text;" ∈ om_tbl := om_mem (i := 148) rfl rfl
set_option maxRecDepth 100000 in
theorem wd_149 : Cond.fieldLink RX6 29 RX6 "count" "I" ∈ om_tbl := om_mem (i := 149) rfl rfl
set_option maxRecDepth 100000 in
theorem wd_150 : Cond.fieldLink RX0 28 RX6 "count" "I" ∈ om_tbl := om_mem (i := 150) rfl rfl
set_option maxRecDepth 100000 in
theorem wd_151 : Cond.fieldLink RX8 202 RX6 "count" "I" ∈ om_tbl := om_mem (i := 151) rfl rfl
set_option maxRecDepth 100000 in
theorem wd_152 : Cond.fieldLink RX6 33 RX6 "weather" "I" ∈ om_tbl := om_mem (i := 152) rfl rfl
set_option maxRecDepth 100000 in
theorem wd_153 : Cond.fieldLink RX8 121 RX6 "weather" "I" ∈ om_tbl := om_mem (i := 153) rfl rfl
set_option maxRecDepth 100000 in
theorem wd_154 : Cond.fieldLink RX6 36 RX6 "night" "I" ∈ om_tbl := om_mem (i := 154) rfl rfl
set_option maxRecDepth 100000 in
theorem wd_155 : Cond.fieldLink RX8 167 RX6 "night" "I" ∈ om_tbl := om_mem (i := 155) rfl rfl
set_option maxRecDepth 100000 in
theorem wd_156 : Cond.fieldLink RX6 39 RX6 "dark" "I" ∈ om_tbl := om_mem (i := 156) rfl rfl
set_option maxRecDepth 100000 in
theorem wd_157 : Cond.fieldLink RX8 266 RX6 "dark" "I" ∈ om_tbl := om_mem (i := 157) rfl rfl
set_option maxRecDepth 100000 in
theorem wd_158 : Cond.fieldLink RX6 42 RX6 "z" "I" ∈ om_tbl := om_mem (i := 158) rfl rfl
set_option maxRecDepth 100000 in
theorem wd_159 : Cond.fieldLink RX8 177 RX6 "z" "I" ∈ om_tbl := om_mem (i := 159) rfl rfl
set_option maxRecDepth 100000 in
theorem wd_160 : Cond.laysFinal RX6 RX6 "memories" "[LOilMemories$Memory;" ∈ om_tbl := om_mem (i := 160) rfl rfl
set_option maxRecDepth 100000 in
theorem wd_162 : Cond.laysFinal RX6 RX6 "lightText" "LOilMemories$Text;" ∈ om_tbl := om_mem (i := 162) rfl rfl
set_option maxRecDepth 100000 in
theorem wd_164 : Cond.laysFinal RX6 RX6 "wantedText" "LOilMemories$Text;" ∈ om_tbl := om_mem (i := 164) rfl rfl
set_option maxRecDepth 100000 in
theorem wd_166 : Cond.lays RX6 RX6 "count" "I" ∈ om_tbl := om_mem (i := 166) rfl rfl
set_option maxRecDepth 100000 in
theorem wd_168 : Cond.lays RX6 RX6 "weather" "I" ∈ om_tbl := om_mem (i := 168) rfl rfl
set_option maxRecDepth 100000 in
theorem wd_170 : Cond.lays RX6 RX6 "night" "I" ∈ om_tbl := om_mem (i := 170) rfl rfl
set_option maxRecDepth 100000 in
theorem wd_172 : Cond.lays RX6 RX6 "dark" "I" ∈ om_tbl := om_mem (i := 172) rfl rfl
set_option maxRecDepth 100000 in
theorem wd_174 : Cond.lays RX6 RX6 "z" "I" ∈ om_tbl := om_mem (i := 174) rfl rfl
set_option maxRecDepth 100000 in
theorem wd_177 : Cond.classLink RX8 22 RX0 ∈ om_tbl := om_mem (i := 177) rfl rfl
set_option maxRecDepth 100000 in
theorem wd_178 : Cond.instantiable RX0 5 ∈ om_tbl := om_mem (i := 178) rfl rfl
set_option maxRecDepth 100000 in
theorem wn_179 : Cond.methodLinkNest RX8 24 yX0_init RX8 ∈ lw_tbl := List.mem_of_getElem? (i := 179) rfl
set_option maxRecDepth 100000 in
theorem wd_180 : Cond.instanceMethod yX0_init ∈ om_tbl := om_mem (i := 180) rfl rfl
set_option maxRecDepth 100000 in
theorem wd_181 : Cond.code yX0_init cX0_init 1 none ∈ om_tbl := om_mem (i := 181) rfl rfl
set_option maxRecDepth 100000 in
theorem wd_182 : Cond.methodLink RX0 3 objectInit ∈ om_tbl := om_mem (i := 182) rfl rfl
set_option maxRecDepth 100000 in
theorem wd_183 : Cond.fieldLink RX0 9 RX0 "bits" "[I" ∈ om_tbl := om_mem (i := 183) rfl rfl
set_option maxRecDepth 100000 in
theorem wd_184 : Cond.fieldLink RX0 15 RX0 "gives" "[I" ∈ om_tbl := om_mem (i := 184) rfl rfl
set_option maxRecDepth 100000 in
theorem wd_185 : Cond.fieldLink RX0 18 RX0 "dears" "[I" ∈ om_tbl := om_mem (i := 185) rfl rfl
set_option maxRecDepth 100000 in
theorem wd_186 : Cond.fieldLink RX0 21 RX0 "sets" "I" ∈ om_tbl := om_mem (i := 186) rfl rfl
set_option maxRecDepth 100000 in
theorem wd_187 : Cond.fieldLink RX0 25 RX0 "best" "I" ∈ om_tbl := om_mem (i := 187) rfl rfl
set_option maxRecDepth 100000 in
theorem wd_188 : Cond.laysFinal RX0 RX0 "bits" "[I" ∈ om_tbl := om_mem (i := 188) rfl rfl
set_option maxRecDepth 100000 in
theorem wd_190 : Cond.laysFinal RX0 RX0 "gives" "[I" ∈ om_tbl := om_mem (i := 190) rfl rfl
set_option maxRecDepth 100000 in
theorem wd_192 : Cond.laysFinal RX0 RX0 "dears" "[I" ∈ om_tbl := om_mem (i := 192) rfl rfl
set_option maxRecDepth 100000 in
theorem wd_194 : Cond.lays RX0 RX0 "sets" "I" ∈ om_tbl := om_mem (i := 194) rfl rfl
set_option maxRecDepth 100000 in
theorem wd_196 : Cond.lays RX0 RX0 "best" "I" ∈ om_tbl := om_mem (i := 196) rfl rfl
set_option maxRecDepth 100000 in
theorem wd_199 : Cond.classLink RX8 29 RX3 ∈ om_tbl := om_mem (i := 199) rfl rfl
set_option maxRecDepth 100000 in
theorem wd_200 : Cond.methodLink RX8 31 yX3_init ∈ om_tbl := om_mem (i := 200) rfl rfl
set_option maxRecDepth 100000 in
theorem wd_201 : Cond.classLink RX8 47 RX2 ∈ om_tbl := om_mem (i := 201) rfl rfl
set_option maxRecDepth 100000 in
theorem wd_202 : Cond.instantiable RX2 4 ∈ om_tbl := om_mem (i := 202) rfl rfl
set_option maxRecDepth 100000 in
theorem wn_203 : Cond.methodLinkNest RX8 49 yX2_init RX8 ∈ lw_tbl := List.mem_of_getElem? (i := 203) rfl
set_option maxRecDepth 100000 in
theorem wd_204 : Cond.instanceMethod yX2_init ∈ om_tbl := om_mem (i := 204) rfl rfl
set_option maxRecDepth 100000 in
theorem wd_205 : Cond.code yX2_init cX2_init 1 none ∈ om_tbl := om_mem (i := 205) rfl rfl
set_option maxRecDepth 100000 in
theorem wd_206 : Cond.methodLink RX2 3 objectInit ∈ om_tbl := om_mem (i := 206) rfl rfl
set_option maxRecDepth 100000 in
theorem wd_207 : Cond.classLink RX2 9 RX5 ∈ om_tbl := om_mem (i := 207) rfl rfl
set_option maxRecDepth 100000 in
theorem wd_208 : Cond.methodLink RX2 11 yX5_init ∈ om_tbl := om_mem (i := 208) rfl rfl
set_option maxRecDepth 100000 in
theorem wd_209 : Cond.classLink RX2 20 RX3 ∈ om_tbl := om_mem (i := 209) rfl rfl
set_option maxRecDepth 100000 in
theorem wd_210 : Cond.methodLink RX2 22 yX3_init ∈ om_tbl := om_mem (i := 210) rfl rfl
set_option maxRecDepth 100000 in
theorem wd_211 : Cond.fieldLink RX2 14 RX2 "draft" "LOilMemories$Text;" ∈ om_tbl := om_mem (i := 211) rfl rfl
set_option maxRecDepth 100000 in
theorem wd_212 : Cond.fieldLink RX8 150 RX2 "draft" "LOilMemories$Text;" ∈ om_tbl := om_mem (i := 212) rfl rfl
set_option maxRecDepth 100000 in
theorem wd_213 : Cond.fieldLink RX2 23 RX2 "bytes" "LOilMemories$Row;" ∈ om_tbl := om_mem (i := 213) rfl rfl
set_option maxRecDepth 100000 in
theorem wd_214 : Cond.fieldLink RX2 27 RX2 "use" "I" ∈ om_tbl := om_mem (i := 214) rfl rfl
set_option maxRecDepth 100000 in
theorem wd_215 : Cond.fieldLink RX2 31 RX2 "place" "I" ∈ om_tbl := om_mem (i := 215) rfl rfl
set_option maxRecDepth 100000 in
theorem wd_216 : Cond.laysFinal RX2 RX2 "draft" "LOilMemories$Text;" ∈ om_tbl := om_mem (i := 216) rfl rfl
set_option maxRecDepth 100000 in
theorem wd_218 : Cond.laysFinal RX2 RX2 "bytes" "LOilMemories$Row;" ∈ om_tbl := om_mem (i := 218) rfl rfl
set_option maxRecDepth 100000 in
theorem wd_220 : Cond.lays RX2 RX2 "use" "I" ∈ om_tbl := om_mem (i := 220) rfl rfl
set_option maxRecDepth 100000 in
theorem wd_222 : Cond.lays RX2 RX2 "place" "I" ∈ om_tbl := om_mem (i := 222) rfl rfl
set_option maxRecDepth 100000 in
theorem wd_225 : Cond.classLink RX8 54 RX7 ∈ om_tbl := om_mem (i := 225) rfl rfl
set_option maxRecDepth 100000 in
theorem wd_226 : Cond.instantiable RX7 5 ∈ om_tbl := om_mem (i := 226) rfl rfl
set_option maxRecDepth 100000 in
theorem wn_227 : Cond.methodLinkNest RX8 56 yX7_init RX8 ∈ lw_tbl := List.mem_of_getElem? (i := 227) rfl
set_option maxRecDepth 100000 in
theorem wd_228 : Cond.instanceMethod yX7_init ∈ om_tbl := om_mem (i := 228) rfl rfl
set_option maxRecDepth 100000 in
theorem wd_229 : Cond.code yX7_init cX7_init 1 none ∈ om_tbl := om_mem (i := 229) rfl rfl
set_option maxRecDepth 100000 in
theorem wd_230 : Cond.methodLink RX7 3 objectInit ∈ om_tbl := om_mem (i := 230) rfl rfl
set_option maxRecDepth 100000 in
theorem wd_231 : Cond.classLink RX7 9 RX3 ∈ om_tbl := om_mem (i := 231) rfl rfl
set_option maxRecDepth 100000 in
theorem wd_232 : Cond.methodLink RX7 11 yX3_init ∈ om_tbl := om_mem (i := 232) rfl rfl
set_option maxRecDepth 100000 in
theorem wd_233 : Cond.fieldLink RX7 14 RX7 "trace" "LOilMemories$Row;" ∈ om_tbl := om_mem (i := 233) rfl rfl
set_option maxRecDepth 100000 in
theorem wd_234 : Cond.fieldLink RX8 235 RX7 "trace" "LOilMemories$Row;" ∈ om_tbl := om_mem (i := 234) rfl rfl
set_option maxRecDepth 100000 in
theorem wd_235 : Cond.fieldLink RX7 20 RX7 "kind" "I" ∈ om_tbl := om_mem (i := 235) rfl rfl
set_option maxRecDepth 100000 in
theorem wd_236 : Cond.fieldLink RX7 24 RX7 "m" "I" ∈ om_tbl := om_mem (i := 236) rfl rfl
set_option maxRecDepth 100000 in
theorem wd_237 : Cond.fieldLink RX7 27 RX7 "k" "I" ∈ om_tbl := om_mem (i := 237) rfl rfl
set_option maxRecDepth 100000 in
theorem wd_238 : Cond.fieldLink RX7 30 RX7 "parted" "Z" ∈ om_tbl := om_mem (i := 238) rfl rfl
set_option maxRecDepth 100000 in
theorem wd_239 : Cond.fieldLink RX8 231 RX7 "parted" "Z" ∈ om_tbl := om_mem (i := 239) rfl rfl
set_option maxRecDepth 100000 in
theorem wd_240 : Cond.laysFinal RX7 RX7 "trace" "LOilMemories$Row;" ∈ om_tbl := om_mem (i := 240) rfl rfl
set_option maxRecDepth 100000 in
theorem wd_242 : Cond.lays RX7 RX7 "kind" "I" ∈ om_tbl := om_mem (i := 242) rfl rfl
set_option maxRecDepth 100000 in
theorem wd_244 : Cond.lays RX7 RX7 "m" "I" ∈ om_tbl := om_mem (i := 244) rfl rfl
set_option maxRecDepth 100000 in
theorem wd_246 : Cond.lays RX7 RX7 "k" "I" ∈ om_tbl := om_mem (i := 246) rfl rfl
set_option maxRecDepth 100000 in
theorem wd_248 : Cond.lays RX7 RX7 "parted" "Z" ∈ om_tbl := om_mem (i := 248) rfl rfl
set_option maxRecDepth 100000 in
theorem wd_251 : Cond.classLink RX8 61 RX4 ∈ om_tbl := om_mem (i := 251) rfl rfl
set_option maxRecDepth 100000 in
theorem wn_252 : Cond.arrayOver (FieldType.object "OilMemories$Sheet") ∈ lw_tbl := List.mem_of_getElem? (i := 252) rfl
set_option maxRecDepth 100000 in
theorem wd_253 : Cond.instantiable RX4 3 ∈ om_tbl := om_mem (i := 253) rfl rfl
set_option maxRecDepth 100000 in
theorem wn_254 : Cond.methodLinkNest RX8 75 yX4_init RX8 ∈ lw_tbl := List.mem_of_getElem? (i := 254) rfl
set_option maxRecDepth 100000 in
theorem wd_255 : Cond.instanceMethod yX4_init ∈ om_tbl := om_mem (i := 255) rfl rfl
set_option maxRecDepth 100000 in
theorem wd_256 : Cond.code yX4_init cX4_init 1 none ∈ om_tbl := om_mem (i := 256) rfl rfl
set_option maxRecDepth 100000 in
theorem wd_257 : Cond.methodLink RX4 3 objectInit ∈ om_tbl := om_mem (i := 257) rfl rfl
set_option maxRecDepth 100000 in
theorem wd_258 : Cond.fieldLink RX4 9 RX4 "numbers" "[I" ∈ om_tbl := om_mem (i := 258) rfl rfl
set_option maxRecDepth 100000 in
theorem wd_259 : Cond.fieldLink RX4 15 RX4 "bits" "I" ∈ om_tbl := om_mem (i := 259) rfl rfl
set_option maxRecDepth 100000 in
theorem wd_260 : Cond.fieldLink RX8 251 RX4 "bits" "I" ∈ om_tbl := om_mem (i := 260) rfl rfl
set_option maxRecDepth 100000 in
theorem wd_261 : Cond.fieldLink RX4 19 RX4 "size" "I" ∈ om_tbl := om_mem (i := 261) rfl rfl
set_option maxRecDepth 100000 in
theorem wd_262 : Cond.laysFinal RX4 RX4 "numbers" "[I" ∈ om_tbl := om_mem (i := 262) rfl rfl
set_option maxRecDepth 100000 in
theorem wd_264 : Cond.lays RX4 RX4 "bits" "I" ∈ om_tbl := om_mem (i := 264) rfl rfl
set_option maxRecDepth 100000 in
theorem wd_266 : Cond.lays RX4 RX4 "size" "I" ∈ om_tbl := om_mem (i := 266) rfl rfl
set_option maxRecDepth 100000 in
theorem wd_269 : Cond.fieldLink RX8 10 RX8 "tower" "LOilMemories$Tower;" ∈ om_tbl := om_mem (i := 269) rfl rfl
set_option maxRecDepth 100000 in
theorem wd_270 : Cond.fieldLink RX8 16 RX8 "keptTower" "LOilMemories$Tower;" ∈ om_tbl := om_mem (i := 270) rfl rfl
set_option maxRecDepth 100000 in
theorem wd_271 : Cond.fieldLink RX8 19 RX8 "thought" "LOilMemories$Tower;" ∈ om_tbl := om_mem (i := 271) rfl rfl
set_option maxRecDepth 100000 in
theorem wd_272 : Cond.fieldLink RX8 25 RX8 "choice" "LOilMemories$Choice;" ∈ om_tbl := om_mem (i := 272) rfl rfl
set_option maxRecDepth 100000 in
theorem wd_273 : Cond.fieldLink RX8 34 RX8 "tape" "LOilMemories$Row;" ∈ om_tbl := om_mem (i := 273) rfl rfl
set_option maxRecDepth 100000 in
theorem wd_274 : Cond.fieldLink RX8 38 RX8 "keptTape" "LOilMemories$Row;" ∈ om_tbl := om_mem (i := 274) rfl rfl
set_option maxRecDepth 100000 in
theorem wd_275 : Cond.fieldLink RX8 41 RX8 "waiting" "LOilMemories$Row;" ∈ om_tbl := om_mem (i := 275) rfl rfl
set_option maxRecDepth 100000 in
theorem wd_276 : Cond.fieldLink RX8 44 RX8 "keptWaiting" "LOilMemories$Row;" ∈ om_tbl := om_mem (i := 276) rfl rfl
set_option maxRecDepth 100000 in
theorem wd_277 : Cond.fieldLink RX8 50 RX8 "reader" "LOilMemories$Reader;" ∈ om_tbl := om_mem (i := 277) rfl rfl
set_option maxRecDepth 100000 in
theorem wd_278 : Cond.fieldLink RX8 57 RX8 "voices" "LOilMemories$Voices;" ∈ om_tbl := om_mem (i := 278) rfl rfl
set_option maxRecDepth 100000 in
theorem wd_279 : Cond.fieldLink RX8 63 RX8 "sheets" "[LOilMemories$Sheet;" ∈ om_tbl := om_mem (i := 279) rfl rfl
set_option maxRecDepth 100000 in
theorem wd_280 : Cond.fieldLink RX8 67 RX8 "refusals" "[I" ∈ om_tbl := om_mem (i := 280) rfl rfl
set_option maxRecDepth 100000 in
theorem wd_281 : Cond.fieldLink RX8 71 RX8 "images" "I" ∈ om_tbl := om_mem (i := 281) rfl rfl
set_option maxRecDepth 100000 in
theorem wd_282 : Cond.laysFinal RX8 RX8 "tower" "LOilMemories$Tower;" ∈ om_tbl := om_mem (i := 282) rfl rfl
set_option maxRecDepth 100000 in
theorem wd_284 : Cond.laysFinal RX8 RX8 "keptTower" "LOilMemories$Tower;" ∈ om_tbl := om_mem (i := 284) rfl rfl
set_option maxRecDepth 100000 in
theorem wd_286 : Cond.laysFinal RX8 RX8 "thought" "LOilMemories$Tower;" ∈ om_tbl := om_mem (i := 286) rfl rfl
set_option maxRecDepth 100000 in
theorem wd_288 : Cond.laysFinal RX8 RX8 "choice" "LOilMemories$Choice;" ∈ om_tbl := om_mem (i := 288) rfl rfl
set_option maxRecDepth 100000 in
theorem wd_290 : Cond.laysFinal RX8 RX8 "tape" "LOilMemories$Row;" ∈ om_tbl := om_mem (i := 290) rfl rfl
set_option maxRecDepth 100000 in
theorem wd_292 : Cond.laysFinal RX8 RX8 "keptTape" "LOilMemories$Row;" ∈ om_tbl := om_mem (i := 292) rfl rfl
set_option maxRecDepth 100000 in
theorem wd_294 : Cond.laysFinal RX8 RX8 "waiting" "LOilMemories$Row;" ∈ om_tbl := om_mem (i := 294) rfl rfl
set_option maxRecDepth 100000 in
theorem wd_296 : Cond.laysFinal RX8 RX8 "keptWaiting" "LOilMemories$Row;" ∈ om_tbl := om_mem (i := 296) rfl rfl
set_option maxRecDepth 100000 in
theorem wd_298 : Cond.laysFinal RX8 RX8 "reader" "LOilMemories$Reader;" ∈ om_tbl := om_mem (i := 298) rfl rfl
set_option maxRecDepth 100000 in
theorem wd_300 : Cond.laysFinal RX8 RX8 "voices" "LOilMemories$Voices;" ∈ om_tbl := om_mem (i := 300) rfl rfl
set_option maxRecDepth 100000 in
theorem wd_302 : Cond.laysFinal RX8 RX8 "sheets" "[LOilMemories$Sheet;" ∈ om_tbl := om_mem (i := 302) rfl rfl
set_option maxRecDepth 100000 in
theorem wd_304 : Cond.laysFinal RX8 RX8 "refusals" "[I" ∈ om_tbl := om_mem (i := 304) rfl rfl
set_option maxRecDepth 100000 in
theorem wd_306 : Cond.lays RX8 RX8 "images" "I" ∈ om_tbl := om_mem (i := 306) rfl rfl
set_option maxRecDepth 100000 in
theorem wd_309 : Cond.methodLink RL 13 yX8_memory ∈ om_tbl := om_mem (i := 309) rfl rfl
set_option maxRecDepth 100000 in
theorem wd_310 : Cond.instanceMethod yX8_memory ∈ om_tbl := om_mem (i := 310) rfl rfl
set_option maxRecDepth 100000 in
theorem wd_311 : Cond.selects RX8 yX8_memory yX8_memory ∈ om_tbl := om_mem (i := 311) rfl rfl
set_option maxRecDepth 100000 in
theorem wd_312 : Cond.code yX8_memory cX8_memory 4 (some FieldType.int) ∈ om_tbl := om_mem (i := 312) rfl rfl
set_option maxRecDepth 100000 in
theorem wd_313 : Cond.methodLink RX8 76 yX8_isKindAndNumber ∈ om_tbl := om_mem (i := 313) rfl rfl
set_option maxRecDepth 100000 in
theorem wd_314 : Cond.static yX8_isKindAndNumber ∈ om_tbl := om_mem (i := 314) rfl rfl
set_option maxRecDepth 100000 in
theorem wd_315 : Cond.code yX8_isKindAndNumber cX8_isKindAndNumber 1 (some FieldType.boolean) ∈ om_tbl := om_mem (i := 315) rfl rfl
set_option maxRecDepth 100000 in
theorem wd_316 : Cond.methodLink RX8 80 yX8_isWithin ∈ om_tbl := om_mem (i := 316) rfl rfl
set_option maxRecDepth 100000 in
theorem wd_317 : Cond.static yX8_isWithin ∈ om_tbl := om_mem (i := 317) rfl rfl
set_option maxRecDepth 100000 in
theorem wd_318 : Cond.code yX8_isWithin cX8_isWithin 3 (some FieldType.boolean) ∈ om_tbl := om_mem (i := 318) rfl rfl
set_option maxRecDepth 100000 in
theorem wd_319 : Cond.methodLink RX8 84 yX8_refuse ∈ om_tbl := om_mem (i := 319) rfl rfl
set_option maxRecDepth 100000 in
theorem wd_321 : Cond.instanceMethod yX8_refuse ∈ om_tbl := om_mem (i := 321) rfl rfl
set_option maxRecDepth 100000 in
theorem wd_322 : Cond.code yX8_refuse cX8_refuse 2 (some FieldType.int) ∈ om_tbl := om_mem (i := 322) rfl rfl
set_option maxRecDepth 100000 in
theorem wd_323 : Cond.constant RX8 269 (-1000000000) ∈ om_tbl := om_mem (i := 323) rfl rfl
set_option maxRecDepth 100000 in
theorem wd_324 : Cond.methodLink RX8 88 yX6_isFull ∈ om_tbl := om_mem (i := 324) rfl rfl
set_option maxRecDepth 100000 in
theorem wd_325 : Cond.instanceMethod yX6_isFull ∈ om_tbl := om_mem (i := 325) rfl rfl
set_option maxRecDepth 100000 in
theorem wd_326 : Cond.selects RX6 yX6_isFull yX6_isFull ∈ om_tbl := om_mem (i := 326) rfl rfl
set_option maxRecDepth 100000 in
theorem wd_327 : Cond.code yX6_isFull cX6_isFull 1 (some FieldType.boolean) ∈ om_tbl := om_mem (i := 327) rfl rfl
set_option maxRecDepth 100000 in
theorem wd_328 : Cond.methodLink RX8 92 yX6_add ∈ om_tbl := om_mem (i := 328) rfl rfl
set_option maxRecDepth 100000 in
theorem wd_329 : Cond.instanceMethod yX6_add ∈ om_tbl := om_mem (i := 329) rfl rfl
set_option maxRecDepth 100000 in
theorem wd_330 : Cond.selects RX6 yX6_add yX6_add ∈ om_tbl := om_mem (i := 330) rfl rfl
set_option maxRecDepth 100000 in
theorem wd_331 : Cond.code yX6_add cX6_add 6 (some FieldType.int) ∈ om_tbl := om_mem (i := 331) rfl rfl
set_option maxRecDepth 100000 in
theorem wd_332 : Cond.methodLink RX6 53 yX6_isFull ∈ om_tbl := om_mem (i := 332) rfl rfl
set_option maxRecDepth 100000 in
theorem wd_333 : Cond.methodLink RX6 57 yX6_at ∈ om_tbl := om_mem (i := 333) rfl rfl
set_option maxRecDepth 100000 in
theorem wd_334 : Cond.instanceMethod yX6_at ∈ om_tbl := om_mem (i := 334) rfl rfl
set_option maxRecDepth 100000 in
theorem wd_335 : Cond.selects RX6 yX6_at yX6_at ∈ om_tbl := om_mem (i := 335) rfl rfl
set_option maxRecDepth 100000 in
theorem wd_336 : Cond.code yX6_at cX6_at 2 (some (FieldType.object "OilMemories$Memory")) ∈ om_tbl := om_mem (i := 336) rfl rfl
set_option maxRecDepth 100000 in
theorem wd_337 : Cond.methodLink RL 18 yX8_memoryIs ∈ om_tbl := om_mem (i := 337) rfl rfl
set_option maxRecDepth 100000 in
theorem wd_338 : Cond.instanceMethod yX8_memoryIs ∈ om_tbl := om_mem (i := 338) rfl rfl
set_option maxRecDepth 100000 in
theorem wd_339 : Cond.selects RX8 yX8_memoryIs yX8_memoryIs ∈ om_tbl := om_mem (i := 339) rfl rfl
set_option maxRecDepth 100000 in
theorem wd_340 : Cond.code yX8_memoryIs cX8_memoryIs 4 (some FieldType.int) ∈ om_tbl := om_mem (i := 340) rfl rfl
set_option maxRecDepth 100000 in
theorem wd_341 : Cond.methodLink RX8 96 yX6_at ∈ om_tbl := om_mem (i := 341) rfl rfl
set_option maxRecDepth 100000 in
theorem wd_342 : Cond.methodLink RX8 117 yX6_light ∈ om_tbl := om_mem (i := 342) rfl rfl
set_option maxRecDepth 100000 in
theorem wd_343 : Cond.instanceMethod yX6_light ∈ om_tbl := om_mem (i := 343) rfl rfl
set_option maxRecDepth 100000 in
theorem wd_344 : Cond.selects RX6 yX6_light yX6_light ∈ om_tbl := om_mem (i := 344) rfl rfl
set_option maxRecDepth 100000 in
theorem wd_345 : Cond.code yX6_light cX6_light 2 (some FieldType.int) ∈ om_tbl := om_mem (i := 345) rfl rfl
set_option maxRecDepth 100000 in
theorem wd_346 : Cond.methodLink RX6 76 yX1_burns ∈ om_tbl := om_mem (i := 346) rfl rfl
set_option maxRecDepth 100000 in
theorem wd_347 : Cond.instanceMethod yX1_burns ∈ om_tbl := om_mem (i := 347) rfl rfl
set_option maxRecDepth 100000 in
theorem wd_348 : Cond.selects RX1 yX1_burns yX1_burns ∈ om_tbl := om_mem (i := 348) rfl rfl
set_option maxRecDepth 100000 in
theorem wd_349 : Cond.code yX1_burns cX1_burns 3 (some FieldType.int) ∈ om_tbl := om_mem (i := 349) rfl rfl
set_option maxRecDepth 100000 in
theorem wd_350 : Cond.methodLink RX1 31 yJ6_bitCount_0f7a4 ∈ om_tbl := om_mem (i := 350) rfl rfl
set_option maxRecDepth 100000 in
theorem wd_351 : Cond.static yJ6_bitCount_0f7a4 ∈ om_tbl := om_mem (i := 351) rfl rfl
set_option maxRecDepth 100000 in
theorem wd_352 : Cond.code yJ6_bitCount_0f7a4 cJ6_bitCount_0f7a4 1 (some FieldType.int) ∈ om_tbl := om_mem (i := 352) rfl rfl
set_option maxRecDepth 100000 in
theorem wd_353 : Cond.constant RJ6 265 1431655765 ∈ om_tbl := om_mem (i := 353) rfl rfl
set_option maxRecDepth 100000 in
theorem wd_354 : Cond.constant RJ6 266 858993459 ∈ om_tbl := om_mem (i := 354) rfl rfl
set_option maxRecDepth 100000 in
theorem wd_355 : Cond.constant RJ6 267 252645135 ∈ om_tbl := om_mem (i := 355) rfl rfl
set_option maxRecDepth 100000 in
theorem wd_356 : Cond.methodLink RX6 80 yJ6_bitCount_0f7a4 ∈ om_tbl := om_mem (i := 356) rfl rfl
set_option maxRecDepth 100000 in
theorem wd_357 : Cond.methodLink RX6 85 yX5_gives ∈ om_tbl := om_mem (i := 357) rfl rfl
set_option maxRecDepth 100000 in
theorem wd_358 : Cond.instanceMethod yX5_gives ∈ om_tbl := om_mem (i := 358) rfl rfl
set_option maxRecDepth 100000 in
theorem wd_359 : Cond.selects RX5 yX5_gives yX5_gives ∈ om_tbl := om_mem (i := 359) rfl rfl
set_option maxRecDepth 100000 in
theorem wd_360 : Cond.code yX5_gives cX5_gives 7 (some FieldType.int) ∈ om_tbl := om_mem (i := 360) rfl rfl
set_option maxRecDepth 100000 in
theorem wd_361 : Cond.methodLink RX5 35 yX3_size ∈ om_tbl := om_mem (i := 361) rfl rfl
set_option maxRecDepth 100000 in
theorem wd_362 : Cond.instanceMethod yX3_size ∈ om_tbl := om_mem (i := 362) rfl rfl
set_option maxRecDepth 100000 in
theorem wd_363 : Cond.selects RX3 yX3_size yX3_size ∈ om_tbl := om_mem (i := 363) rfl rfl
set_option maxRecDepth 100000 in
theorem wd_364 : Cond.code yX3_size cX3_size 1 (some FieldType.int) ∈ om_tbl := om_mem (i := 364) rfl rfl
set_option maxRecDepth 100000 in
theorem wd_365 : Cond.methodLink RX5 39 yX5_held ∈ om_tbl := om_mem (i := 365) rfl rfl
set_option maxRecDepth 100000 in
theorem wd_366 : Cond.instanceMethod yX5_held ∈ om_tbl := om_mem (i := 366) rfl rfl
set_option maxRecDepth 100000 in
theorem wd_367 : Cond.selects RX5 yX5_held yX5_held ∈ om_tbl := om_mem (i := 367) rfl rfl
set_option maxRecDepth 100000 in
theorem wd_368 : Cond.code yX5_held cX5_held 3 (some FieldType.int) ∈ om_tbl := om_mem (i := 368) rfl rfl
set_option maxRecDepth 100000 in
theorem wd_369 : Cond.methodLink RX5 43 yX3_at ∈ om_tbl := om_mem (i := 369) rfl rfl
set_option maxRecDepth 100000 in
theorem wd_370 : Cond.instanceMethod yX3_at ∈ om_tbl := om_mem (i := 370) rfl rfl
set_option maxRecDepth 100000 in
theorem wd_371 : Cond.selects RX3 yX3_at yX3_at ∈ om_tbl := om_mem (i := 371) rfl rfl
set_option maxRecDepth 100000 in
theorem wd_372 : Cond.code yX3_at cX3_at 2 (some FieldType.int) ∈ om_tbl := om_mem (i := 372) rfl rfl
set_option maxRecDepth 100000 in
theorem wd_373 : Cond.methodLink RX5 46 yX5_joined ∈ om_tbl := om_mem (i := 373) rfl rfl
set_option maxRecDepth 100000 in
theorem wd_374 : Cond.static yX5_joined ∈ om_tbl := om_mem (i := 374) rfl rfl
set_option maxRecDepth 100000 in
theorem wd_375 : Cond.code yX5_joined cX5_joined 3 (some FieldType.int) ∈ om_tbl := om_mem (i := 375) rfl rfl
set_option maxRecDepth 100000 in
theorem wd_376 : Cond.methodLink RX8 124 yX1_smoke ∈ om_tbl := om_mem (i := 376) rfl rfl
set_option maxRecDepth 100000 in
theorem wd_377 : Cond.instanceMethod yX1_smoke ∈ om_tbl := om_mem (i := 377) rfl rfl
set_option maxRecDepth 100000 in
theorem wd_378 : Cond.selects RX1 yX1_smoke yX1_smoke ∈ om_tbl := om_mem (i := 378) rfl rfl
set_option maxRecDepth 100000 in
theorem wd_379 : Cond.code yX1_smoke cX1_smoke 5 (some FieldType.int) ∈ om_tbl := om_mem (i := 379) rfl rfl
set_option maxRecDepth 100000 in
theorem wd_380 : Cond.methodLink RL 23 yX8_become ∈ om_tbl := om_mem (i := 380) rfl rfl
set_option maxRecDepth 100000 in
theorem wd_381 : Cond.instanceMethod yX8_become ∈ om_tbl := om_mem (i := 381) rfl rfl
set_option maxRecDepth 100000 in
theorem wd_382 : Cond.selects RX8 yX8_become yX8_become ∈ om_tbl := om_mem (i := 382) rfl rfl
set_option maxRecDepth 100000 in
theorem wd_383 : Cond.code yX8_become cX8_become 5 (some FieldType.int) ∈ om_tbl := om_mem (i := 383) rfl rfl
set_option maxRecDepth 100000 in
theorem wd_384 : Cond.methodLink RL 27 yX8_as ∈ om_tbl := om_mem (i := 384) rfl rfl
set_option maxRecDepth 100000 in
theorem wd_385 : Cond.instanceMethod yX8_as ∈ om_tbl := om_mem (i := 385) rfl rfl
set_option maxRecDepth 100000 in
theorem wd_386 : Cond.selects RX8 yX8_as yX8_as ∈ om_tbl := om_mem (i := 386) rfl rfl
set_option maxRecDepth 100000 in
theorem wd_387 : Cond.code yX8_as cX8_as 4 (some FieldType.int) ∈ om_tbl := om_mem (i := 387) rfl rfl
set_option maxRecDepth 100000 in
theorem wd_388 : Cond.methodLink RX8 127 yX1_isOf ∈ om_tbl := om_mem (i := 388) rfl rfl
set_option maxRecDepth 100000 in
theorem wd_389 : Cond.instanceMethod yX1_isOf ∈ om_tbl := om_mem (i := 389) rfl rfl
set_option maxRecDepth 100000 in
theorem wd_390 : Cond.selects RX1 yX1_isOf yX1_isOf ∈ om_tbl := om_mem (i := 390) rfl rfl
set_option maxRecDepth 100000 in
theorem wd_391 : Cond.code yX1_isOf cX1_isOf 4 (some FieldType.boolean) ∈ om_tbl := om_mem (i := 391) rfl rfl
set_option maxRecDepth 100000 in
theorem wn_392 : Cond.fieldLinkNest RX1 27 RX8 "KIND_ABOVE" "[I" RX8 ∈ lw_tbl := List.mem_of_getElem? (i := 392) rfl
set_option maxRecDepth 100000 in
theorem wn_393 : Cond.laysStatic RX8 "KIND_ABOVE" "[I" ∈ lw_tbl := List.mem_of_getElem? (i := 393) rfl
set_option maxRecDepth 100000 in
theorem wd_394 : Cond.methodLink RL 31 yX8_fills ∈ om_tbl := om_mem (i := 394) rfl rfl
set_option maxRecDepth 100000 in
theorem wd_395 : Cond.instanceMethod yX8_fills ∈ om_tbl := om_mem (i := 395) rfl rfl
set_option maxRecDepth 100000 in
theorem wd_396 : Cond.selects RX8 yX8_fills yX8_fills ∈ om_tbl := om_mem (i := 396) rfl rfl
set_option maxRecDepth 100000 in
theorem wd_397 : Cond.code yX8_fills cX8_fills 5 (some FieldType.int) ∈ om_tbl := om_mem (i := 397) rfl rfl
set_option maxRecDepth 100000 in
theorem wd_398 : Cond.methodLink RL 35 yX8_dear ∈ om_tbl := om_mem (i := 398) rfl rfl
set_option maxRecDepth 100000 in
theorem wd_399 : Cond.instanceMethod yX8_dear ∈ om_tbl := om_mem (i := 399) rfl rfl
set_option maxRecDepth 100000 in
theorem wd_400 : Cond.selects RX8 yX8_dear yX8_dear ∈ om_tbl := om_mem (i := 400) rfl rfl
set_option maxRecDepth 100000 in
theorem wd_401 : Cond.code yX8_dear cX8_dear 5 (some FieldType.int) ∈ om_tbl := om_mem (i := 401) rfl rfl
set_option maxRecDepth 100000 in
theorem wd_402 : Cond.methodLink RL 39 yX8_trim ∈ om_tbl := om_mem (i := 402) rfl rfl
set_option maxRecDepth 100000 in
theorem wd_403 : Cond.instanceMethod yX8_trim ∈ om_tbl := om_mem (i := 403) rfl rfl
set_option maxRecDepth 100000 in
theorem wd_404 : Cond.selects RX8 yX8_trim yX8_trim ∈ om_tbl := om_mem (i := 404) rfl rfl
set_option maxRecDepth 100000 in
theorem wd_405 : Cond.code yX8_trim cX8_trim 6 (some FieldType.int) ∈ om_tbl := om_mem (i := 405) rfl rfl
set_option maxRecDepth 100000 in
theorem wd_406 : Cond.methodLink RX8 130 yX8_isKeeper ∈ om_tbl := om_mem (i := 406) rfl rfl
set_option maxRecDepth 100000 in
theorem wd_407 : Cond.static yX8_isKeeper ∈ om_tbl := om_mem (i := 407) rfl rfl
set_option maxRecDepth 100000 in
theorem wd_408 : Cond.code yX8_isKeeper cX8_isKeeper 1 (some FieldType.boolean) ∈ om_tbl := om_mem (i := 408) rfl rfl
set_option maxRecDepth 100000 in
theorem wd_409 : Cond.methodLink RL 43 yX8_tells ∈ om_tbl := om_mem (i := 409) rfl rfl
set_option maxRecDepth 100000 in
theorem wd_410 : Cond.instanceMethod yX8_tells ∈ om_tbl := om_mem (i := 410) rfl rfl
set_option maxRecDepth 100000 in
theorem wd_411 : Cond.selects RX8 yX8_tells yX8_tells ∈ om_tbl := om_mem (i := 411) rfl rfl
set_option maxRecDepth 100000 in
theorem wd_412 : Cond.code yX8_tells cX8_tells 6 (some FieldType.int) ∈ om_tbl := om_mem (i := 412) rfl rfl
set_option maxRecDepth 100000 in
theorem wd_413 : Cond.methodLink RL 47 yX8_blows ∈ om_tbl := om_mem (i := 413) rfl rfl
set_option maxRecDepth 100000 in
theorem wd_414 : Cond.instanceMethod yX8_blows ∈ om_tbl := om_mem (i := 414) rfl rfl
set_option maxRecDepth 100000 in
theorem wd_415 : Cond.selects RX8 yX8_blows yX8_blows ∈ om_tbl := om_mem (i := 415) rfl rfl
set_option maxRecDepth 100000 in
theorem wd_416 : Cond.code yX8_blows cX8_blows 3 (some FieldType.int) ∈ om_tbl := om_mem (i := 416) rfl rfl
set_option maxRecDepth 100000 in
theorem wd_417 : Cond.methodLink RL 54 yX8_feed ∈ om_tbl := om_mem (i := 417) rfl rfl
set_option maxRecDepth 100000 in
theorem wd_418 : Cond.instanceMethod yX8_feed ∈ om_tbl := om_mem (i := 418) rfl rfl
set_option maxRecDepth 100000 in
theorem wd_419 : Cond.selects RX8 yX8_feed yX8_feed ∈ om_tbl := om_mem (i := 419) rfl rfl
set_option maxRecDepth 100000 in
theorem wd_420 : Cond.code yX8_feed cX8_feed 5 (some FieldType.int) ∈ om_tbl := om_mem (i := 420) rfl rfl
set_option maxRecDepth 100000 in
theorem wd_421 : Cond.methodLink RX8 133 yX3_size ∈ om_tbl := om_mem (i := 421) rfl rfl
set_option maxRecDepth 100000 in
theorem wd_422 : Cond.methodLink RX8 137 yX3_add ∈ om_tbl := om_mem (i := 422) rfl rfl
set_option maxRecDepth 100000 in
theorem wd_423 : Cond.instanceMethod yX3_add ∈ om_tbl := om_mem (i := 423) rfl rfl
set_option maxRecDepth 100000 in
theorem wd_424 : Cond.selects RX3 yX3_add yX3_add ∈ om_tbl := om_mem (i := 424) rfl rfl
set_option maxRecDepth 100000 in
theorem wd_425 : Cond.code yX3_add cX3_add 2 (some FieldType.boolean) ∈ om_tbl := om_mem (i := 425) rfl rfl
set_option maxRecDepth 100000 in
theorem wd_426 : Cond.methodLink RL 59 yX8_text ∈ om_tbl := om_mem (i := 426) rfl rfl
set_option maxRecDepth 100000 in
theorem wd_427 : Cond.instanceMethod yX8_text ∈ om_tbl := om_mem (i := 427) rfl rfl
set_option maxRecDepth 100000 in
theorem wd_428 : Cond.selects RX8 yX8_text yX8_text ∈ om_tbl := om_mem (i := 428) rfl rfl
set_option maxRecDepth 100000 in
theorem wd_429 : Cond.code yX8_text cX8_text 4 (some FieldType.int) ∈ om_tbl := om_mem (i := 429) rfl rfl
set_option maxRecDepth 100000 in
theorem wd_430 : Cond.methodLink RX8 139 yX6_textOf ∈ om_tbl := om_mem (i := 430) rfl rfl
set_option maxRecDepth 100000 in
theorem wd_431 : Cond.instanceMethod yX6_textOf ∈ om_tbl := om_mem (i := 431) rfl rfl
set_option maxRecDepth 100000 in
theorem wd_432 : Cond.selects RX6 yX6_textOf yX6_textOf ∈ om_tbl := om_mem (i := 432) rfl rfl
set_option maxRecDepth 100000 in
theorem wd_433 : Cond.code yX6_textOf cX6_textOf 2 (some (FieldType.object "OilMemories$Text")) ∈ om_tbl := om_mem (i := 433) rfl rfl
set_option maxRecDepth 100000 in
theorem wd_434 : Cond.methodLink RX8 143 yX2_read ∈ om_tbl := om_mem (i := 434) rfl rfl
set_option maxRecDepth 100000 in
theorem wd_435 : Cond.instanceMethod yX2_read ∈ om_tbl := om_mem (i := 435) rfl rfl
set_option maxRecDepth 100000 in
theorem wd_436 : Cond.selects RX2 yX2_read yX2_read ∈ om_tbl := om_mem (i := 436) rfl rfl
set_option maxRecDepth 100000 in
theorem wd_437 : Cond.code yX2_read cX2_read 4 (some FieldType.int) ∈ om_tbl := om_mem (i := 437) rfl rfl
set_option maxRecDepth 100000 in
theorem wd_438 : Cond.methodLink RX2 34 yX5_clear ∈ om_tbl := om_mem (i := 438) rfl rfl
set_option maxRecDepth 100000 in
theorem wd_439 : Cond.instanceMethod yX5_clear ∈ om_tbl := om_mem (i := 439) rfl rfl
set_option maxRecDepth 100000 in
theorem wd_440 : Cond.selects RX5 yX5_clear yX5_clear ∈ om_tbl := om_mem (i := 440) rfl rfl
set_option maxRecDepth 100000 in
theorem wd_441 : Cond.code yX5_clear cX5_clear 1 none ∈ om_tbl := om_mem (i := 441) rfl rfl
set_option maxRecDepth 100000 in
theorem wd_442 : Cond.methodLink RX5 28 yX3_clear ∈ om_tbl := om_mem (i := 442) rfl rfl
set_option maxRecDepth 100000 in
theorem wd_443 : Cond.instanceMethod yX3_clear ∈ om_tbl := om_mem (i := 443) rfl rfl
set_option maxRecDepth 100000 in
theorem wd_444 : Cond.selects RX3 yX3_clear yX3_clear ∈ om_tbl := om_mem (i := 444) rfl rfl
set_option maxRecDepth 100000 in
theorem wd_445 : Cond.code yX3_clear cX3_clear 1 none ∈ om_tbl := om_mem (i := 445) rfl rfl
set_option maxRecDepth 100000 in
theorem wd_446 : Cond.methodLink RX2 37 yX3_copyFrom ∈ om_tbl := om_mem (i := 446) rfl rfl
set_option maxRecDepth 100000 in
theorem wd_447 : Cond.instanceMethod yX3_copyFrom ∈ om_tbl := om_mem (i := 447) rfl rfl
set_option maxRecDepth 100000 in
theorem wd_448 : Cond.selects RX3 yX3_copyFrom yX3_copyFrom ∈ om_tbl := om_mem (i := 448) rfl rfl
set_option maxRecDepth 100000 in
theorem wd_449 : Cond.code yX3_copyFrom cX3_copyFrom 3 none ∈ om_tbl := om_mem (i := 449) rfl rfl
set_option maxRecDepth 100000 in
theorem wd_450 : Cond.methodLink RX3 17 yX3_at ∈ om_tbl := om_mem (i := 450) rfl rfl
set_option maxRecDepth 100000 in
theorem wd_451 : Cond.methodLink RX3 21 yX3_add ∈ om_tbl := om_mem (i := 451) rfl rfl
set_option maxRecDepth 100000 in
theorem wd_452 : Cond.methodLink RX2 41 yX2_readChain ∈ om_tbl := om_mem (i := 452) rfl rfl
set_option maxRecDepth 100000 in
theorem wd_454 : Cond.instanceMethod yX2_readChain ∈ om_tbl := om_mem (i := 454) rfl rfl
set_option maxRecDepth 100000 in
theorem wd_455 : Cond.code yX2_readChain cX2_readChain 6 (some FieldType.boolean) ∈ om_tbl := om_mem (i := 455) rfl rfl
set_option maxRecDepth 100000 in
theorem wd_456 : Cond.methodLink RX2 49 yX2_readUnit ∈ om_tbl := om_mem (i := 456) rfl rfl
set_option maxRecDepth 100000 in
theorem wd_458 : Cond.instanceMethod yX2_readUnit ∈ om_tbl := om_mem (i := 458) rfl rfl
set_option maxRecDepth 100000 in
theorem wd_459 : Cond.code yX2_readUnit cX2_readUnit 4 (some FieldType.boolean) ∈ om_tbl := om_mem (i := 459) rfl rfl
set_option maxRecDepth 100000 in
theorem wd_460 : Cond.methodLink RX2 53 yX2_next ∈ om_tbl := om_mem (i := 460) rfl rfl
set_option maxRecDepth 100000 in
theorem wd_461 : Cond.instanceMethod yX2_next ∈ om_tbl := om_mem (i := 461) rfl rfl
set_option maxRecDepth 100000 in
theorem wd_462 : Cond.selects RX2 yX2_next yX2_next ∈ om_tbl := om_mem (i := 462) rfl rfl
set_option maxRecDepth 100000 in
theorem wd_463 : Cond.code yX2_next cX2_next 1 (some FieldType.int) ∈ om_tbl := om_mem (i := 463) rfl rfl
set_option maxRecDepth 100000 in
theorem wd_464 : Cond.methodLink RX2 81 yX3_has ∈ om_tbl := om_mem (i := 464) rfl rfl
set_option maxRecDepth 100000 in
theorem wd_465 : Cond.instanceMethod yX3_has ∈ om_tbl := om_mem (i := 465) rfl rfl
set_option maxRecDepth 100000 in
theorem wd_466 : Cond.selects RX3 yX3_has yX3_has ∈ om_tbl := om_mem (i := 466) rfl rfl
set_option maxRecDepth 100000 in
theorem wd_467 : Cond.code yX3_has cX3_has 2 (some FieldType.boolean) ∈ om_tbl := om_mem (i := 467) rfl rfl
set_option maxRecDepth 100000 in
theorem wd_468 : Cond.methodLink RX2 84 yX3_at ∈ om_tbl := om_mem (i := 468) rfl rfl
set_option maxRecDepth 100000 in
theorem wd_469 : Cond.methodLink RX2 66 yX2_isDigit ∈ om_tbl := om_mem (i := 469) rfl rfl
set_option maxRecDepth 100000 in
theorem wd_470 : Cond.static yX2_isDigit ∈ om_tbl := om_mem (i := 470) rfl rfl
set_option maxRecDepth 100000 in
theorem wd_471 : Cond.code yX2_isDigit cX2_isDigit 1 (some FieldType.boolean) ∈ om_tbl := om_mem (i := 471) rfl rfl
set_option maxRecDepth 100000 in
theorem wd_472 : Cond.methodLink RX2 69 yX2_readNumber ∈ om_tbl := om_mem (i := 472) rfl rfl
set_option maxRecDepth 100000 in
theorem wd_474 : Cond.instanceMethod yX2_readNumber ∈ om_tbl := om_mem (i := 474) rfl rfl
set_option maxRecDepth 100000 in
theorem wd_475 : Cond.code yX2_readNumber cX2_readNumber 3 none ∈ om_tbl := om_mem (i := 475) rfl rfl
set_option maxRecDepth 100000 in
theorem wd_476 : Cond.methodLink RX2 63 yX3_add ∈ om_tbl := om_mem (i := 476) rfl rfl
set_option maxRecDepth 100000 in
theorem wd_477 : Cond.methodLink RX2 72 yX2_nameOf ∈ om_tbl := om_mem (i := 477) rfl rfl
set_option maxRecDepth 100000 in
theorem wd_478 : Cond.instanceMethod yX2_nameOf ∈ om_tbl := om_mem (i := 478) rfl rfl
set_option maxRecDepth 100000 in
theorem wd_479 : Cond.selects RX2 yX2_nameOf yX2_nameOf ∈ om_tbl := om_mem (i := 479) rfl rfl
set_option maxRecDepth 100000 in
theorem wd_480 : Cond.code yX2_nameOf cX2_nameOf 2 (some FieldType.int) ∈ om_tbl := om_mem (i := 480) rfl rfl
set_option maxRecDepth 100000 in
theorem wd_481 : Cond.methodLink RX2 75 yX2_readNot ∈ om_tbl := om_mem (i := 481) rfl rfl
set_option maxRecDepth 100000 in
theorem wd_483 : Cond.instanceMethod yX2_readNot ∈ om_tbl := om_mem (i := 483) rfl rfl
set_option maxRecDepth 100000 in
theorem wd_484 : Cond.code yX2_readNot cX2_readNot 2 (some FieldType.boolean) ∈ om_tbl := om_mem (i := 484) rfl rfl
set_option maxRecDepth 100000 in
theorem wd_485 : Cond.methodLink RX2 78 yX2_readBracketed ∈ om_tbl := om_mem (i := 485) rfl rfl
set_option maxRecDepth 100000 in
theorem wd_487 : Cond.instanceMethod yX2_readBracketed ∈ om_tbl := om_mem (i := 487) rfl rfl
set_option maxRecDepth 100000 in
theorem wd_488 : Cond.code yX2_readBracketed cX2_readBracketed 2 (some FieldType.boolean) ∈ om_tbl := om_mem (i := 488) rfl rfl
set_option maxRecDepth 100000 in
theorem wd_489 : Cond.methodLink RX2 56 yX2_levelOf ∈ om_tbl := om_mem (i := 489) rfl rfl
set_option maxRecDepth 100000 in
theorem wd_490 : Cond.static yX2_levelOf ∈ om_tbl := om_mem (i := 490) rfl rfl
set_option maxRecDepth 100000 in
theorem wd_491 : Cond.code yX2_levelOf cX2_levelOf 1 (some FieldType.int) ∈ om_tbl := om_mem (i := 491) rfl rfl
set_option maxRecDepth 100000 in
theorem wd_492 : Cond.methodLink RX2 45 yX3_size ∈ om_tbl := om_mem (i := 492) rfl rfl
set_option maxRecDepth 100000 in
theorem wd_493 : Cond.methodLink RX8 147 yX3_clear ∈ om_tbl := om_mem (i := 493) rfl rfl
set_option maxRecDepth 100000 in
theorem wd_494 : Cond.methodLink RX8 154 yX5_copyFrom ∈ om_tbl := om_mem (i := 494) rfl rfl
set_option maxRecDepth 100000 in
theorem wd_495 : Cond.instanceMethod yX5_copyFrom ∈ om_tbl := om_mem (i := 495) rfl rfl
set_option maxRecDepth 100000 in
theorem wd_496 : Cond.selects RX5 yX5_copyFrom yX5_copyFrom ∈ om_tbl := om_mem (i := 496) rfl rfl
set_option maxRecDepth 100000 in
theorem wd_497 : Cond.code yX5_copyFrom cX5_copyFrom 2 none ∈ om_tbl := om_mem (i := 497) rfl rfl
set_option maxRecDepth 100000 in
theorem wd_498 : Cond.methodLink RX5 31 yX3_copyFrom ∈ om_tbl := om_mem (i := 498) rfl rfl
set_option maxRecDepth 100000 in
theorem wd_499 : Cond.methodLink RL 63 yX8_untell ∈ om_tbl := om_mem (i := 499) rfl rfl
set_option maxRecDepth 100000 in
theorem wd_500 : Cond.instanceMethod yX8_untell ∈ om_tbl := om_mem (i := 500) rfl rfl
set_option maxRecDepth 100000 in
theorem wd_501 : Cond.selects RX8 yX8_untell yX8_untell ∈ om_tbl := om_mem (i := 501) rfl rfl
set_option maxRecDepth 100000 in
theorem wd_502 : Cond.code yX8_untell cX8_untell 4 (some FieldType.int) ∈ om_tbl := om_mem (i := 502) rfl rfl
set_option maxRecDepth 100000 in
theorem wd_503 : Cond.methodLink RX8 163 yX5_clear ∈ om_tbl := om_mem (i := 503) rfl rfl
set_option maxRecDepth 100000 in
theorem wd_504 : Cond.methodLink RL 67 yX8_law ∈ om_tbl := om_mem (i := 504) rfl rfl
set_option maxRecDepth 100000 in
theorem wd_505 : Cond.instanceMethod yX8_law ∈ om_tbl := om_mem (i := 505) rfl rfl
set_option maxRecDepth 100000 in
theorem wd_506 : Cond.selects RX8 yX8_law yX8_law ∈ om_tbl := om_mem (i := 506) rfl rfl
set_option maxRecDepth 100000 in
theorem wd_507 : Cond.code yX8_law cX8_law 6 (some FieldType.int) ∈ om_tbl := om_mem (i := 507) rfl rfl
set_option maxRecDepth 100000 in
theorem wd_508 : Cond.methodLink RX8 164 yX5_gives ∈ om_tbl := om_mem (i := 508) rfl rfl
set_option maxRecDepth 100000 in
theorem wd_509 : Cond.methodLink RL 72 yX8_nights ∈ om_tbl := om_mem (i := 509) rfl rfl
set_option maxRecDepth 100000 in
theorem wd_510 : Cond.instanceMethod yX8_nights ∈ om_tbl := om_mem (i := 510) rfl rfl
set_option maxRecDepth 100000 in
theorem wd_511 : Cond.selects RX8 yX8_nights yX8_nights ∈ om_tbl := om_mem (i := 511) rfl rfl
set_option maxRecDepth 100000 in
theorem wd_512 : Cond.code yX8_nights cX8_nights 4 (some FieldType.int) ∈ om_tbl := om_mem (i := 512) rfl rfl
set_option maxRecDepth 100000 in
theorem wd_513 : Cond.methodLink RX8 170 yX6_passNight ∈ om_tbl := om_mem (i := 513) rfl rfl
set_option maxRecDepth 100000 in
theorem wd_514 : Cond.instanceMethod yX6_passNight ∈ om_tbl := om_mem (i := 514) rfl rfl
set_option maxRecDepth 100000 in
theorem wd_515 : Cond.selects RX6 yX6_passNight yX6_passNight ∈ om_tbl := om_mem (i := 515) rfl rfl
set_option maxRecDepth 100000 in
theorem wd_516 : Cond.code yX6_passNight cX6_passNight 4 (some FieldType.boolean) ∈ om_tbl := om_mem (i := 516) rfl rfl
set_option maxRecDepth 100000 in
theorem wd_517 : Cond.methodLink RX6 100 yX0_find ∈ om_tbl := om_mem (i := 517) rfl rfl
set_option maxRecDepth 100000 in
theorem wd_518 : Cond.instanceMethod yX0_find ∈ om_tbl := om_mem (i := 518) rfl rfl
set_option maxRecDepth 100000 in
theorem wd_519 : Cond.selects RX0 yX0_find yX0_find ∈ om_tbl := om_mem (i := 519) rfl rfl
set_option maxRecDepth 100000 in
theorem wd_520 : Cond.code yX0_find cX0_find 5 (some FieldType.boolean) ∈ om_tbl := om_mem (i := 520) rfl rfl
set_option maxRecDepth 100000 in
theorem wd_521 : Cond.methodLink RX0 33 yX6_at ∈ om_tbl := om_mem (i := 521) rfl rfl
set_option maxRecDepth 100000 in
theorem wd_522 : Cond.methodLink RX0 42 yX6_gives ∈ om_tbl := om_mem (i := 522) rfl rfl
set_option maxRecDepth 100000 in
theorem wd_523 : Cond.instanceMethod yX6_gives ∈ om_tbl := om_mem (i := 523) rfl rfl
set_option maxRecDepth 100000 in
theorem wd_524 : Cond.selects RX6 yX6_gives yX6_gives ∈ om_tbl := om_mem (i := 524) rfl rfl
set_option maxRecDepth 100000 in
theorem wd_525 : Cond.code yX6_gives cX6_gives 2 (some FieldType.int) ∈ om_tbl := om_mem (i := 525) rfl rfl
set_option maxRecDepth 100000 in
theorem wd_526 : Cond.methodLink RX6 89 yX6_light ∈ om_tbl := om_mem (i := 526) rfl rfl
set_option maxRecDepth 100000 in
theorem wd_527 : Cond.methodLink RX6 93 yX1_smoke ∈ om_tbl := om_mem (i := 527) rfl rfl
set_option maxRecDepth 100000 in
theorem wd_528 : Cond.methodLink RX0 48 yX0_joinToEach ∈ om_tbl := om_mem (i := 528) rfl rfl
set_option maxRecDepth 100000 in
theorem wd_529 : Cond.instanceMethod yX0_joinToEach ∈ om_tbl := om_mem (i := 529) rfl rfl
set_option maxRecDepth 100000 in
theorem wd_530 : Cond.selects RX0 yX0_joinToEach yX0_joinToEach ∈ om_tbl := om_mem (i := 530) rfl rfl
set_option maxRecDepth 100000 in
theorem wd_531 : Cond.code yX0_joinToEach cX0_joinToEach 5 none ∈ om_tbl := om_mem (i := 531) rfl rfl
set_option maxRecDepth 100000 in
theorem wd_532 : Cond.methodLink RX0 52 yX6_wanted ∈ om_tbl := om_mem (i := 532) rfl rfl
set_option maxRecDepth 100000 in
theorem wd_533 : Cond.instanceMethod yX6_wanted ∈ om_tbl := om_mem (i := 533) rfl rfl
set_option maxRecDepth 100000 in
theorem wd_534 : Cond.selects RX6 yX6_wanted yX6_wanted ∈ om_tbl := om_mem (i := 534) rfl rfl
set_option maxRecDepth 100000 in
theorem wd_535 : Cond.code yX6_wanted cX6_wanted 1 (some FieldType.int) ∈ om_tbl := om_mem (i := 535) rfl rfl
set_option maxRecDepth 100000 in
theorem wd_536 : Cond.methodLink RX6 96 yX6_keepersWithOil ∈ om_tbl := om_mem (i := 536) rfl rfl
set_option maxRecDepth 100000 in
theorem wd_537 : Cond.instanceMethod yX6_keepersWithOil ∈ om_tbl := om_mem (i := 537) rfl rfl
set_option maxRecDepth 100000 in
theorem wd_538 : Cond.selects RX6 yX6_keepersWithOil yX6_keepersWithOil ∈ om_tbl := om_mem (i := 538) rfl rfl
set_option maxRecDepth 100000 in
theorem wd_539 : Cond.code yX6_keepersWithOil cX6_keepersWithOil 4 (some FieldType.int) ∈ om_tbl := om_mem (i := 539) rfl rfl
set_option maxRecDepth 100000 in
theorem wd_540 : Cond.methodLink RX0 56 yX0_takeLeastDear ∈ om_tbl := om_mem (i := 540) rfl rfl
set_option maxRecDepth 100000 in
theorem wd_541 : Cond.instanceMethod yX0_takeLeastDear ∈ om_tbl := om_mem (i := 541) rfl rfl
set_option maxRecDepth 100000 in
theorem wd_542 : Cond.selects RX0 yX0_takeLeastDear yX0_takeLeastDear ∈ om_tbl := om_mem (i := 542) rfl rfl
set_option maxRecDepth 100000 in
theorem wd_543 : Cond.code yX0_takeLeastDear cX0_takeLeastDear 4 none ∈ om_tbl := om_mem (i := 543) rfl rfl
set_option maxRecDepth 100000 in
theorem wd_544 : Cond.methodLink RX6 106 yX0_foundSet ∈ om_tbl := om_mem (i := 544) rfl rfl
set_option maxRecDepth 100000 in
theorem wd_545 : Cond.instanceMethod yX0_foundSet ∈ om_tbl := om_mem (i := 545) rfl rfl
set_option maxRecDepth 100000 in
theorem wd_546 : Cond.selects RX0 yX0_foundSet yX0_foundSet ∈ om_tbl := om_mem (i := 546) rfl rfl
set_option maxRecDepth 100000 in
theorem wd_547 : Cond.code yX0_foundSet cX0_foundSet 1 (some FieldType.int) ∈ om_tbl := om_mem (i := 547) rfl rfl
set_option maxRecDepth 100000 in
theorem wd_548 : Cond.methodLink RX6 109 yX6_burn ∈ om_tbl := om_mem (i := 548) rfl rfl
set_option maxRecDepth 100000 in
theorem wd_549 : Cond.instanceMethod yX6_burn ∈ om_tbl := om_mem (i := 549) rfl rfl
set_option maxRecDepth 100000 in
theorem wd_550 : Cond.selects RX6 yX6_burn yX6_burn ∈ om_tbl := om_mem (i := 550) rfl rfl
set_option maxRecDepth 100000 in
theorem wd_551 : Cond.code yX6_burn cX6_burn 4 none ∈ om_tbl := om_mem (i := 551) rfl rfl
set_option maxRecDepth 100000 in
theorem wd_552 : Cond.methodLink RX6 112 yJ9_min_7cf53 ∈ om_tbl := om_mem (i := 552) rfl rfl
set_option maxRecDepth 100000 in
theorem wd_553 : Cond.static yJ9_min_7cf53 ∈ om_tbl := om_mem (i := 553) rfl rfl
set_option maxRecDepth 100000 in
theorem wd_554 : Cond.code yJ9_min_7cf53 cJ9_min_7cf53 2 (some FieldType.int) ∈ om_tbl := om_mem (i := 554) rfl rfl
set_option maxRecDepth 100000 in
theorem wd_555 : Cond.methodLink RL 76 yX8_loose ∈ om_tbl := om_mem (i := 555) rfl rfl
set_option maxRecDepth 100000 in
theorem wd_556 : Cond.instanceMethod yX8_loose ∈ om_tbl := om_mem (i := 556) rfl rfl
set_option maxRecDepth 100000 in
theorem wd_557 : Cond.selects RX8 yX8_loose yX8_loose ∈ om_tbl := om_mem (i := 557) rfl rfl
set_option maxRecDepth 100000 in
theorem wd_558 : Cond.code yX8_loose cX8_loose 4 (some FieldType.int) ∈ om_tbl := om_mem (i := 558) rfl rfl
set_option maxRecDepth 100000 in
theorem wd_559 : Cond.methodLink RX8 174 yX6_drawTheDay ∈ om_tbl := om_mem (i := 559) rfl rfl
set_option maxRecDepth 100000 in
theorem wd_560 : Cond.instanceMethod yX6_drawTheDay ∈ om_tbl := om_mem (i := 560) rfl rfl
set_option maxRecDepth 100000 in
theorem wd_561 : Cond.selects RX6 yX6_drawTheDay yX6_drawTheDay ∈ om_tbl := om_mem (i := 561) rfl rfl
set_option maxRecDepth 100000 in
theorem wd_562 : Cond.code yX6_drawTheDay cX6_drawTheDay 3 none ∈ om_tbl := om_mem (i := 562) rfl rfl
set_option maxRecDepth 100000 in
theorem wd_563 : Cond.methodLink RX6 118 yX6_draw ∈ om_tbl := om_mem (i := 563) rfl rfl
set_option maxRecDepth 100000 in
theorem wd_564 : Cond.instanceMethod yX6_draw ∈ om_tbl := om_mem (i := 564) rfl rfl
set_option maxRecDepth 100000 in
theorem wd_565 : Cond.selects RX6 yX6_draw yX6_draw ∈ om_tbl := om_mem (i := 565) rfl rfl
set_option maxRecDepth 100000 in
theorem wd_566 : Cond.code yX6_draw cX6_draw 1 (some FieldType.int) ∈ om_tbl := om_mem (i := 566) rfl rfl
set_option maxRecDepth 100000 in
theorem wd_567 : Cond.constant RX6 121 1103515245 ∈ om_tbl := om_mem (i := 567) rfl rfl
set_option maxRecDepth 100000 in
theorem wd_568 : Cond.methodLink RL 80 yX8_seed ∈ om_tbl := om_mem (i := 568) rfl rfl
set_option maxRecDepth 100000 in
theorem wd_569 : Cond.instanceMethod yX8_seed ∈ om_tbl := om_mem (i := 569) rfl rfl
set_option maxRecDepth 100000 in
theorem wd_570 : Cond.selects RX8 yX8_seed yX8_seed ∈ om_tbl := om_mem (i := 570) rfl rfl
set_option maxRecDepth 100000 in
theorem wd_571 : Cond.code yX8_seed cX8_seed 3 (some FieldType.int) ∈ om_tbl := om_mem (i := 571) rfl rfl
set_option maxRecDepth 100000 in
theorem wd_572 : Cond.methodLink RL 84 yX8_tonight ∈ om_tbl := om_mem (i := 572) rfl rfl
set_option maxRecDepth 100000 in
theorem wd_573 : Cond.instanceMethod yX8_tonight ∈ om_tbl := om_mem (i := 573) rfl rfl
set_option maxRecDepth 100000 in
theorem wd_574 : Cond.selects RX8 yX8_tonight yX8_tonight ∈ om_tbl := om_mem (i := 574) rfl rfl
set_option maxRecDepth 100000 in
theorem wd_575 : Cond.code yX8_tonight cX8_tonight 2 (some FieldType.int) ∈ om_tbl := om_mem (i := 575) rfl rfl
set_option maxRecDepth 100000 in
theorem wd_576 : Cond.methodLink RX8 180 yX6_wanted ∈ om_tbl := om_mem (i := 576) rfl rfl
set_option maxRecDepth 100000 in
theorem wd_577 : Cond.methodLink RX8 183 yX0_find ∈ om_tbl := om_mem (i := 577) rfl rfl
set_option maxRecDepth 100000 in
theorem wd_578 : Cond.methodLink RX8 187 yX0_foundSet ∈ om_tbl := om_mem (i := 578) rfl rfl
set_option maxRecDepth 100000 in
theorem wd_579 : Cond.methodLink RX8 190 yX0_foundDear ∈ om_tbl := om_mem (i := 579) rfl rfl
set_option maxRecDepth 100000 in
theorem wd_580 : Cond.instanceMethod yX0_foundDear ∈ om_tbl := om_mem (i := 580) rfl rfl
set_option maxRecDepth 100000 in
theorem wd_581 : Cond.selects RX0 yX0_foundDear yX0_foundDear ∈ om_tbl := om_mem (i := 581) rfl rfl
set_option maxRecDepth 100000 in
theorem wd_582 : Cond.code yX0_foundDear cX0_foundDear 1 (some FieldType.int) ∈ om_tbl := om_mem (i := 582) rfl rfl
set_option maxRecDepth 100000 in
theorem wd_583 : Cond.methodLink RX8 193 yX0_foundGives ∈ om_tbl := om_mem (i := 583) rfl rfl
set_option maxRecDepth 100000 in
theorem wd_584 : Cond.instanceMethod yX0_foundGives ∈ om_tbl := om_mem (i := 584) rfl rfl
set_option maxRecDepth 100000 in
theorem wd_585 : Cond.selects RX0 yX0_foundGives yX0_foundGives ∈ om_tbl := om_mem (i := 585) rfl rfl
set_option maxRecDepth 100000 in
theorem wd_586 : Cond.code yX0_foundGives cX0_foundGives 1 (some FieldType.int) ∈ om_tbl := om_mem (i := 586) rfl rfl
set_option maxRecDepth 100000 in
theorem wd_587 : Cond.methodLink RL 88 yX8_lasts ∈ om_tbl := om_mem (i := 587) rfl rfl
set_option maxRecDepth 100000 in
theorem wd_588 : Cond.instanceMethod yX8_lasts ∈ om_tbl := om_mem (i := 588) rfl rfl
set_option maxRecDepth 100000 in
theorem wd_589 : Cond.selects RX8 yX8_lasts yX8_lasts ∈ om_tbl := om_mem (i := 589) rfl rfl
set_option maxRecDepth 100000 in
theorem wd_590 : Cond.code yX8_lasts cX8_lasts 1 (some FieldType.int) ∈ om_tbl := om_mem (i := 590) rfl rfl
set_option maxRecDepth 100000 in
theorem wd_591 : Cond.methodLink RX8 196 yX8_litNightsAhead ∈ om_tbl := om_mem (i := 591) rfl rfl
set_option maxRecDepth 100000 in
theorem wd_593 : Cond.instanceMethod yX8_litNightsAhead ∈ om_tbl := om_mem (i := 593) rfl rfl
set_option maxRecDepth 100000 in
theorem wd_594 : Cond.code yX8_litNightsAhead cX8_litNightsAhead 3 (some FieldType.int) ∈ om_tbl := om_mem (i := 594) rfl rfl
set_option maxRecDepth 100000 in
theorem wd_595 : Cond.methodLink RX8 199 yX6_copyFrom ∈ om_tbl := om_mem (i := 595) rfl rfl
set_option maxRecDepth 100000 in
theorem wd_596 : Cond.instanceMethod yX6_copyFrom ∈ om_tbl := om_mem (i := 596) rfl rfl
set_option maxRecDepth 100000 in
theorem wd_597 : Cond.selects RX6 yX6_copyFrom yX6_copyFrom ∈ om_tbl := om_mem (i := 597) rfl rfl
set_option maxRecDepth 100000 in
theorem wd_598 : Cond.code yX6_copyFrom cX6_copyFrom 5 none ∈ om_tbl := om_mem (i := 598) rfl rfl
set_option maxRecDepth 100000 in
theorem wd_599 : Cond.methodLink RX6 46 yX1_copyFrom ∈ om_tbl := om_mem (i := 599) rfl rfl
set_option maxRecDepth 100000 in
theorem wd_600 : Cond.instanceMethod yX1_copyFrom ∈ om_tbl := om_mem (i := 600) rfl rfl
set_option maxRecDepth 100000 in
theorem wd_601 : Cond.selects RX1 yX1_copyFrom yX1_copyFrom ∈ om_tbl := om_mem (i := 601) rfl rfl
set_option maxRecDepth 100000 in
theorem wd_602 : Cond.code yX1_copyFrom cX1_copyFrom 2 none ∈ om_tbl := om_mem (i := 602) rfl rfl
set_option maxRecDepth 100000 in
theorem wd_603 : Cond.methodLink RX6 50 yX5_copyFrom ∈ om_tbl := om_mem (i := 603) rfl rfl
set_option maxRecDepth 100000 in
theorem wd_604 : Cond.methodLink RL 93 yX8_without ∈ om_tbl := om_mem (i := 604) rfl rfl
set_option maxRecDepth 100000 in
theorem wd_605 : Cond.instanceMethod yX8_without ∈ om_tbl := om_mem (i := 605) rfl rfl
set_option maxRecDepth 100000 in
theorem wd_606 : Cond.selects RX8 yX8_without yX8_without ∈ om_tbl := om_mem (i := 606) rfl rfl
set_option maxRecDepth 100000 in
theorem wd_607 : Cond.code yX8_without cX8_without 2 (some FieldType.int) ∈ om_tbl := om_mem (i := 607) rfl rfl
set_option maxRecDepth 100000 in
theorem wd_608 : Cond.methodLink RL 97 yX8_then ∈ om_tbl := om_mem (i := 608) rfl rfl
set_option maxRecDepth 100000 in
theorem wd_609 : Cond.instanceMethod yX8_then ∈ om_tbl := om_mem (i := 609) rfl rfl
set_option maxRecDepth 100000 in
theorem wd_610 : Cond.selects RX8 yX8_then yX8_then ∈ om_tbl := om_mem (i := 610) rfl rfl
set_option maxRecDepth 100000 in
theorem wd_611 : Cond.code yX8_then cX8_then 4 (some FieldType.int) ∈ om_tbl := om_mem (i := 611) rfl rfl
set_option maxRecDepth 100000 in
theorem wd_612 : Cond.methodLink RL 101 yX8_has ∈ om_tbl := om_mem (i := 612) rfl rfl
set_option maxRecDepth 100000 in
theorem wd_613 : Cond.instanceMethod yX8_has ∈ om_tbl := om_mem (i := 613) rfl rfl
set_option maxRecDepth 100000 in
theorem wd_614 : Cond.selects RX8 yX8_has yX8_has ∈ om_tbl := om_mem (i := 614) rfl rfl
set_option maxRecDepth 100000 in
theorem wd_615 : Cond.code yX8_has cX8_has 6 (some FieldType.int) ∈ om_tbl := om_mem (i := 615) rfl rfl
set_option maxRecDepth 100000 in
theorem wd_616 : Cond.methodLink RX8 205 yJ6_bitCount_0f7a4 ∈ om_tbl := om_mem (i := 616) rfl rfl
set_option maxRecDepth 100000 in
theorem wd_617 : Cond.methodLink RL 105 yX8_mixes ∈ om_tbl := om_mem (i := 617) rfl rfl
set_option maxRecDepth 100000 in
theorem wd_618 : Cond.instanceMethod yX8_mixes ∈ om_tbl := om_mem (i := 618) rfl rfl
set_option maxRecDepth 100000 in
theorem wd_619 : Cond.selects RX8 yX8_mixes yX8_mixes ∈ om_tbl := om_mem (i := 619) rfl rfl
set_option maxRecDepth 100000 in
theorem wd_620 : Cond.code yX8_mixes cX8_mixes 8 (some FieldType.int) ∈ om_tbl := om_mem (i := 620) rfl rfl
set_option maxRecDepth 100000 in
theorem wd_621 : Cond.methodLink RX8 210 yX6_gives ∈ om_tbl := om_mem (i := 621) rfl rfl
set_option maxRecDepth 100000 in
theorem wd_622 : Cond.methodLink RL 109 yX8_odds ∈ om_tbl := om_mem (i := 622) rfl rfl
set_option maxRecDepth 100000 in
theorem wd_623 : Cond.instanceMethod yX8_odds ∈ om_tbl := om_mem (i := 623) rfl rfl
set_option maxRecDepth 100000 in
theorem wd_624 : Cond.selects RX8 yX8_odds yX8_odds ∈ om_tbl := om_mem (i := 624) rfl rfl
set_option maxRecDepth 100000 in
theorem wd_625 : Cond.code yX8_odds cX8_odds 4 (some FieldType.int) ∈ om_tbl := om_mem (i := 625) rfl rfl
set_option maxRecDepth 100000 in
theorem wd_626 : Cond.methodLink RX8 212 yX8_inLowestTerms ∈ om_tbl := om_mem (i := 626) rfl rfl
set_option maxRecDepth 100000 in
theorem wd_627 : Cond.static yX8_inLowestTerms ∈ om_tbl := om_mem (i := 627) rfl rfl
set_option maxRecDepth 100000 in
theorem wd_628 : Cond.code yX8_inLowestTerms cX8_inLowestTerms 3 (some FieldType.int) ∈ om_tbl := om_mem (i := 628) rfl rfl
set_option maxRecDepth 100000 in
theorem wd_629 : Cond.methodLink RL 113 yX8_fits ∈ om_tbl := om_mem (i := 629) rfl rfl
set_option maxRecDepth 100000 in
theorem wd_630 : Cond.instanceMethod yX8_fits ∈ om_tbl := om_mem (i := 630) rfl rfl
set_option maxRecDepth 100000 in
theorem wd_631 : Cond.selects RX8 yX8_fits yX8_fits ∈ om_tbl := om_mem (i := 631) rfl rfl
set_option maxRecDepth 100000 in
theorem wd_632 : Cond.code yX8_fits cX8_fits 4 (some FieldType.int) ∈ om_tbl := om_mem (i := 632) rfl rfl
set_option maxRecDepth 100000 in
theorem wd_633 : Cond.methodLink RX8 216 yX8_sheetAt ∈ om_tbl := om_mem (i := 633) rfl rfl
set_option maxRecDepth 100000 in
theorem wd_635 : Cond.instanceMethod yX8_sheetAt ∈ om_tbl := om_mem (i := 635) rfl rfl
set_option maxRecDepth 100000 in
theorem wd_636 : Cond.code yX8_sheetAt cX8_sheetAt 2 (some (FieldType.object "OilMemories$Sheet")) ∈ om_tbl := om_mem (i := 636) rfl rfl
set_option maxRecDepth 100000 in
theorem wd_637 : Cond.methodLink RX8 220 yX4_isMissing ∈ om_tbl := om_mem (i := 637) rfl rfl
set_option maxRecDepth 100000 in
theorem wd_638 : Cond.instanceMethod yX4_isMissing ∈ om_tbl := om_mem (i := 638) rfl rfl
set_option maxRecDepth 100000 in
theorem wd_639 : Cond.selects RX4 yX4_isMissing yX4_isMissing ∈ om_tbl := om_mem (i := 639) rfl rfl
set_option maxRecDepth 100000 in
theorem wd_640 : Cond.code yX4_isMissing cX4_isMissing 1 (some FieldType.boolean) ∈ om_tbl := om_mem (i := 640) rfl rfl
set_option maxRecDepth 100000 in
theorem wd_641 : Cond.methodLink RX8 223 yX8_tellsWhatIsLeft ∈ om_tbl := om_mem (i := 641) rfl rfl
set_option maxRecDepth 100000 in
theorem wd_642 : Cond.static yX8_tellsWhatIsLeft ∈ om_tbl := om_mem (i := 642) rfl rfl
set_option maxRecDepth 100000 in
theorem wd_643 : Cond.code yX8_tellsWhatIsLeft cX8_tellsWhatIsLeft 4 (some FieldType.boolean) ∈ om_tbl := om_mem (i := 643) rfl rfl
set_option maxRecDepth 100000 in
theorem wd_644 : Cond.methodLink RX8 247 yX4_has ∈ om_tbl := om_mem (i := 644) rfl rfl
set_option maxRecDepth 100000 in
theorem wd_645 : Cond.instanceMethod yX4_has ∈ om_tbl := om_mem (i := 645) rfl rfl
set_option maxRecDepth 100000 in
theorem wd_646 : Cond.selects RX4 yX4_has yX4_has ∈ om_tbl := om_mem (i := 646) rfl rfl
set_option maxRecDepth 100000 in
theorem wd_647 : Cond.code yX4_has cX4_has 2 (some FieldType.boolean) ∈ om_tbl := om_mem (i := 647) rfl rfl
set_option maxRecDepth 100000 in
theorem wd_648 : Cond.methodLink RX8 262 yX4_at ∈ om_tbl := om_mem (i := 648) rfl rfl
set_option maxRecDepth 100000 in
theorem wd_649 : Cond.instanceMethod yX4_at ∈ om_tbl := om_mem (i := 649) rfl rfl
set_option maxRecDepth 100000 in
theorem wd_650 : Cond.selects RX4 yX4_at yX4_at ∈ om_tbl := om_mem (i := 650) rfl rfl
set_option maxRecDepth 100000 in
theorem wd_651 : Cond.code yX4_at cX4_at 2 (some FieldType.int) ∈ om_tbl := om_mem (i := 651) rfl rfl
set_option maxRecDepth 100000 in
theorem wd_652 : Cond.methodLink RX4 22 yX4_has ∈ om_tbl := om_mem (i := 652) rfl rfl
set_option maxRecDepth 100000 in
theorem wd_653 : Cond.methodLink RL 117 yX8_voice ∈ om_tbl := om_mem (i := 653) rfl rfl
set_option maxRecDepth 100000 in
theorem wd_654 : Cond.instanceMethod yX8_voice ∈ om_tbl := om_mem (i := 654) rfl rfl
set_option maxRecDepth 100000 in
theorem wd_655 : Cond.selects RX8 yX8_voice yX8_voice ∈ om_tbl := om_mem (i := 655) rfl rfl
set_option maxRecDepth 100000 in
theorem wd_656 : Cond.code yX8_voice cX8_voice 6 (some FieldType.int) ∈ om_tbl := om_mem (i := 656) rfl rfl
set_option maxRecDepth 100000 in
theorem wd_657 : Cond.methodLink RX8 227 yX7_speak ∈ om_tbl := om_mem (i := 657) rfl rfl
set_option maxRecDepth 100000 in
theorem wd_658 : Cond.instanceMethod yX7_speak ∈ om_tbl := om_mem (i := 658) rfl rfl
set_option maxRecDepth 100000 in
theorem wd_659 : Cond.selects RX7 yX7_speak yX7_speak ∈ om_tbl := om_mem (i := 659) rfl rfl
set_option maxRecDepth 100000 in
theorem wd_660 : Cond.code yX7_speak cX7_speak 5 (some FieldType.int) ∈ om_tbl := om_mem (i := 660) rfl rfl
set_option maxRecDepth 100000 in
theorem wd_661 : Cond.methodLink RX7 34 yX3_clear ∈ om_tbl := om_mem (i := 661) rfl rfl
set_option maxRecDepth 100000 in
theorem wd_662 : Cond.methodLink RX7 43 yX7_glow ∈ om_tbl := om_mem (i := 662) rfl rfl
set_option maxRecDepth 100000 in
theorem wd_663 : Cond.instanceMethod yX7_glow ∈ om_tbl := om_mem (i := 663) rfl rfl
set_option maxRecDepth 100000 in
theorem wd_664 : Cond.selects RX7 yX7_glow yX7_glow ∈ om_tbl := om_mem (i := 664) rfl rfl
set_option maxRecDepth 100000 in
theorem wd_665 : Cond.code yX7_glow cX7_glow 2 (some FieldType.int) ∈ om_tbl := om_mem (i := 665) rfl rfl
set_option maxRecDepth 100000 in
theorem wd_666 : Cond.methodLink RX7 56 yX3_add ∈ om_tbl := om_mem (i := 666) rfl rfl
set_option maxRecDepth 100000 in
theorem wd_667 : Cond.methodLink RX7 47 yX7_turn ∈ om_tbl := om_mem (i := 667) rfl rfl
set_option maxRecDepth 100000 in
theorem wd_668 : Cond.instanceMethod yX7_turn ∈ om_tbl := om_mem (i := 668) rfl rfl
set_option maxRecDepth 100000 in
theorem wd_669 : Cond.selects RX7 yX7_turn yX7_turn ∈ om_tbl := om_mem (i := 669) rfl rfl
set_option maxRecDepth 100000 in
theorem wd_670 : Cond.code yX7_turn cX7_turn 2 (some FieldType.int) ∈ om_tbl := om_mem (i := 670) rfl rfl
set_option maxRecDepth 100000 in
theorem wd_671 : Cond.methodLink RX7 60 yX7_turnAsEvening ∈ om_tbl := om_mem (i := 671) rfl rfl
set_option maxRecDepth 100000 in
theorem wd_672 : Cond.instanceMethod yX7_turnAsEvening ∈ om_tbl := om_mem (i := 672) rfl rfl
set_option maxRecDepth 100000 in
theorem wd_673 : Cond.selects RX7 yX7_turnAsEvening yX7_turnAsEvening ∈ om_tbl := om_mem (i := 673) rfl rfl
set_option maxRecDepth 100000 in
theorem wd_674 : Cond.code yX7_turnAsEvening cX7_turnAsEvening 2 (some FieldType.int) ∈ om_tbl := om_mem (i := 674) rfl rfl
set_option maxRecDepth 100000 in
theorem wd_675 : Cond.methodLink RX7 50 yX7_gutter ∈ om_tbl := om_mem (i := 675) rfl rfl
set_option maxRecDepth 100000 in
theorem wd_676 : Cond.instanceMethod yX7_gutter ∈ om_tbl := om_mem (i := 676) rfl rfl
set_option maxRecDepth 100000 in
theorem wd_677 : Cond.selects RX7 yX7_gutter yX7_gutter ∈ om_tbl := om_mem (i := 677) rfl rfl
set_option maxRecDepth 100000 in
theorem wd_678 : Cond.code yX7_gutter cX7_gutter 2 (some FieldType.int) ∈ om_tbl := om_mem (i := 678) rfl rfl
set_option maxRecDepth 100000 in
theorem wd_679 : Cond.methodLink RX7 63 yX7_gutterAsEvening ∈ om_tbl := om_mem (i := 679) rfl rfl
set_option maxRecDepth 100000 in
theorem wd_680 : Cond.instanceMethod yX7_gutterAsEvening ∈ om_tbl := om_mem (i := 680) rfl rfl
set_option maxRecDepth 100000 in
theorem wd_681 : Cond.selects RX7 yX7_gutterAsEvening yX7_gutterAsEvening ∈ om_tbl := om_mem (i := 681) rfl rfl
set_option maxRecDepth 100000 in
theorem wd_682 : Cond.code yX7_gutterAsEvening cX7_gutterAsEvening 2 (some FieldType.int) ∈ om_tbl := om_mem (i := 682) rfl rfl
set_option maxRecDepth 100000 in
theorem wd_683 : Cond.methodLink RX7 53 yX7_part ∈ om_tbl := om_mem (i := 683) rfl rfl
set_option maxRecDepth 100000 in
theorem wd_684 : Cond.instanceMethod yX7_part ∈ om_tbl := om_mem (i := 684) rfl rfl
set_option maxRecDepth 100000 in
theorem wd_685 : Cond.selects RX7 yX7_part yX7_part ∈ om_tbl := om_mem (i := 685) rfl rfl
set_option maxRecDepth 100000 in
theorem wd_686 : Cond.code yX7_part cX7_part 4 (some FieldType.int) ∈ om_tbl := om_mem (i := 686) rfl rfl
set_option maxRecDepth 100000 in
theorem wd_687 : Cond.methodLink RL 121 yX8_body ∈ om_tbl := om_mem (i := 687) rfl rfl
set_option maxRecDepth 100000 in
theorem wd_688 : Cond.instanceMethod yX8_body ∈ om_tbl := om_mem (i := 688) rfl rfl
set_option maxRecDepth 100000 in
theorem wd_689 : Cond.selects RX8 yX8_body yX8_body ∈ om_tbl := om_mem (i := 689) rfl rfl
set_option maxRecDepth 100000 in
theorem wd_690 : Cond.code yX8_body cX8_body 2 (some FieldType.int) ∈ om_tbl := om_mem (i := 690) rfl rfl
set_option maxRecDepth 100000 in
theorem wd_691 : Cond.methodLink RX8 238 yX3_has ∈ om_tbl := om_mem (i := 691) rfl rfl
set_option maxRecDepth 100000 in
theorem wd_692 : Cond.methodLink RX8 241 yX3_at ∈ om_tbl := om_mem (i := 692) rfl rfl
set_option maxRecDepth 100000 in
theorem wd_693 : Cond.methodLink RL 125 yX8_sheet ∈ om_tbl := om_mem (i := 693) rfl rfl
set_option maxRecDepth 100000 in
theorem wd_694 : Cond.instanceMethod yX8_sheet ∈ om_tbl := om_mem (i := 694) rfl rfl
set_option maxRecDepth 100000 in
theorem wd_695 : Cond.selects RX8 yX8_sheet yX8_sheet ∈ om_tbl := om_mem (i := 695) rfl rfl
set_option maxRecDepth 100000 in
theorem wd_696 : Cond.code yX8_sheet cX8_sheet 5 (some FieldType.int) ∈ om_tbl := om_mem (i := 696) rfl rfl
set_option maxRecDepth 100000 in
theorem wd_697 : Cond.methodLink RX8 243 yX4_remake ∈ om_tbl := om_mem (i := 697) rfl rfl
set_option maxRecDepth 100000 in
theorem wd_698 : Cond.instanceMethod yX4_remake ∈ om_tbl := om_mem (i := 698) rfl rfl
set_option maxRecDepth 100000 in
theorem wd_699 : Cond.selects RX4 yX4_remake yX4_remake ∈ om_tbl := om_mem (i := 699) rfl rfl
set_option maxRecDepth 100000 in
theorem wd_700 : Cond.code yX4_remake cX4_remake 4 none ∈ om_tbl := om_mem (i := 700) rfl rfl
set_option maxRecDepth 100000 in
theorem wd_701 : Cond.methodLink RL 129 yX8_put ∈ om_tbl := om_mem (i := 701) rfl rfl
set_option maxRecDepth 100000 in
theorem wd_702 : Cond.instanceMethod yX8_put ∈ om_tbl := om_mem (i := 702) rfl rfl
set_option maxRecDepth 100000 in
theorem wd_703 : Cond.selects RX8 yX8_put yX8_put ∈ om_tbl := om_mem (i := 703) rfl rfl
set_option maxRecDepth 100000 in
theorem wd_704 : Cond.code yX8_put cX8_put 5 (some FieldType.int) ∈ om_tbl := om_mem (i := 704) rfl rfl
set_option maxRecDepth 100000 in
theorem wd_705 : Cond.methodLink RX8 248 yX4_write ∈ om_tbl := om_mem (i := 705) rfl rfl
set_option maxRecDepth 100000 in
theorem wd_706 : Cond.instanceMethod yX4_write ∈ om_tbl := om_mem (i := 706) rfl rfl
set_option maxRecDepth 100000 in
theorem wd_707 : Cond.selects RX4 yX4_write yX4_write ∈ om_tbl := om_mem (i := 707) rfl rfl
set_option maxRecDepth 100000 in
theorem wd_708 : Cond.code yX4_write cX4_write 3 none ∈ om_tbl := om_mem (i := 708) rfl rfl
set_option maxRecDepth 100000 in
theorem wd_709 : Cond.methodLink RL 133 yX8_move ∈ om_tbl := om_mem (i := 709) rfl rfl
set_option maxRecDepth 100000 in
theorem wd_710 : Cond.instanceMethod yX8_move ∈ om_tbl := om_mem (i := 710) rfl rfl
set_option maxRecDepth 100000 in
theorem wd_711 : Cond.selects RX8 yX8_move yX8_move ∈ om_tbl := om_mem (i := 711) rfl rfl
set_option maxRecDepth 100000 in
theorem wd_712 : Cond.code yX8_move cX8_move 8 (some FieldType.int) ∈ om_tbl := om_mem (i := 712) rfl rfl
set_option maxRecDepth 100000 in
theorem wd_713 : Cond.methodLink RX8 254 yX4_hasRun ∈ om_tbl := om_mem (i := 713) rfl rfl
set_option maxRecDepth 100000 in
theorem wd_714 : Cond.instanceMethod yX4_hasRun ∈ om_tbl := om_mem (i := 714) rfl rfl
set_option maxRecDepth 100000 in
theorem wd_715 : Cond.selects RX4 yX4_hasRun yX4_hasRun ∈ om_tbl := om_mem (i := 715) rfl rfl
set_option maxRecDepth 100000 in
theorem wd_716 : Cond.code yX4_hasRun cX4_hasRun 3 (some FieldType.boolean) ∈ om_tbl := om_mem (i := 716) rfl rfl
set_option maxRecDepth 100000 in
theorem wd_717 : Cond.methodLink RX8 258 yX4_take ∈ om_tbl := om_mem (i := 717) rfl rfl
set_option maxRecDepth 100000 in
theorem wd_718 : Cond.instanceMethod yX4_take ∈ om_tbl := om_mem (i := 718) rfl rfl
set_option maxRecDepth 100000 in
theorem wd_719 : Cond.selects RX4 yX4_take yX4_take ∈ om_tbl := om_mem (i := 719) rfl rfl
set_option maxRecDepth 100000 in
theorem wd_720 : Cond.code yX4_take cX4_take 7 none ∈ om_tbl := om_mem (i := 720) rfl rfl
set_option maxRecDepth 100000 in
theorem wd_721 : Cond.methodLink RX4 26 yX4_at ∈ om_tbl := om_mem (i := 721) rfl rfl
set_option maxRecDepth 100000 in
theorem wd_722 : Cond.methodLink RX4 30 yX4_write ∈ om_tbl := om_mem (i := 722) rfl rfl
set_option maxRecDepth 100000 in
theorem wd_723 : Cond.methodLink RL 138 yX8_dears ∈ om_tbl := om_mem (i := 723) rfl rfl
set_option maxRecDepth 100000 in
theorem wd_724 : Cond.instanceMethod yX8_dears ∈ om_tbl := om_mem (i := 724) rfl rfl
set_option maxRecDepth 100000 in
theorem wd_725 : Cond.selects RX8 yX8_dears yX8_dears ∈ om_tbl := om_mem (i := 725) rfl rfl
set_option maxRecDepth 100000 in
theorem wd_726 : Cond.code yX8_dears cX8_dears 5 (some FieldType.int) ∈ om_tbl := om_mem (i := 726) rfl rfl
set_option maxRecDepth 100000 in
theorem wd_727 : Cond.methodLink RL 142 yX8_judge ∈ om_tbl := om_mem (i := 727) rfl rfl
set_option maxRecDepth 100000 in
theorem wd_728 : Cond.instanceMethod yX8_judge ∈ om_tbl := om_mem (i := 728) rfl rfl
set_option maxRecDepth 100000 in
theorem wd_729 : Cond.selects RX8 yX8_judge yX8_judge ∈ om_tbl := om_mem (i := 729) rfl rfl
set_option maxRecDepth 100000 in
theorem wd_730 : Cond.code yX8_judge cX8_judge 5 (some FieldType.int) ∈ om_tbl := om_mem (i := 730) rfl rfl
set_option maxRecDepth 100000 in
theorem wd_731 : Cond.methodLink RL 146 yX8_image ∈ om_tbl := om_mem (i := 731) rfl rfl
set_option maxRecDepth 100000 in
theorem wd_732 : Cond.instanceMethod yX8_image ∈ om_tbl := om_mem (i := 732) rfl rfl
set_option maxRecDepth 100000 in
theorem wd_733 : Cond.selects RX8 yX8_image yX8_image ∈ om_tbl := om_mem (i := 733) rfl rfl
set_option maxRecDepth 100000 in
theorem wd_734 : Cond.code yX8_image cX8_image 1 (some FieldType.int) ∈ om_tbl := om_mem (i := 734) rfl rfl
set_option maxRecDepth 100000 in
theorem wd_735 : Cond.methodLink RX8 263 yX3_copyFrom ∈ om_tbl := om_mem (i := 735) rfl rfl
set_option maxRecDepth 100000 in
theorem wd_736 : Cond.methodLink RL 150 yX8_restore ∈ om_tbl := om_mem (i := 736) rfl rfl
set_option maxRecDepth 100000 in
theorem wd_737 : Cond.instanceMethod yX8_restore ∈ om_tbl := om_mem (i := 737) rfl rfl
set_option maxRecDepth 100000 in
theorem wd_738 : Cond.selects RX8 yX8_restore yX8_restore ∈ om_tbl := om_mem (i := 738) rfl rfl
set_option maxRecDepth 100000 in
theorem wd_739 : Cond.code yX8_restore cX8_restore 1 (some FieldType.int) ∈ om_tbl := om_mem (i := 739) rfl rfl
set_option maxRecDepth 100000 in
theorem wd_740 : Cond.methodLink RL 154 yX8_tell ∈ om_tbl := om_mem (i := 740) rfl rfl
set_option maxRecDepth 100000 in
theorem wd_741 : Cond.instanceMethod yX8_tell ∈ om_tbl := om_mem (i := 741) rfl rfl
set_option maxRecDepth 100000 in
theorem wd_742 : Cond.selects RX8 yX8_tell yX8_tell ∈ om_tbl := om_mem (i := 742) rfl rfl
set_option maxRecDepth 100000 in
theorem wd_743 : Cond.code yX8_tell cX8_tell 2 (some FieldType.int) ∈ om_tbl := om_mem (i := 743) rfl rfl
set_option maxRecDepth 100000 in
theorem wd_744 : Cond.methodLink RL 158 yX8_check ∈ om_tbl := om_mem (i := 744) rfl rfl
set_option maxRecDepth 100000 in
theorem wd_745 : Cond.instanceMethod yX8_check ∈ om_tbl := om_mem (i := 745) rfl rfl
set_option maxRecDepth 100000 in
theorem wd_746 : Cond.selects RX8 yX8_check yX8_check ∈ om_tbl := om_mem (i := 746) rfl rfl
set_option maxRecDepth 100000 in
theorem wd_747 : Cond.code yX8_check cX8_check 4 (some FieldType.int) ∈ om_tbl := om_mem (i := 747) rfl rfl
set_option maxRecDepth 100000 in
theorem wd_748 : Cond.methodLink RL 162 yX8_count ∈ om_tbl := om_mem (i := 748) rfl rfl
set_option maxRecDepth 100000 in
theorem wd_749 : Cond.instanceMethod yX8_count ∈ om_tbl := om_mem (i := 749) rfl rfl
set_option maxRecDepth 100000 in
theorem wd_750 : Cond.selects RX8 yX8_count yX8_count ∈ om_tbl := om_mem (i := 750) rfl rfl
set_option maxRecDepth 100000 in
theorem wd_751 : Cond.code yX8_count cX8_count 2 (some FieldType.int) ∈ om_tbl := om_mem (i := 751) rfl rfl
set_option maxRecDepth 100000 in
theorem wd_752 : Cond.methodLink RL 166 yX8_told ∈ om_tbl := om_mem (i := 752) rfl rfl
set_option maxRecDepth 100000 in
theorem wd_753 : Cond.instanceMethod yX8_told ∈ om_tbl := om_mem (i := 753) rfl rfl
set_option maxRecDepth 100000 in
theorem wd_754 : Cond.selects RX8 yX8_told yX8_told ∈ om_tbl := om_mem (i := 754) rfl rfl
set_option maxRecDepth 100000 in
theorem wd_755 : Cond.code yX8_told cX8_told 2 (some FieldType.int) ∈ om_tbl := om_mem (i := 755) rfl rfl
set_option maxRecDepth 100000 in
theorem wd_756 : Cond.classLink RL 10 RX9 ∈ om_tbl := om_mem (i := 756) rfl rfl
set_option maxRecDepth 100000 in
theorem wd_757 : Cond.instantiable RX9 23 ∈ om_tbl := om_mem (i := 757) rfl rfl
set_option maxRecDepth 100000 in
theorem wd_758 : Cond.methodLink RL 12 yX9_init ∈ om_tbl := om_mem (i := 758) rfl rfl
set_option maxRecDepth 100000 in
theorem wd_759 : Cond.instanceMethod yX9_init ∈ om_tbl := om_mem (i := 759) rfl rfl
set_option maxRecDepth 100000 in
theorem wd_760 : Cond.code yX9_init cX9_init 1 none ∈ om_tbl := om_mem (i := 760) rfl rfl
set_option maxRecDepth 100000 in
theorem wd_761 : Cond.methodLink RX9 1 objectInit ∈ om_tbl := om_mem (i := 761) rfl rfl
set_option maxRecDepth 100000 in
theorem wd_762 : Cond.fieldLink RX9 7 RX9 "s" "[I" ∈ om_tbl := om_mem (i := 762) rfl rfl
set_option maxRecDepth 100000 in
theorem wd_763 : Cond.fieldLink RX9 13 RX9 "kept" "[I" ∈ om_tbl := om_mem (i := 763) rfl rfl
set_option maxRecDepth 100000 in
theorem wd_764 : Cond.fieldLink RX9 16 RX9 "laid" "[I" ∈ om_tbl := om_mem (i := 764) rfl rfl
set_option maxRecDepth 100000 in
theorem wd_765 : Cond.fieldLink RX9 249 RX9 "images" "I" ∈ om_tbl := om_mem (i := 765) rfl rfl
set_option maxRecDepth 100000 in
theorem wd_766 : Cond.fieldLink RX9 19 RX9 "errors" "[I" ∈ om_tbl := om_mem (i := 766) rfl rfl
set_option maxRecDepth 100000 in
theorem wd_767 : Cond.fieldLink RX9 22 RX9 "spared" "I" ∈ om_tbl := om_mem (i := 767) rfl rfl
set_option maxRecDepth 100000 in
theorem wd_768 : Cond.fieldLink RX9 67 RX9 "at" "I" ∈ om_tbl := om_mem (i := 768) rfl rfl
set_option maxRecDepth 100000 in
theorem wd_769 : Cond.fieldLink RX9 100 RX9 "open" "I" ∈ om_tbl := om_mem (i := 769) rfl rfl
set_option maxRecDepth 100000 in
theorem wd_770 : Cond.fieldLink RX9 73 RX9 "steps" "I" ∈ om_tbl := om_mem (i := 770) rfl rfl
set_option maxRecDepth 100000 in
theorem wd_771 : Cond.fieldLink RX9 70 RX9 "use" "I" ∈ om_tbl := om_mem (i := 771) rfl rfl
set_option maxRecDepth 100000 in
theorem wd_772 : Cond.fieldLink RX9 26 RX9 "step" "[I" ∈ om_tbl := om_mem (i := 772) rfl rfl
set_option maxRecDepth 100000 in
theorem wd_773 : Cond.fieldLink RX9 29 RX9 "named" "[I" ∈ om_tbl := om_mem (i := 773) rfl rfl
set_option maxRecDepth 100000 in
theorem wd_774 : Cond.fieldLink RX9 32 RX9 "pile" "[I" ∈ om_tbl := om_mem (i := 774) rfl rfl
set_option maxRecDepth 100000 in
theorem wd_775 : Cond.fieldLink RX9 35 RX9 "givesAll" "[I" ∈ om_tbl := om_mem (i := 775) rfl rfl
set_option maxRecDepth 100000 in
theorem wd_776 : Cond.fieldLink RX9 38 RX9 "dearAll" "[I" ∈ om_tbl := om_mem (i := 776) rfl rfl
set_option maxRecDepth 100000 in
theorem wd_777 : Cond.fieldLink RX9 210 RX9 "traced" "I" ∈ om_tbl := om_mem (i := 777) rfl rfl
set_option maxRecDepth 100000 in
theorem wd_778 : Cond.fieldLink RX9 41 RX9 "trace" "[I" ∈ om_tbl := om_mem (i := 778) rfl rfl
set_option maxRecDepth 100000 in
theorem wd_779 : Cond.fieldLink RX9 213 RX9 "speaks" "I" ∈ om_tbl := om_mem (i := 779) rfl rfl
set_option maxRecDepth 100000 in
theorem wd_780 : Cond.fieldLink RX9 235 RX9 "isParted" "Z" ∈ om_tbl := om_mem (i := 780) rfl rfl
set_option maxRecDepth 100000 in
theorem wd_781 : Cond.fieldLink RX9 44 RX9 "bits" "[I" ∈ om_tbl := om_mem (i := 781) rfl rfl
set_option maxRecDepth 100000 in
theorem wd_782 : Cond.fieldLink RX9 47 RX9 "sizes" "[I" ∈ om_tbl := om_mem (i := 782) rfl rfl
set_option maxRecDepth 100000 in
theorem wd_783 : Cond.fieldLink RX9 50 RX9 "number" "[I" ∈ om_tbl := om_mem (i := 783) rfl rfl
set_option maxRecDepth 100000 in
theorem wd_784 : Cond.fieldLink RX9 53 RX9 "aside" "[I" ∈ om_tbl := om_mem (i := 784) rfl rfl
set_option maxRecDepth 100000 in
theorem wd_785 : Cond.laysFinal RX9 RX9 "s" "[I" ∈ om_tbl := om_mem (i := 785) rfl rfl
set_option maxRecDepth 100000 in
theorem wd_787 : Cond.laysFinal RX9 RX9 "kept" "[I" ∈ om_tbl := om_mem (i := 787) rfl rfl
set_option maxRecDepth 100000 in
theorem wd_789 : Cond.laysFinal RX9 RX9 "laid" "[I" ∈ om_tbl := om_mem (i := 789) rfl rfl
set_option maxRecDepth 100000 in
theorem wd_791 : Cond.lays RX9 RX9 "images" "I" ∈ om_tbl := om_mem (i := 791) rfl rfl
set_option maxRecDepth 100000 in
theorem wd_793 : Cond.laysFinal RX9 RX9 "errors" "[I" ∈ om_tbl := om_mem (i := 793) rfl rfl
set_option maxRecDepth 100000 in
theorem wd_795 : Cond.lays RX9 RX9 "spared" "I" ∈ om_tbl := om_mem (i := 795) rfl rfl
set_option maxRecDepth 100000 in
theorem wd_797 : Cond.lays RX9 RX9 "at" "I" ∈ om_tbl := om_mem (i := 797) rfl rfl
set_option maxRecDepth 100000 in
theorem wd_799 : Cond.lays RX9 RX9 "open" "I" ∈ om_tbl := om_mem (i := 799) rfl rfl
set_option maxRecDepth 100000 in
theorem wd_801 : Cond.lays RX9 RX9 "steps" "I" ∈ om_tbl := om_mem (i := 801) rfl rfl
set_option maxRecDepth 100000 in
theorem wd_803 : Cond.lays RX9 RX9 "use" "I" ∈ om_tbl := om_mem (i := 803) rfl rfl
set_option maxRecDepth 100000 in
theorem wd_805 : Cond.laysFinal RX9 RX9 "step" "[I" ∈ om_tbl := om_mem (i := 805) rfl rfl
set_option maxRecDepth 100000 in
theorem wd_807 : Cond.laysFinal RX9 RX9 "named" "[I" ∈ om_tbl := om_mem (i := 807) rfl rfl
set_option maxRecDepth 100000 in
theorem wd_809 : Cond.laysFinal RX9 RX9 "pile" "[I" ∈ om_tbl := om_mem (i := 809) rfl rfl
set_option maxRecDepth 100000 in
theorem wd_811 : Cond.laysFinal RX9 RX9 "givesAll" "[I" ∈ om_tbl := om_mem (i := 811) rfl rfl
set_option maxRecDepth 100000 in
theorem wd_813 : Cond.laysFinal RX9 RX9 "dearAll" "[I" ∈ om_tbl := om_mem (i := 813) rfl rfl
set_option maxRecDepth 100000 in
theorem wd_815 : Cond.lays RX9 RX9 "traced" "I" ∈ om_tbl := om_mem (i := 815) rfl rfl
set_option maxRecDepth 100000 in
theorem wd_817 : Cond.laysFinal RX9 RX9 "trace" "[I" ∈ om_tbl := om_mem (i := 817) rfl rfl
set_option maxRecDepth 100000 in
theorem wd_819 : Cond.lays RX9 RX9 "speaks" "I" ∈ om_tbl := om_mem (i := 819) rfl rfl
set_option maxRecDepth 100000 in
theorem wd_821 : Cond.lays RX9 RX9 "isParted" "Z" ∈ om_tbl := om_mem (i := 821) rfl rfl
set_option maxRecDepth 100000 in
theorem wd_823 : Cond.laysFinal RX9 RX9 "bits" "[I" ∈ om_tbl := om_mem (i := 823) rfl rfl
set_option maxRecDepth 100000 in
theorem wd_825 : Cond.laysFinal RX9 RX9 "sizes" "[I" ∈ om_tbl := om_mem (i := 825) rfl rfl
set_option maxRecDepth 100000 in
theorem wd_827 : Cond.laysFinal RX9 RX9 "number" "[I" ∈ om_tbl := om_mem (i := 827) rfl rfl
set_option maxRecDepth 100000 in
theorem wd_829 : Cond.laysFinal RX9 RX9 "aside" "[I" ∈ om_tbl := om_mem (i := 829) rfl rfl
set_option maxRecDepth 100000 in
theorem wd_832 : Cond.methodLink RL 58 yX9_feed ∈ om_tbl := om_mem (i := 832) rfl rfl
set_option maxRecDepth 100000 in
theorem wd_833 : Cond.instanceMethod yX9_feed ∈ om_tbl := om_mem (i := 833) rfl rfl
set_option maxRecDepth 100000 in
theorem wd_834 : Cond.selects RX9 yX9_feed yX9_feed ∈ om_tbl := om_mem (i := 834) rfl rfl
set_option maxRecDepth 100000 in
theorem wd_835 : Cond.code yX9_feed cX9_feed 5 (some FieldType.int) ∈ om_tbl := om_mem (i := 835) rfl rfl
set_option maxRecDepth 100000 in
theorem wd_836 : Cond.methodLink RX9 57 yX9_in ∈ om_tbl := om_mem (i := 836) rfl rfl
set_option maxRecDepth 100000 in
theorem wd_837 : Cond.static yX9_in ∈ om_tbl := om_mem (i := 837) rfl rfl
set_option maxRecDepth 100000 in
theorem wd_838 : Cond.code yX9_in cX9_in 3 (some FieldType.boolean) ∈ om_tbl := om_mem (i := 838) rfl rfl
set_option maxRecDepth 100000 in
theorem wd_839 : Cond.methodLink RX9 61 yX9_error ∈ om_tbl := om_mem (i := 839) rfl rfl
set_option maxRecDepth 100000 in
theorem wd_841 : Cond.instanceMethod yX9_error ∈ om_tbl := om_mem (i := 841) rfl rfl
set_option maxRecDepth 100000 in
theorem wd_842 : Cond.code yX9_error cX9_error 2 (some FieldType.int) ∈ om_tbl := om_mem (i := 842) rfl rfl
set_option maxRecDepth 100000 in
theorem wd_843 : Cond.constant RX9 56 (-1000000000) ∈ om_tbl := om_mem (i := 843) rfl rfl
set_option maxRecDepth 100000 in
theorem wd_844 : Cond.constantLong RX9 65 255 ∈ om_tbl := om_mem (i := 844) rfl rfl
set_option maxRecDepth 100000 in
theorem wd_845 : Cond.methodLink RL 62 yX9_text ∈ om_tbl := om_mem (i := 845) rfl rfl
set_option maxRecDepth 100000 in
theorem wd_846 : Cond.instanceMethod yX9_text ∈ om_tbl := om_mem (i := 846) rfl rfl
set_option maxRecDepth 100000 in
theorem wd_847 : Cond.selects RX9 yX9_text yX9_text ∈ om_tbl := om_mem (i := 847) rfl rfl
set_option maxRecDepth 100000 in
theorem wd_848 : Cond.code yX9_text cX9_text 5 (some FieldType.int) ∈ om_tbl := om_mem (i := 848) rfl rfl
set_option maxRecDepth 100000 in
theorem wd_849 : Cond.methodLink RX9 110 yX9_whole ∈ om_tbl := om_mem (i := 849) rfl rfl
set_option maxRecDepth 100000 in
theorem wd_851 : Cond.instanceMethod yX9_whole ∈ om_tbl := om_mem (i := 851) rfl rfl
set_option maxRecDepth 100000 in
theorem wd_852 : Cond.code yX9_whole cX9_whole 1 (some FieldType.boolean) ∈ om_tbl := om_mem (i := 852) rfl rfl
set_option maxRecDepth 100000 in
theorem wd_853 : Cond.methodLink RX9 76 yX9_both ∈ om_tbl := om_mem (i := 853) rfl rfl
set_option maxRecDepth 100000 in
theorem wd_855 : Cond.instanceMethod yX9_both ∈ om_tbl := om_mem (i := 855) rfl rfl
set_option maxRecDepth 100000 in
theorem wd_856 : Cond.code yX9_both cX9_both 1 (some FieldType.boolean) ∈ om_tbl := om_mem (i := 856) rfl rfl
set_option maxRecDepth 100000 in
theorem wd_857 : Cond.methodLink RX9 88 yX9_compared ∈ om_tbl := om_mem (i := 857) rfl rfl
set_option maxRecDepth 100000 in
theorem wd_859 : Cond.instanceMethod yX9_compared ∈ om_tbl := om_mem (i := 859) rfl rfl
set_option maxRecDepth 100000 in
theorem wd_860 : Cond.code yX9_compared cX9_compared 2 (some FieldType.boolean) ∈ om_tbl := om_mem (i := 860) rfl rfl
set_option maxRecDepth 100000 in
theorem wd_861 : Cond.methodLink RX9 91 yX9_sum ∈ om_tbl := om_mem (i := 861) rfl rfl
set_option maxRecDepth 100000 in
theorem wd_863 : Cond.instanceMethod yX9_sum ∈ om_tbl := om_mem (i := 863) rfl rfl
set_option maxRecDepth 100000 in
theorem wd_864 : Cond.code yX9_sum cX9_sum 2 (some FieldType.boolean) ∈ om_tbl := om_mem (i := 864) rfl rfl
set_option maxRecDepth 100000 in
theorem wd_865 : Cond.methodLink RX9 94 yX9_product ∈ om_tbl := om_mem (i := 865) rfl rfl
set_option maxRecDepth 100000 in
theorem wd_867 : Cond.instanceMethod yX9_product ∈ om_tbl := om_mem (i := 867) rfl rfl
set_option maxRecDepth 100000 in
theorem wd_868 : Cond.code yX9_product cX9_product 2 (some FieldType.boolean) ∈ om_tbl := om_mem (i := 868) rfl rfl
set_option maxRecDepth 100000 in
theorem wd_869 : Cond.methodLink RX9 97 yX9_one ∈ om_tbl := om_mem (i := 869) rfl rfl
set_option maxRecDepth 100000 in
theorem wd_871 : Cond.instanceMethod yX9_one ∈ om_tbl := om_mem (i := 871) rfl rfl
set_option maxRecDepth 100000 in
theorem wd_872 : Cond.code yX9_one cX9_one 4 (some FieldType.boolean) ∈ om_tbl := om_mem (i := 872) rfl rfl
set_option maxRecDepth 100000 in
theorem wd_873 : Cond.methodLink RX9 80 yX9_look ∈ om_tbl := om_mem (i := 873) rfl rfl
set_option maxRecDepth 100000 in
theorem wd_875 : Cond.instanceMethod yX9_look ∈ om_tbl := om_mem (i := 875) rfl rfl
set_option maxRecDepth 100000 in
theorem wd_876 : Cond.code yX9_look cX9_look 1 (some FieldType.int) ∈ om_tbl := om_mem (i := 876) rfl rfl
set_option maxRecDepth 100000 in
theorem wd_877 : Cond.methodLink RX9 103 yX9_isName ∈ om_tbl := om_mem (i := 877) rfl rfl
set_option maxRecDepth 100000 in
theorem wd_879 : Cond.instanceMethod yX9_isName ∈ om_tbl := om_mem (i := 879) rfl rfl
set_option maxRecDepth 100000 in
theorem wd_880 : Cond.code yX9_isName cX9_isName 2 (some FieldType.boolean) ∈ om_tbl := om_mem (i := 880) rfl rfl
set_option maxRecDepth 100000 in
theorem wd_881 : Cond.methodLink RX9 84 yX9_step1 ∈ om_tbl := om_mem (i := 881) rfl rfl
set_option maxRecDepth 100000 in
theorem wd_883 : Cond.instanceMethod yX9_step1 ∈ om_tbl := om_mem (i := 883) rfl rfl
set_option maxRecDepth 100000 in
theorem wd_884 : Cond.code yX9_step1 cX9_step1 3 none ∈ om_tbl := om_mem (i := 884) rfl rfl
set_option maxRecDepth 100000 in
theorem wd_885 : Cond.methodLink RX9 107 yX9_opens ∈ om_tbl := om_mem (i := 885) rfl rfl
set_option maxRecDepth 100000 in
theorem wd_887 : Cond.instanceMethod yX9_opens ∈ om_tbl := om_mem (i := 887) rfl rfl
set_option maxRecDepth 100000 in
theorem wd_888 : Cond.code yX9_opens cX9_opens 1 (some FieldType.boolean) ∈ om_tbl := om_mem (i := 888) rfl rfl
set_option maxRecDepth 100000 in
theorem wd_889 : Cond.methodLink RL 66 yX9_untell ∈ om_tbl := om_mem (i := 889) rfl rfl
set_option maxRecDepth 100000 in
theorem wd_890 : Cond.instanceMethod yX9_untell ∈ om_tbl := om_mem (i := 890) rfl rfl
set_option maxRecDepth 100000 in
theorem wd_891 : Cond.selects RX9 yX9_untell yX9_untell ∈ om_tbl := om_mem (i := 891) rfl rfl
set_option maxRecDepth 100000 in
theorem wd_892 : Cond.code yX9_untell cX9_untell 3 (some FieldType.int) ∈ om_tbl := om_mem (i := 892) rfl rfl
set_option maxRecDepth 100000 in
theorem wd_893 : Cond.methodLink RX9 113 yX9_hasText ∈ om_tbl := om_mem (i := 893) rfl rfl
set_option maxRecDepth 100000 in
theorem wd_895 : Cond.instanceMethod yX9_hasText ∈ om_tbl := om_mem (i := 895) rfl rfl
set_option maxRecDepth 100000 in
theorem wd_896 : Cond.code yX9_hasText cX9_hasText 2 (some FieldType.boolean) ∈ om_tbl := om_mem (i := 896) rfl rfl
set_option maxRecDepth 100000 in
theorem wd_897 : Cond.methodLink RL 17 yX9_memory ∈ om_tbl := om_mem (i := 897) rfl rfl
set_option maxRecDepth 100000 in
theorem wd_898 : Cond.instanceMethod yX9_memory ∈ om_tbl := om_mem (i := 898) rfl rfl
set_option maxRecDepth 100000 in
theorem wd_899 : Cond.selects RX9 yX9_memory yX9_memory ∈ om_tbl := om_mem (i := 899) rfl rfl
set_option maxRecDepth 100000 in
theorem wd_900 : Cond.code yX9_memory cX9_memory 5 (some FieldType.int) ∈ om_tbl := om_mem (i := 900) rfl rfl
set_option maxRecDepth 100000 in
theorem wd_901 : Cond.methodLink RX9 165 yX9_isKind ∈ om_tbl := om_mem (i := 901) rfl rfl
set_option maxRecDepth 100000 in
theorem wd_902 : Cond.static yX9_isKind ∈ om_tbl := om_mem (i := 902) rfl rfl
set_option maxRecDepth 100000 in
theorem wd_903 : Cond.code yX9_isKind cX9_isKind 1 (some FieldType.boolean) ∈ om_tbl := om_mem (i := 903) rfl rfl
set_option maxRecDepth 100000 in
theorem wd_904 : Cond.methodLink RX9 157 yX9_lays1 ∈ om_tbl := om_mem (i := 904) rfl rfl
set_option maxRecDepth 100000 in
theorem wd_906 : Cond.instanceMethod yX9_lays1 ∈ om_tbl := om_mem (i := 906) rfl rfl
set_option maxRecDepth 100000 in
theorem wd_907 : Cond.code yX9_lays1 cX9_lays1 4 none ∈ om_tbl := om_mem (i := 907) rfl rfl
set_option maxRecDepth 100000 in
theorem wd_908 : Cond.methodLink RL 22 yX9_memoryIs ∈ om_tbl := om_mem (i := 908) rfl rfl
set_option maxRecDepth 100000 in
theorem wd_909 : Cond.instanceMethod yX9_memoryIs ∈ om_tbl := om_mem (i := 909) rfl rfl
set_option maxRecDepth 100000 in
theorem wd_910 : Cond.selects RX9 yX9_memoryIs yX9_memoryIs ∈ om_tbl := om_mem (i := 910) rfl rfl
set_option maxRecDepth 100000 in
theorem wd_911 : Cond.code yX9_memoryIs cX9_memoryIs 4 (some FieldType.int) ∈ om_tbl := om_mem (i := 911) rfl rfl
set_option maxRecDepth 100000 in
theorem wd_912 : Cond.methodLink RX9 168 yX9_isMemory ∈ om_tbl := om_mem (i := 912) rfl rfl
set_option maxRecDepth 100000 in
theorem wd_914 : Cond.instanceMethod yX9_isMemory ∈ om_tbl := om_mem (i := 914) rfl rfl
set_option maxRecDepth 100000 in
theorem wd_915 : Cond.code yX9_isMemory cX9_isMemory 2 (some FieldType.boolean) ∈ om_tbl := om_mem (i := 915) rfl rfl
set_option maxRecDepth 100000 in
theorem wd_916 : Cond.methodLink RX9 120 yX9_its ∈ om_tbl := om_mem (i := 916) rfl rfl
set_option maxRecDepth 100000 in
theorem wd_918 : Cond.instanceMethod yX9_its ∈ om_tbl := om_mem (i := 918) rfl rfl
set_option maxRecDepth 100000 in
theorem wd_919 : Cond.code yX9_its cX9_its 3 (some FieldType.int) ∈ om_tbl := om_mem (i := 919) rfl rfl
set_option maxRecDepth 100000 in
theorem wd_920 : Cond.methodLink RX9 139 yX9_lightBy ∈ om_tbl := om_mem (i := 920) rfl rfl
set_option maxRecDepth 100000 in
theorem wd_922 : Cond.instanceMethod yX9_lightBy ∈ om_tbl := om_mem (i := 922) rfl rfl
set_option maxRecDepth 100000 in
theorem wd_923 : Cond.code yX9_lightBy cX9_lightBy 4 (some FieldType.int) ∈ om_tbl := om_mem (i := 923) rfl rfl
set_option maxRecDepth 100000 in
theorem wd_924 : Cond.methodLink RX9 130 yX9_manyIn ∈ om_tbl := om_mem (i := 924) rfl rfl
set_option maxRecDepth 100000 in
theorem wd_925 : Cond.static yX9_manyIn ∈ om_tbl := om_mem (i := 925) rfl rfl
set_option maxRecDepth 100000 in
theorem wd_926 : Cond.code yX9_manyIn cX9_manyIn 3 (some FieldType.int) ∈ om_tbl := om_mem (i := 926) rfl rfl
set_option maxRecDepth 100000 in
theorem wd_927 : Cond.methodLink RX9 133 yX9_burnsOf ∈ om_tbl := om_mem (i := 927) rfl rfl
set_option maxRecDepth 100000 in
theorem wd_929 : Cond.instanceMethod yX9_burnsOf ∈ om_tbl := om_mem (i := 929) rfl rfl
set_option maxRecDepth 100000 in
theorem wd_930 : Cond.code yX9_burnsOf cX9_burnsOf 4 (some FieldType.int) ∈ om_tbl := om_mem (i := 930) rfl rfl
set_option maxRecDepth 100000 in
theorem wd_931 : Cond.methodLink RX9 136 yX9_lightTold ∈ om_tbl := om_mem (i := 931) rfl rfl
set_option maxRecDepth 100000 in
theorem wd_933 : Cond.instanceMethod yX9_lightTold ∈ om_tbl := om_mem (i := 933) rfl rfl
set_option maxRecDepth 100000 in
theorem wd_934 : Cond.code yX9_lightTold cX9_lightTold 4 (some FieldType.int) ∈ om_tbl := om_mem (i := 934) rfl rfl
set_option maxRecDepth 100000 in
theorem wd_935 : Cond.methodLink RX9 124 yX9_worked ∈ om_tbl := om_mem (i := 935) rfl rfl
set_option maxRecDepth 100000 in
theorem wd_937 : Cond.instanceMethod yX9_worked ∈ om_tbl := om_mem (i := 937) rfl rfl
set_option maxRecDepth 100000 in
theorem wd_938 : Cond.code yX9_worked cX9_worked 7 (some FieldType.int) ∈ om_tbl := om_mem (i := 938) rfl rfl
set_option maxRecDepth 100000 in
theorem wd_939 : Cond.methodLink RX9 116 yX9_joined ∈ om_tbl := om_mem (i := 939) rfl rfl
set_option maxRecDepth 100000 in
theorem wd_940 : Cond.static yX9_joined ∈ om_tbl := om_mem (i := 940) rfl rfl
set_option maxRecDepth 100000 in
theorem wd_941 : Cond.code yX9_joined cX9_joined 3 (some FieldType.int) ∈ om_tbl := om_mem (i := 941) rfl rfl
set_option maxRecDepth 100000 in
theorem wd_942 : Cond.methodLink RX9 127 yX9_held ∈ om_tbl := om_mem (i := 942) rfl rfl
set_option maxRecDepth 100000 in
theorem wd_943 : Cond.static yX9_held ∈ om_tbl := om_mem (i := 943) rfl rfl
set_option maxRecDepth 100000 in
theorem wd_944 : Cond.code yX9_held cX9_held 3 (some FieldType.int) ∈ om_tbl := om_mem (i := 944) rfl rfl
set_option maxRecDepth 100000 in
theorem wd_945 : Cond.methodLink RX9 142 yX9_smokeOf ∈ om_tbl := om_mem (i := 945) rfl rfl
set_option maxRecDepth 100000 in
theorem wd_947 : Cond.instanceMethod yX9_smokeOf ∈ om_tbl := om_mem (i := 947) rfl rfl
set_option maxRecDepth 100000 in
theorem wd_948 : Cond.code yX9_smokeOf cX9_smokeOf 5 (some FieldType.int) ∈ om_tbl := om_mem (i := 948) rfl rfl
set_option maxRecDepth 100000 in
theorem wd_949 : Cond.methodLink RL 26 yX9_become ∈ om_tbl := om_mem (i := 949) rfl rfl
set_option maxRecDepth 100000 in
theorem wd_950 : Cond.instanceMethod yX9_become ∈ om_tbl := om_mem (i := 950) rfl rfl
set_option maxRecDepth 100000 in
theorem wd_951 : Cond.selects RX9 yX9_become yX9_become ∈ om_tbl := om_mem (i := 951) rfl rfl
set_option maxRecDepth 100000 in
theorem wd_952 : Cond.code yX9_become cX9_become 3 (some FieldType.int) ∈ om_tbl := om_mem (i := 952) rfl rfl
set_option maxRecDepth 100000 in
theorem wd_953 : Cond.methodLink RX9 171 yX9_change1 ∈ om_tbl := om_mem (i := 953) rfl rfl
set_option maxRecDepth 100000 in
theorem wd_955 : Cond.instanceMethod yX9_change1 ∈ om_tbl := om_mem (i := 955) rfl rfl
set_option maxRecDepth 100000 in
theorem wd_956 : Cond.code yX9_change1 cX9_change1 4 (some FieldType.int) ∈ om_tbl := om_mem (i := 956) rfl rfl
set_option maxRecDepth 100000 in
theorem wd_957 : Cond.methodLink RL 30 yX9_as ∈ om_tbl := om_mem (i := 957) rfl rfl
set_option maxRecDepth 100000 in
theorem wd_958 : Cond.instanceMethod yX9_as ∈ om_tbl := om_mem (i := 958) rfl rfl
set_option maxRecDepth 100000 in
theorem wd_959 : Cond.selects RX9 yX9_as yX9_as ∈ om_tbl := om_mem (i := 959) rfl rfl
set_option maxRecDepth 100000 in
theorem wd_960 : Cond.code yX9_as cX9_as 4 (some FieldType.int) ∈ om_tbl := om_mem (i := 960) rfl rfl
set_option maxRecDepth 100000 in
theorem wd_961 : Cond.methodLink RX9 174 yX9_above ∈ om_tbl := om_mem (i := 961) rfl rfl
set_option maxRecDepth 100000 in
theorem wd_962 : Cond.static yX9_above ∈ om_tbl := om_mem (i := 962) rfl rfl
set_option maxRecDepth 100000 in
theorem wd_963 : Cond.code yX9_above cX9_above 1 (some FieldType.int) ∈ om_tbl := om_mem (i := 963) rfl rfl
set_option maxRecDepth 100000 in
theorem wd_964 : Cond.methodLink RL 34 yX9_fills ∈ om_tbl := om_mem (i := 964) rfl rfl
set_option maxRecDepth 100000 in
theorem wd_965 : Cond.instanceMethod yX9_fills ∈ om_tbl := om_mem (i := 965) rfl rfl
set_option maxRecDepth 100000 in
theorem wd_966 : Cond.selects RX9 yX9_fills yX9_fills ∈ om_tbl := om_mem (i := 966) rfl rfl
set_option maxRecDepth 100000 in
theorem wd_967 : Cond.code yX9_fills cX9_fills 3 (some FieldType.int) ∈ om_tbl := om_mem (i := 967) rfl rfl
set_option maxRecDepth 100000 in
theorem wd_968 : Cond.methodLink RL 38 yX9_dear ∈ om_tbl := om_mem (i := 968) rfl rfl
set_option maxRecDepth 100000 in
theorem wd_969 : Cond.instanceMethod yX9_dear ∈ om_tbl := om_mem (i := 969) rfl rfl
set_option maxRecDepth 100000 in
theorem wd_970 : Cond.selects RX9 yX9_dear yX9_dear ∈ om_tbl := om_mem (i := 970) rfl rfl
set_option maxRecDepth 100000 in
theorem wd_971 : Cond.code yX9_dear cX9_dear 3 (some FieldType.int) ∈ om_tbl := om_mem (i := 971) rfl rfl
set_option maxRecDepth 100000 in
theorem wd_972 : Cond.methodLink RL 42 yX9_trim ∈ om_tbl := om_mem (i := 972) rfl rfl
set_option maxRecDepth 100000 in
theorem wd_973 : Cond.instanceMethod yX9_trim ∈ om_tbl := om_mem (i := 973) rfl rfl
set_option maxRecDepth 100000 in
theorem wd_974 : Cond.selects RX9 yX9_trim yX9_trim ∈ om_tbl := om_mem (i := 974) rfl rfl
set_option maxRecDepth 100000 in
theorem wd_975 : Cond.code yX9_trim cX9_trim 4 (some FieldType.int) ∈ om_tbl := om_mem (i := 975) rfl rfl
set_option maxRecDepth 100000 in
theorem wd_976 : Cond.methodLink RX9 177 yX9_isKeeper ∈ om_tbl := om_mem (i := 976) rfl rfl
set_option maxRecDepth 100000 in
theorem wd_977 : Cond.static yX9_isKeeper ∈ om_tbl := om_mem (i := 977) rfl rfl
set_option maxRecDepth 100000 in
theorem wd_978 : Cond.code yX9_isKeeper cX9_isKeeper 1 (some FieldType.boolean) ∈ om_tbl := om_mem (i := 978) rfl rfl
set_option maxRecDepth 100000 in
theorem wd_979 : Cond.methodLink RL 46 yX9_tells ∈ om_tbl := om_mem (i := 979) rfl rfl
set_option maxRecDepth 100000 in
theorem wd_980 : Cond.instanceMethod yX9_tells ∈ om_tbl := om_mem (i := 980) rfl rfl
set_option maxRecDepth 100000 in
theorem wd_981 : Cond.selects RX9 yX9_tells yX9_tells ∈ om_tbl := om_mem (i := 981) rfl rfl
set_option maxRecDepth 100000 in
theorem wd_982 : Cond.code yX9_tells cX9_tells 4 (some FieldType.int) ∈ om_tbl := om_mem (i := 982) rfl rfl
set_option maxRecDepth 100000 in
theorem wd_983 : Cond.methodLink RL 51 yX9_blows ∈ om_tbl := om_mem (i := 983) rfl rfl
set_option maxRecDepth 100000 in
theorem wd_984 : Cond.instanceMethod yX9_blows ∈ om_tbl := om_mem (i := 984) rfl rfl
set_option maxRecDepth 100000 in
theorem wd_985 : Cond.selects RX9 yX9_blows yX9_blows ∈ om_tbl := om_mem (i := 985) rfl rfl
set_option maxRecDepth 100000 in
theorem wd_986 : Cond.code yX9_blows cX9_blows 2 (some FieldType.int) ∈ om_tbl := om_mem (i := 986) rfl rfl
set_option maxRecDepth 100000 in
theorem wd_987 : Cond.methodLink RL 71 yX9_law ∈ om_tbl := om_mem (i := 987) rfl rfl
set_option maxRecDepth 100000 in
theorem wd_988 : Cond.instanceMethod yX9_law ∈ om_tbl := om_mem (i := 988) rfl rfl
set_option maxRecDepth 100000 in
theorem wd_989 : Cond.selects RX9 yX9_law yX9_law ∈ om_tbl := om_mem (i := 989) rfl rfl
set_option maxRecDepth 100000 in
theorem wd_990 : Cond.code yX9_law cX9_law 5 (some FieldType.int) ∈ om_tbl := om_mem (i := 990) rfl rfl
set_option maxRecDepth 100000 in
theorem wd_991 : Cond.methodLink RX9 145 yX9_wantedTold ∈ om_tbl := om_mem (i := 991) rfl rfl
set_option maxRecDepth 100000 in
theorem wd_993 : Cond.instanceMethod yX9_wantedTold ∈ om_tbl := om_mem (i := 993) rfl rfl
set_option maxRecDepth 100000 in
theorem wd_994 : Cond.code yX9_wantedTold cX9_wantedTold 4 (some FieldType.int) ∈ om_tbl := om_mem (i := 994) rfl rfl
set_option maxRecDepth 100000 in
theorem wd_995 : Cond.methodLink RL 75 yX9_nights ∈ om_tbl := om_mem (i := 995) rfl rfl
set_option maxRecDepth 100000 in
theorem wd_996 : Cond.instanceMethod yX9_nights ∈ om_tbl := om_mem (i := 996) rfl rfl
set_option maxRecDepth 100000 in
theorem wd_997 : Cond.selects RX9 yX9_nights yX9_nights ∈ om_tbl := om_mem (i := 997) rfl rfl
set_option maxRecDepth 100000 in
theorem wd_998 : Cond.code yX9_nights cX9_nights 3 (some FieldType.int) ∈ om_tbl := om_mem (i := 998) rfl rfl
set_option maxRecDepth 100000 in
theorem wd_999 : Cond.methodLink RX9 180 yX9_whyNot ∈ om_tbl := om_mem (i := 999) rfl rfl
set_option maxRecDepth 100000 in
theorem wd_1001 : Cond.instanceMethod yX9_whyNot ∈ om_tbl := om_mem (i := 1001) rfl rfl
set_option maxRecDepth 100000 in
theorem wd_1002 : Cond.code yX9_whyNot cX9_whyNot 3 (some FieldType.int) ∈ om_tbl := om_mem (i := 1002) rfl rfl
set_option maxRecDepth 100000 in
theorem wd_1003 : Cond.methodLink RX9 183 yX9_goes ∈ om_tbl := om_mem (i := 1003) rfl rfl
set_option maxRecDepth 100000 in
theorem wd_1005 : Cond.instanceMethod yX9_goes ∈ om_tbl := om_mem (i := 1005) rfl rfl
set_option maxRecDepth 100000 in
theorem wd_1006 : Cond.code yX9_goes cX9_goes 4 (some FieldType.int) ∈ om_tbl := om_mem (i := 1006) rfl rfl
set_option maxRecDepth 100000 in
theorem wd_1007 : Cond.methodLink RX9 161 yX9_aNight ∈ om_tbl := om_mem (i := 1007) rfl rfl
set_option maxRecDepth 100000 in
theorem wd_1009 : Cond.instanceMethod yX9_aNight ∈ om_tbl := om_mem (i := 1009) rfl rfl
set_option maxRecDepth 100000 in
theorem wd_1010 : Cond.code yX9_aNight cX9_aNight 3 (some FieldType.boolean) ∈ om_tbl := om_mem (i := 1010) rfl rfl
set_option maxRecDepth 100000 in
theorem wd_1011 : Cond.methodLink RX9 154 yX9_tonightSet ∈ om_tbl := om_mem (i := 1011) rfl rfl
set_option maxRecDepth 100000 in
theorem wd_1013 : Cond.instanceMethod yX9_tonightSet ∈ om_tbl := om_mem (i := 1013) rfl rfl
set_option maxRecDepth 100000 in
theorem wd_1014 : Cond.code yX9_tonightSet cX9_tonightSet 6 (some FieldType.int) ∈ om_tbl := om_mem (i := 1014) rfl rfl
set_option maxRecDepth 100000 in
theorem wd_1015 : Cond.methodLink RX9 148 yX9_wanted ∈ om_tbl := om_mem (i := 1015) rfl rfl
set_option maxRecDepth 100000 in
theorem wd_1017 : Cond.instanceMethod yX9_wanted ∈ om_tbl := om_mem (i := 1017) rfl rfl
set_option maxRecDepth 100000 in
theorem wd_1018 : Cond.code yX9_wanted cX9_wanted 3 (some FieldType.int) ∈ om_tbl := om_mem (i := 1018) rfl rfl
set_option maxRecDepth 100000 in
theorem wd_1019 : Cond.methodLink RX9 151 yX9_givesBy ∈ om_tbl := om_mem (i := 1019) rfl rfl
set_option maxRecDepth 100000 in
theorem wd_1021 : Cond.instanceMethod yX9_givesBy ∈ om_tbl := om_mem (i := 1021) rfl rfl
set_option maxRecDepth 100000 in
theorem wd_1022 : Cond.code yX9_givesBy cX9_givesBy 3 (some FieldType.int) ∈ om_tbl := om_mem (i := 1022) rfl rfl
set_option maxRecDepth 100000 in
theorem wd_1023 : Cond.methodLink RL 79 yX9_loose ∈ om_tbl := om_mem (i := 1023) rfl rfl
set_option maxRecDepth 100000 in
theorem wd_1024 : Cond.instanceMethod yX9_loose ∈ om_tbl := om_mem (i := 1024) rfl rfl
set_option maxRecDepth 100000 in
theorem wd_1025 : Cond.selects RX9 yX9_loose yX9_loose ∈ om_tbl := om_mem (i := 1025) rfl rfl
set_option maxRecDepth 100000 in
theorem wd_1026 : Cond.code yX9_loose cX9_loose 5 (some FieldType.int) ∈ om_tbl := om_mem (i := 1026) rfl rfl
set_option maxRecDepth 100000 in
theorem wd_1027 : Cond.methodLink RX9 189 yX9_weathers ∈ om_tbl := om_mem (i := 1027) rfl rfl
set_option maxRecDepth 100000 in
theorem wd_1029 : Cond.instanceMethod yX9_weathers ∈ om_tbl := om_mem (i := 1029) rfl rfl
set_option maxRecDepth 100000 in
theorem wd_1030 : Cond.code yX9_weathers cX9_weathers 2 none ∈ om_tbl := om_mem (i := 1030) rfl rfl
set_option maxRecDepth 100000 in
theorem wd_1031 : Cond.methodLink RX9 186 yX9_draw ∈ om_tbl := om_mem (i := 1031) rfl rfl
set_option maxRecDepth 100000 in
theorem wd_1033 : Cond.instanceMethod yX9_draw ∈ om_tbl := om_mem (i := 1033) rfl rfl
set_option maxRecDepth 100000 in
theorem wd_1034 : Cond.code yX9_draw cX9_draw 1 (some FieldType.int) ∈ om_tbl := om_mem (i := 1034) rfl rfl
set_option maxRecDepth 100000 in
theorem wd_1035 : Cond.constant RX9 164 1103515245 ∈ om_tbl := om_mem (i := 1035) rfl rfl
set_option maxRecDepth 100000 in
theorem wd_1036 : Cond.methodLink RL 83 yX9_seed ∈ om_tbl := om_mem (i := 1036) rfl rfl
set_option maxRecDepth 100000 in
theorem wd_1037 : Cond.instanceMethod yX9_seed ∈ om_tbl := om_mem (i := 1037) rfl rfl
set_option maxRecDepth 100000 in
theorem wd_1038 : Cond.selects RX9 yX9_seed yX9_seed ∈ om_tbl := om_mem (i := 1038) rfl rfl
set_option maxRecDepth 100000 in
theorem wd_1039 : Cond.code yX9_seed cX9_seed 2 (some FieldType.int) ∈ om_tbl := om_mem (i := 1039) rfl rfl
set_option maxRecDepth 100000 in
theorem wd_1040 : Cond.methodLink RL 87 yX9_tonight ∈ om_tbl := om_mem (i := 1040) rfl rfl
set_option maxRecDepth 100000 in
theorem wd_1041 : Cond.instanceMethod yX9_tonight ∈ om_tbl := om_mem (i := 1041) rfl rfl
set_option maxRecDepth 100000 in
theorem wd_1042 : Cond.selects RX9 yX9_tonight yX9_tonight ∈ om_tbl := om_mem (i := 1042) rfl rfl
set_option maxRecDepth 100000 in
theorem wd_1043 : Cond.code yX9_tonight cX9_tonight 3 (some FieldType.int) ∈ om_tbl := om_mem (i := 1043) rfl rfl
set_option maxRecDepth 100000 in
theorem wd_1044 : Cond.methodLink RL 92 yX9_lasts ∈ om_tbl := om_mem (i := 1044) rfl rfl
set_option maxRecDepth 100000 in
theorem wd_1045 : Cond.instanceMethod yX9_lasts ∈ om_tbl := om_mem (i := 1045) rfl rfl
set_option maxRecDepth 100000 in
theorem wd_1046 : Cond.selects RX9 yX9_lasts yX9_lasts ∈ om_tbl := om_mem (i := 1046) rfl rfl
set_option maxRecDepth 100000 in
theorem wd_1047 : Cond.code yX9_lasts cX9_lasts 1 (some FieldType.int) ∈ om_tbl := om_mem (i := 1047) rfl rfl
set_option maxRecDepth 100000 in
theorem wd_1048 : Cond.methodLink RX9 198 yX9_litNights ∈ om_tbl := om_mem (i := 1048) rfl rfl
set_option maxRecDepth 100000 in
theorem wd_1050 : Cond.instanceMethod yX9_litNights ∈ om_tbl := om_mem (i := 1050) rfl rfl
set_option maxRecDepth 100000 in
theorem wd_1051 : Cond.code yX9_litNights cX9_litNights 2 (some FieldType.int) ∈ om_tbl := om_mem (i := 1051) rfl rfl
set_option maxRecDepth 100000 in
theorem wd_1052 : Cond.methodLink RX9 192 yX9_layDown ∈ om_tbl := om_mem (i := 1052) rfl rfl
set_option maxRecDepth 100000 in
theorem wd_1054 : Cond.instanceMethod yX9_layDown ∈ om_tbl := om_mem (i := 1054) rfl rfl
set_option maxRecDepth 100000 in
theorem wd_1055 : Cond.code yX9_layDown cX9_layDown 2 none ∈ om_tbl := om_mem (i := 1055) rfl rfl
set_option maxRecDepth 100000 in
theorem wd_1056 : Cond.methodLink RX9 195 yX9_layBack ∈ om_tbl := om_mem (i := 1056) rfl rfl
set_option maxRecDepth 100000 in
theorem wd_1058 : Cond.instanceMethod yX9_layBack ∈ om_tbl := om_mem (i := 1058) rfl rfl
set_option maxRecDepth 100000 in
theorem wd_1059 : Cond.code yX9_layBack cX9_layBack 2 none ∈ om_tbl := om_mem (i := 1059) rfl rfl
set_option maxRecDepth 100000 in
theorem wd_1060 : Cond.methodLink RL 96 yX9_without ∈ om_tbl := om_mem (i := 1060) rfl rfl
set_option maxRecDepth 100000 in
theorem wd_1061 : Cond.instanceMethod yX9_without ∈ om_tbl := om_mem (i := 1061) rfl rfl
set_option maxRecDepth 100000 in
theorem wd_1062 : Cond.selects RX9 yX9_without yX9_without ∈ om_tbl := om_mem (i := 1062) rfl rfl
set_option maxRecDepth 100000 in
theorem wd_1063 : Cond.code yX9_without cX9_without 4 (some FieldType.int) ∈ om_tbl := om_mem (i := 1063) rfl rfl
set_option maxRecDepth 100000 in
theorem wd_1064 : Cond.methodLink RL 100 yX9_then ∈ om_tbl := om_mem (i := 1064) rfl rfl
set_option maxRecDepth 100000 in
theorem wd_1065 : Cond.instanceMethod yX9_then ∈ om_tbl := om_mem (i := 1065) rfl rfl
set_option maxRecDepth 100000 in
theorem wd_1066 : Cond.selects RX9 yX9_then yX9_then ∈ om_tbl := om_mem (i := 1066) rfl rfl
set_option maxRecDepth 100000 in
theorem wd_1067 : Cond.code yX9_then cX9_then 5 (some FieldType.int) ∈ om_tbl := om_mem (i := 1067) rfl rfl
set_option maxRecDepth 100000 in
theorem wd_1068 : Cond.methodLink RL 104 yX9_has ∈ om_tbl := om_mem (i := 1068) rfl rfl
set_option maxRecDepth 100000 in
theorem wd_1069 : Cond.instanceMethod yX9_has ∈ om_tbl := om_mem (i := 1069) rfl rfl
set_option maxRecDepth 100000 in
theorem wd_1070 : Cond.selects RX9 yX9_has yX9_has ∈ om_tbl := om_mem (i := 1070) rfl rfl
set_option maxRecDepth 100000 in
theorem wd_1071 : Cond.code yX9_has cX9_has 5 (some FieldType.int) ∈ om_tbl := om_mem (i := 1071) rfl rfl
set_option maxRecDepth 100000 in
theorem wd_1072 : Cond.methodLink RL 108 yX9_mixes ∈ om_tbl := om_mem (i := 1072) rfl rfl
set_option maxRecDepth 100000 in
theorem wd_1073 : Cond.instanceMethod yX9_mixes ∈ om_tbl := om_mem (i := 1073) rfl rfl
set_option maxRecDepth 100000 in
theorem wd_1074 : Cond.selects RX9 yX9_mixes yX9_mixes ∈ om_tbl := om_mem (i := 1074) rfl rfl
set_option maxRecDepth 100000 in
theorem wd_1075 : Cond.code yX9_mixes cX9_mixes 5 (some FieldType.int) ∈ om_tbl := om_mem (i := 1075) rfl rfl
set_option maxRecDepth 100000 in
theorem wd_1076 : Cond.methodLink RL 112 yX9_odds ∈ om_tbl := om_mem (i := 1076) rfl rfl
set_option maxRecDepth 100000 in
theorem wd_1077 : Cond.instanceMethod yX9_odds ∈ om_tbl := om_mem (i := 1077) rfl rfl
set_option maxRecDepth 100000 in
theorem wd_1078 : Cond.selects RX9 yX9_odds yX9_odds ∈ om_tbl := om_mem (i := 1078) rfl rfl
set_option maxRecDepth 100000 in
theorem wd_1079 : Cond.code yX9_odds cX9_odds 5 (some FieldType.int) ∈ om_tbl := om_mem (i := 1079) rfl rfl
set_option maxRecDepth 100000 in
theorem wd_1080 : Cond.methodLink RX9 201 yX9_divisor ∈ om_tbl := om_mem (i := 1080) rfl rfl
set_option maxRecDepth 100000 in
theorem wd_1081 : Cond.static yX9_divisor ∈ om_tbl := om_mem (i := 1081) rfl rfl
set_option maxRecDepth 100000 in
theorem wd_1082 : Cond.code yX9_divisor cX9_divisor 5 (some FieldType.int) ∈ om_tbl := om_mem (i := 1082) rfl rfl
set_option maxRecDepth 100000 in
theorem wd_1083 : Cond.methodLink RL 116 yX9_fits ∈ om_tbl := om_mem (i := 1083) rfl rfl
set_option maxRecDepth 100000 in
theorem wd_1084 : Cond.instanceMethod yX9_fits ∈ om_tbl := om_mem (i := 1084) rfl rfl
set_option maxRecDepth 100000 in
theorem wd_1085 : Cond.selects RX9 yX9_fits yX9_fits ∈ om_tbl := om_mem (i := 1085) rfl rfl
set_option maxRecDepth 100000 in
theorem wd_1086 : Cond.code yX9_fits cX9_fits 5 (some FieldType.int) ∈ om_tbl := om_mem (i := 1086) rfl rfl
set_option maxRecDepth 100000 in
theorem wd_1087 : Cond.methodLink RX9 204 yX9_lacks ∈ om_tbl := om_mem (i := 1087) rfl rfl
set_option maxRecDepth 100000 in
theorem wd_1089 : Cond.instanceMethod yX9_lacks ∈ om_tbl := om_mem (i := 1089) rfl rfl
set_option maxRecDepth 100000 in
theorem wd_1090 : Cond.code yX9_lacks cX9_lacks 2 (some FieldType.int) ∈ om_tbl := om_mem (i := 1090) rfl rfl
set_option maxRecDepth 100000 in
theorem wd_1091 : Cond.methodLink RX9 242 yX9_isSheet ∈ om_tbl := om_mem (i := 1091) rfl rfl
set_option maxRecDepth 100000 in
theorem wd_1092 : Cond.static yX9_isSheet ∈ om_tbl := om_mem (i := 1092) rfl rfl
set_option maxRecDepth 100000 in
theorem wd_1093 : Cond.code yX9_isSheet cX9_isSheet 1 (some FieldType.boolean) ∈ om_tbl := om_mem (i := 1093) rfl rfl
set_option maxRecDepth 100000 in
theorem wd_1094 : Cond.methodLink RX9 207 yX9_areLeftSo ∈ om_tbl := om_mem (i := 1094) rfl rfl
set_option maxRecDepth 100000 in
theorem wd_1096 : Cond.instanceMethod yX9_areLeftSo ∈ om_tbl := om_mem (i := 1096) rfl rfl
set_option maxRecDepth 100000 in
theorem wd_1097 : Cond.code yX9_areLeftSo cX9_areLeftSo 4 (some FieldType.boolean) ∈ om_tbl := om_mem (i := 1097) rfl rfl
set_option maxRecDepth 100000 in
theorem wd_1098 : Cond.methodLink RL 120 yX9_voice ∈ om_tbl := om_mem (i := 1098) rfl rfl
set_option maxRecDepth 100000 in
theorem wd_1099 : Cond.instanceMethod yX9_voice ∈ om_tbl := om_mem (i := 1099) rfl rfl
set_option maxRecDepth 100000 in
theorem wd_1100 : Cond.selects RX9 yX9_voice yX9_voice ∈ om_tbl := om_mem (i := 1100) rfl rfl
set_option maxRecDepth 100000 in
theorem wd_1101 : Cond.code yX9_voice cX9_voice 6 (some FieldType.int) ∈ om_tbl := om_mem (i := 1101) rfl rfl
set_option maxRecDepth 100000 in
theorem wd_1102 : Cond.methodLink RX9 223 yX9_kindNow ∈ om_tbl := om_mem (i := 1102) rfl rfl
set_option maxRecDepth 100000 in
theorem wd_1104 : Cond.instanceMethod yX9_kindNow ∈ om_tbl := om_mem (i := 1104) rfl rfl
set_option maxRecDepth 100000 in
theorem wd_1105 : Cond.code yX9_kindNow cX9_kindNow 1 (some FieldType.int) ∈ om_tbl := om_mem (i := 1105) rfl rfl
set_option maxRecDepth 100000 in
theorem wd_1106 : Cond.methodLink RX9 220 yX9_glowsAs ∈ om_tbl := om_mem (i := 1106) rfl rfl
set_option maxRecDepth 100000 in
theorem wd_1108 : Cond.instanceMethod yX9_glowsAs ∈ om_tbl := om_mem (i := 1108) rfl rfl
set_option maxRecDepth 100000 in
theorem wd_1109 : Cond.code yX9_glowsAs cX9_glowsAs 3 (some FieldType.int) ∈ om_tbl := om_mem (i := 1109) rfl rfl
set_option maxRecDepth 100000 in
theorem wd_1110 : Cond.methodLink RX9 216 yX9_starts ∈ om_tbl := om_mem (i := 1110) rfl rfl
set_option maxRecDepth 100000 in
theorem wd_1112 : Cond.instanceMethod yX9_starts ∈ om_tbl := om_mem (i := 1112) rfl rfl
set_option maxRecDepth 100000 in
theorem wd_1113 : Cond.code yX9_starts cX9_starts 2 none ∈ om_tbl := om_mem (i := 1113) rfl rfl
set_option maxRecDepth 100000 in
theorem wd_1114 : Cond.methodLink RX9 226 yX9_turnsAs ∈ om_tbl := om_mem (i := 1114) rfl rfl
set_option maxRecDepth 100000 in
theorem wd_1116 : Cond.instanceMethod yX9_turnsAs ∈ om_tbl := om_mem (i := 1116) rfl rfl
set_option maxRecDepth 100000 in
theorem wd_1117 : Cond.code yX9_turnsAs cX9_turnsAs 3 (some FieldType.int) ∈ om_tbl := om_mem (i := 1117) rfl rfl
set_option maxRecDepth 100000 in
theorem wd_1118 : Cond.methodLink RX9 229 yX9_mNow ∈ om_tbl := om_mem (i := 1118) rfl rfl
set_option maxRecDepth 100000 in
theorem wd_1120 : Cond.instanceMethod yX9_mNow ∈ om_tbl := om_mem (i := 1120) rfl rfl
set_option maxRecDepth 100000 in
theorem wd_1121 : Cond.code yX9_mNow cX9_mNow 1 (some FieldType.int) ∈ om_tbl := om_mem (i := 1121) rfl rfl
set_option maxRecDepth 100000 in
theorem wd_1122 : Cond.methodLink RX9 232 yX9_guttersAs ∈ om_tbl := om_mem (i := 1122) rfl rfl
set_option maxRecDepth 100000 in
theorem wd_1124 : Cond.instanceMethod yX9_guttersAs ∈ om_tbl := om_mem (i := 1124) rfl rfl
set_option maxRecDepth 100000 in
theorem wd_1125 : Cond.code yX9_guttersAs cX9_guttersAs 3 (some FieldType.int) ∈ om_tbl := om_mem (i := 1125) rfl rfl
set_option maxRecDepth 100000 in
theorem wd_1126 : Cond.methodLink RX9 239 yX9_partsAs ∈ om_tbl := om_mem (i := 1126) rfl rfl
set_option maxRecDepth 100000 in
theorem wd_1128 : Cond.instanceMethod yX9_partsAs ∈ om_tbl := om_mem (i := 1128) rfl rfl
set_option maxRecDepth 100000 in
theorem wd_1129 : Cond.code yX9_partsAs cX9_partsAs 5 (some FieldType.int) ∈ om_tbl := om_mem (i := 1129) rfl rfl
set_option maxRecDepth 100000 in
theorem wd_1130 : Cond.methodLink RL 124 yX9_body ∈ om_tbl := om_mem (i := 1130) rfl rfl
set_option maxRecDepth 100000 in
theorem wd_1131 : Cond.instanceMethod yX9_body ∈ om_tbl := om_mem (i := 1131) rfl rfl
set_option maxRecDepth 100000 in
theorem wd_1132 : Cond.selects RX9 yX9_body yX9_body ∈ om_tbl := om_mem (i := 1132) rfl rfl
set_option maxRecDepth 100000 in
theorem wd_1133 : Cond.code yX9_body cX9_body 2 (some FieldType.int) ∈ om_tbl := om_mem (i := 1133) rfl rfl
set_option maxRecDepth 100000 in
theorem wd_1134 : Cond.methodLink RL 128 yX9_sheet ∈ om_tbl := om_mem (i := 1134) rfl rfl
set_option maxRecDepth 100000 in
theorem wd_1135 : Cond.instanceMethod yX9_sheet ∈ om_tbl := om_mem (i := 1135) rfl rfl
set_option maxRecDepth 100000 in
theorem wd_1136 : Cond.selects RX9 yX9_sheet yX9_sheet ∈ om_tbl := om_mem (i := 1136) rfl rfl
set_option maxRecDepth 100000 in
theorem wd_1137 : Cond.code yX9_sheet cX9_sheet 5 (some FieldType.int) ∈ om_tbl := om_mem (i := 1137) rfl rfl
set_option maxRecDepth 100000 in
theorem wd_1138 : Cond.methodLink RL 132 yX9_put ∈ om_tbl := om_mem (i := 1138) rfl rfl
set_option maxRecDepth 100000 in
theorem wd_1139 : Cond.instanceMethod yX9_put ∈ om_tbl := om_mem (i := 1139) rfl rfl
set_option maxRecDepth 100000 in
theorem wd_1140 : Cond.selects RX9 yX9_put yX9_put ∈ om_tbl := om_mem (i := 1140) rfl rfl
set_option maxRecDepth 100000 in
theorem wd_1141 : Cond.code yX9_put cX9_put 5 (some FieldType.int) ∈ om_tbl := om_mem (i := 1141) rfl rfl
set_option maxRecDepth 100000 in
theorem wd_1142 : Cond.methodLink RL 137 yX9_move ∈ om_tbl := om_mem (i := 1142) rfl rfl
set_option maxRecDepth 100000 in
theorem wd_1143 : Cond.instanceMethod yX9_move ∈ om_tbl := om_mem (i := 1143) rfl rfl
set_option maxRecDepth 100000 in
theorem wd_1144 : Cond.selects RX9 yX9_move yX9_move ∈ om_tbl := om_mem (i := 1144) rfl rfl
set_option maxRecDepth 100000 in
theorem wd_1145 : Cond.code yX9_move cX9_move 7 (some FieldType.int) ∈ om_tbl := om_mem (i := 1145) rfl rfl
set_option maxRecDepth 100000 in
theorem wd_1146 : Cond.methodLink RL 141 yX9_dears ∈ om_tbl := om_mem (i := 1146) rfl rfl
set_option maxRecDepth 100000 in
theorem wd_1147 : Cond.instanceMethod yX9_dears ∈ om_tbl := om_mem (i := 1147) rfl rfl
set_option maxRecDepth 100000 in
theorem wd_1148 : Cond.selects RX9 yX9_dears yX9_dears ∈ om_tbl := om_mem (i := 1148) rfl rfl
set_option maxRecDepth 100000 in
theorem wd_1149 : Cond.code yX9_dears cX9_dears 4 (some FieldType.int) ∈ om_tbl := om_mem (i := 1149) rfl rfl
set_option maxRecDepth 100000 in
theorem wd_1150 : Cond.methodLink RL 145 yX9_judge ∈ om_tbl := om_mem (i := 1150) rfl rfl
set_option maxRecDepth 100000 in
theorem wd_1151 : Cond.instanceMethod yX9_judge ∈ om_tbl := om_mem (i := 1151) rfl rfl
set_option maxRecDepth 100000 in
theorem wd_1152 : Cond.selects RX9 yX9_judge yX9_judge ∈ om_tbl := om_mem (i := 1152) rfl rfl
set_option maxRecDepth 100000 in
theorem wd_1153 : Cond.code yX9_judge cX9_judge 4 (some FieldType.int) ∈ om_tbl := om_mem (i := 1153) rfl rfl
set_option maxRecDepth 100000 in
theorem wd_1154 : Cond.methodLink RL 149 yX9_image ∈ om_tbl := om_mem (i := 1154) rfl rfl
set_option maxRecDepth 100000 in
theorem wd_1155 : Cond.instanceMethod yX9_image ∈ om_tbl := om_mem (i := 1155) rfl rfl
set_option maxRecDepth 100000 in
theorem wd_1156 : Cond.selects RX9 yX9_image yX9_image ∈ om_tbl := om_mem (i := 1156) rfl rfl
set_option maxRecDepth 100000 in
theorem wd_1157 : Cond.code yX9_image cX9_image 1 (some FieldType.int) ∈ om_tbl := om_mem (i := 1157) rfl rfl
set_option maxRecDepth 100000 in
theorem wd_1158 : Cond.methodLink RX9 245 yX9_copyAll ∈ om_tbl := om_mem (i := 1158) rfl rfl
set_option maxRecDepth 100000 in
theorem wd_1159 : Cond.static yX9_copyAll ∈ om_tbl := om_mem (i := 1159) rfl rfl
set_option maxRecDepth 100000 in
theorem wd_1160 : Cond.code yX9_copyAll cX9_copyAll 3 none ∈ om_tbl := om_mem (i := 1160) rfl rfl
set_option maxRecDepth 100000 in
theorem wd_1161 : Cond.methodLink RL 153 yX9_restore ∈ om_tbl := om_mem (i := 1161) rfl rfl
set_option maxRecDepth 100000 in
theorem wd_1162 : Cond.instanceMethod yX9_restore ∈ om_tbl := om_mem (i := 1162) rfl rfl
set_option maxRecDepth 100000 in
theorem wd_1163 : Cond.selects RX9 yX9_restore yX9_restore ∈ om_tbl := om_mem (i := 1163) rfl rfl
set_option maxRecDepth 100000 in
theorem wd_1164 : Cond.code yX9_restore cX9_restore 1 (some FieldType.int) ∈ om_tbl := om_mem (i := 1164) rfl rfl
set_option maxRecDepth 100000 in
theorem wd_1165 : Cond.methodLink RL 157 yX9_tell ∈ om_tbl := om_mem (i := 1165) rfl rfl
set_option maxRecDepth 100000 in
theorem wd_1166 : Cond.instanceMethod yX9_tell ∈ om_tbl := om_mem (i := 1166) rfl rfl
set_option maxRecDepth 100000 in
theorem wd_1167 : Cond.selects RX9 yX9_tell yX9_tell ∈ om_tbl := om_mem (i := 1167) rfl rfl
set_option maxRecDepth 100000 in
theorem wd_1168 : Cond.code yX9_tell cX9_tell 2 (some FieldType.int) ∈ om_tbl := om_mem (i := 1168) rfl rfl
set_option maxRecDepth 100000 in
theorem wd_1169 : Cond.methodLink RL 161 yX9_check ∈ om_tbl := om_mem (i := 1169) rfl rfl
set_option maxRecDepth 100000 in
theorem wd_1170 : Cond.instanceMethod yX9_check ∈ om_tbl := om_mem (i := 1170) rfl rfl
set_option maxRecDepth 100000 in
theorem wd_1171 : Cond.selects RX9 yX9_check yX9_check ∈ om_tbl := om_mem (i := 1171) rfl rfl
set_option maxRecDepth 100000 in
theorem wd_1172 : Cond.code yX9_check cX9_check 3 (some FieldType.int) ∈ om_tbl := om_mem (i := 1172) rfl rfl
set_option maxRecDepth 100000 in
theorem wd_1173 : Cond.methodLink RL 165 yX9_count ∈ om_tbl := om_mem (i := 1173) rfl rfl
set_option maxRecDepth 100000 in
theorem wd_1174 : Cond.instanceMethod yX9_count ∈ om_tbl := om_mem (i := 1174) rfl rfl
set_option maxRecDepth 100000 in
theorem wd_1175 : Cond.selects RX9 yX9_count yX9_count ∈ om_tbl := om_mem (i := 1175) rfl rfl
set_option maxRecDepth 100000 in
theorem wd_1176 : Cond.code yX9_count cX9_count 2 (some FieldType.int) ∈ om_tbl := om_mem (i := 1176) rfl rfl
set_option maxRecDepth 100000 in
theorem wd_1177 : Cond.methodLink RL 169 yX9_told ∈ om_tbl := om_mem (i := 1177) rfl rfl
set_option maxRecDepth 100000 in
theorem wd_1178 : Cond.instanceMethod yX9_told ∈ om_tbl := om_mem (i := 1178) rfl rfl
set_option maxRecDepth 100000 in
theorem wd_1179 : Cond.selects RX9 yX9_told yX9_told ∈ om_tbl := om_mem (i := 1179) rfl rfl
set_option maxRecDepth 100000 in
theorem wd_1180 : Cond.code yX9_told cX9_told 2 (some FieldType.int) ∈ om_tbl := om_mem (i := 1180) rfl rfl
set_option maxRecDepth 100000 in
theorem wd_1181 : Cond.constantLong RL 52 4294967295 ∈ om_tbl := om_mem (i := 1181) rfl rfl
theorem in_X0 : ∀ w ∈ u_ws RX0 TX0 5, w ∈ om_tbl := List.forall_mem_cons.mpr ⟨wd_188, List.forall_mem_cons.mpr ⟨wd_190, List.forall_mem_cons.mpr ⟨wd_192, List.forall_mem_cons.mpr ⟨wd_194, List.forall_mem_cons.mpr ⟨wd_196, fun _ h => absurd h List.not_mem_nil⟩⟩⟩⟩⟩
theorem in_X1 : ∀ w ∈ u_ws RX1 TX1 5, w ∈ om_tbl := List.forall_mem_cons.mpr ⟨wd_135, List.forall_mem_cons.mpr ⟨wd_137, List.forall_mem_cons.mpr ⟨wd_139, List.forall_mem_cons.mpr ⟨wd_141, List.forall_mem_cons.mpr ⟨wd_143, fun _ h => absurd h List.not_mem_nil⟩⟩⟩⟩⟩
theorem in_X2 : ∀ w ∈ u_ws RX2 TX2 4, w ∈ om_tbl := List.forall_mem_cons.mpr ⟨wd_216, List.forall_mem_cons.mpr ⟨wd_218, List.forall_mem_cons.mpr ⟨wd_220, List.forall_mem_cons.mpr ⟨wd_222, fun _ h => absurd h List.not_mem_nil⟩⟩⟩⟩
theorem in_X3 : ∀ w ∈ u_ws RX3 TX3 2, w ∈ om_tbl := List.forall_mem_cons.mpr ⟨wd_93, List.forall_mem_cons.mpr ⟨wd_95, fun _ h => absurd h List.not_mem_nil⟩⟩
theorem in_X4 : ∀ w ∈ u_ws RX4 TX4 3, w ∈ om_tbl := List.forall_mem_cons.mpr ⟨wd_262, List.forall_mem_cons.mpr ⟨wd_264, List.forall_mem_cons.mpr ⟨wd_266, fun _ h => absurd h List.not_mem_nil⟩⟩⟩
theorem in_X5 : ∀ w ∈ u_ws RX5 TX5 3, w ∈ om_tbl := List.forall_mem_cons.mpr ⟨wd_104, List.forall_mem_cons.mpr ⟨wd_106, List.forall_mem_cons.mpr ⟨wd_108, fun _ h => absurd h List.not_mem_nil⟩⟩⟩
theorem in_X6 : ∀ w ∈ u_ws RX6 TX6 8, w ∈ om_tbl := List.forall_mem_cons.mpr ⟨wd_160, List.forall_mem_cons.mpr ⟨wd_162, List.forall_mem_cons.mpr ⟨wd_164, List.forall_mem_cons.mpr ⟨wd_166, List.forall_mem_cons.mpr ⟨wd_168, List.forall_mem_cons.mpr ⟨wd_170, List.forall_mem_cons.mpr ⟨wd_172, List.forall_mem_cons.mpr ⟨wd_174, fun _ h => absurd h List.not_mem_nil⟩⟩⟩⟩⟩⟩⟩⟩
theorem in_X7 : ∀ w ∈ u_ws RX7 TX7 5, w ∈ om_tbl := List.forall_mem_cons.mpr ⟨wd_240, List.forall_mem_cons.mpr ⟨wd_242, List.forall_mem_cons.mpr ⟨wd_244, List.forall_mem_cons.mpr ⟨wd_246, List.forall_mem_cons.mpr ⟨wd_248, fun _ h => absurd h List.not_mem_nil⟩⟩⟩⟩⟩
theorem in_X8 : ∀ w ∈ u_ws RX8 TX8 13, w ∈ om_tbl := List.forall_mem_cons.mpr ⟨wd_282, List.forall_mem_cons.mpr ⟨wd_284, List.forall_mem_cons.mpr ⟨wd_286, List.forall_mem_cons.mpr ⟨wd_288, List.forall_mem_cons.mpr ⟨wd_290, List.forall_mem_cons.mpr ⟨wd_292, List.forall_mem_cons.mpr ⟨wd_294, List.forall_mem_cons.mpr ⟨wd_296, List.forall_mem_cons.mpr ⟨wd_298, List.forall_mem_cons.mpr ⟨wd_300, List.forall_mem_cons.mpr ⟨wd_302, List.forall_mem_cons.mpr ⟨wd_304, List.forall_mem_cons.mpr ⟨wd_306, fun _ h => absurd h List.not_mem_nil⟩⟩⟩⟩⟩⟩⟩⟩⟩⟩⟩⟩⟩
theorem in_X9 : ∀ w ∈ u_ws RX9 TX9 23, w ∈ om_tbl := List.forall_mem_cons.mpr ⟨wd_785, List.forall_mem_cons.mpr ⟨wd_787, List.forall_mem_cons.mpr ⟨wd_789, List.forall_mem_cons.mpr ⟨wd_791, List.forall_mem_cons.mpr ⟨wd_793, List.forall_mem_cons.mpr ⟨wd_795, List.forall_mem_cons.mpr ⟨wd_797, List.forall_mem_cons.mpr ⟨wd_799, List.forall_mem_cons.mpr ⟨wd_801, List.forall_mem_cons.mpr ⟨wd_803, List.forall_mem_cons.mpr ⟨wd_805, List.forall_mem_cons.mpr ⟨wd_807, List.forall_mem_cons.mpr ⟨wd_809, List.forall_mem_cons.mpr ⟨wd_811, List.forall_mem_cons.mpr ⟨wd_813, List.forall_mem_cons.mpr ⟨wd_815, List.forall_mem_cons.mpr ⟨wd_817, List.forall_mem_cons.mpr ⟨wd_819, List.forall_mem_cons.mpr ⟨wd_821, List.forall_mem_cons.mpr ⟨wd_823, List.forall_mem_cons.mpr ⟨wd_825, List.forall_mem_cons.mpr ⟨wd_827, List.forall_mem_cons.mpr ⟨wd_829, fun _ h => absurd h List.not_mem_nil⟩⟩⟩⟩⟩⟩⟩⟩⟩⟩⟩⟩⟩⟩⟩⟩⟩⟩⟩⟩⟩⟩⟩
