/-! the places of the words -/
set_option maxRecDepth 20000 in
theorem m0_0 : Cond.selects RX5 yX5_begin yX5_begin ∈ jB := jB_0 0 rfl rfl
set_option maxRecDepth 20000 in
theorem m0_1 : Cond.selects RX5 yX5_addAct yX5_addAct ∈ jB := jB_0 1 rfl rfl
set_option maxRecDepth 20000 in
theorem m0_2 : Cond.selects RX8 yX8_readItem yX8_readItem ∈ jB := jB_0 2 rfl rfl
set_option maxRecDepth 20000 in
theorem m0_3 : Cond.selects RX8 yX8_nextLetter yX8_nextLetter ∈ jB := jB_0 3 rfl rfl
set_option maxRecDepth 20000 in
theorem m0_4 : Cond.selects RX8 yX8_readNumber yX8_readNumber ∈ jB := jB_0 4 rfl rfl
set_option maxRecDepth 20000 in
theorem m0_5 : Cond.selects RX9 yX9_isPlace yX9_isPlace ∈ jB := jB_0 5 rfl rfl
set_option maxRecDepth 20000 in
theorem m0_6 : Cond.selects RX9 yX9_isCard yX9_isCard ∈ jB := jB_0 6 rfl rfl
set_option maxRecDepth 20000 in
theorem m0_7 : Cond.selects RX9 yX9_act yX9_act ∈ jB := jB_0 7 rfl rfl
set_option maxRecDepth 20000 in
theorem m0_8 : Cond.selects RX0 yX0_isNextTo yX0_isNextTo ∈ jB := jB_0 8 rfl rfl
set_option maxRecDepth 20000 in
theorem m0_9 : Cond.selects RX0 yX0_firstKind yX0_firstKind ∈ jB := jB_0 9 rfl rfl
set_option maxRecDepth 20000 in
theorem m0_10 : Cond.selects RX0 yX0_heldWith yX0_heldWith ∈ jB := jB_0 10 rfl rfl
set_option maxRecDepth 20000 in
theorem m0_11 : Cond.selects RX2 yX2_waysByLastPair yX2_waysByLastPair ∈ jB := jB_0 11 rfl rfl
set_option maxRecDepth 20000 in
theorem m0_12 : Cond.selects RX2 yX2_waysOf yX2_waysOf ∈ jB := jB_0 12 rfl rfl
set_option maxRecDepth 20000 in
theorem m0_13 : Cond.selects RX2 yX2_setWays yX2_setWays ∈ jB := jB_0 13 rfl rfl
set_option maxRecDepth 20000 in
theorem m0_14 : Cond.selects RX9 yX9_fittingKinds yX9_fittingKinds ∈ jB := jB_0 14 rfl rfl
set_option maxRecDepth 20000 in
theorem m0_15 : Cond.selects RX9 yX9_fittingCuts yX9_fittingCuts ∈ jB := jB_0 15 rfl rfl
set_option maxRecDepth 20000 in
theorem m0_16 : Cond.selects RX9 yX9_endOfWay yX9_endOfWay ∈ jB := jB_0 16 rfl rfl
set_option maxRecDepth 20000 in
theorem m0_17 : Cond.selects RX9 yX9_drawnMove yX9_drawnMove ∈ jB := jB_0 17 rfl rfl
set_option maxRecDepth 20000 in
theorem m0_18 : Cond.selects RX10 yX10_clearTold yX10_clearTold ∈ jB := jB_0 18 rfl rfl
set_option maxRecDepth 20000 in
theorem m0_19 : Cond.selects RX10 yX10_colours yX10_colours ∈ jB := jB_0 19 rfl rfl
set_option maxRecDepth 20000 in
theorem m0_20 : Cond.selects RX10 yX10_settles yX10_settles ∈ jB := jB_0 20 rfl rfl
set_option maxRecDepth 20000 in
theorem m0_21 : Cond.selects RX10 yX10_readItem yX10_readItem ∈ jB := jB_0 21 rfl rfl
set_option maxRecDepth 20000 in
theorem m0_22 : Cond.selects RX10 yX10_letterAt yX10_letterAt ∈ jB := jB_0 22 rfl rfl
set_option maxRecDepth 20000 in
theorem m0_23 : Cond.selects RX10 yX10_readCardsOf yX10_readCardsOf ∈ jB := jB_0 23 rfl rfl
set_option maxRecDepth 20000 in
theorem m0_24 : Cond.selects RX10 yX10_readNumbers yX10_readNumbers ∈ jB := jB_0 24 rfl rfl
set_option maxRecDepth 20000 in
theorem m0_25 : Cond.selects RX10 yX10_isTold yX10_isTold ∈ jB := jB_0 25 rfl rfl
set_option maxRecDepth 20000 in
theorem m0_26 : Cond.selects RX10 yX10_readColourOf yX10_readColourOf ∈ jB := jB_0 26 rfl rfl
set_option maxRecDepth 20000 in
theorem m0_27 : Cond.selects RX10 yX10_readDealOf yX10_readDealOf ∈ jB := jB_0 27 rfl rfl
set_option maxRecDepth 20000 in
theorem m0_28 : Cond.selects RX10 yX10_isCard yX10_isCard ∈ jB := jB_0 28 rfl rfl
set_option maxRecDepth 20000 in
theorem m0_29 : Cond.selects RX10 yX10_asItIs yX10_asItIs ∈ jB := jB_0 29 rfl rfl
set_option maxRecDepth 20000 in
theorem m0_30 : Cond.selects RX10 yX10_placeOf yX10_placeOf ∈ jB := jB_0 30 rfl rfl
set_option maxRecDepth 20000 in
theorem m0_31 : Cond.selects RX10 yX10_does yX10_does ∈ jB := jB_0 31 rfl rfl
set_option maxRecDepth 20000 in
theorem m0_32 : Cond.selects RX10 yX10_remembers yX10_remembers ∈ jB := jB_0 32 rfl rfl
set_option maxRecDepth 20000 in
theorem m0_33 : Cond.selects RX10 yX10_acts yX10_acts ∈ jB := jB_0 33 rfl rfl
set_option maxRecDepth 20000 in
theorem m0_34 : Cond.selects RX10 yX10_falls yX10_falls ∈ jB := jB_0 34 rfl rfl
set_option maxRecDepth 20000 in
theorem m0_35 : Cond.selects RX10 yX10_milks yX10_milks ∈ jB := jB_0 35 rfl rfl
set_option maxRecDepth 20000 in
theorem m0_36 : Cond.selects RX10 yX10_under yX10_under ∈ jB := jB_0 36 rfl rfl
set_option maxRecDepth 20000 in
theorem m0_37 : Cond.selects RX10 yX10_cuts yX10_cuts ∈ jB := jB_0 37 rfl rfl
set_option maxRecDepth 20000 in
theorem m0_38 : Cond.selects RX10 yX10_deals yX10_deals ∈ jB := jB_0 38 rfl rfl
set_option maxRecDepth 20000 in
theorem m0_39 : Cond.selects RX10 yX10_isInOrder yX10_isInOrder ∈ jB := jB_0 39 rfl rfl
set_option maxRecDepth 20000 in
theorem m0_40 : Cond.selects RX10 yX10_findFar yX10_findFar ∈ jB := jB_0 40 rfl rfl
set_option maxRecDepth 20000 in
theorem m0_41 : Cond.selects RX10 yX10_findGoes yX10_findGoes ∈ jB := jB_0 41 rfl rfl
set_option maxRecDepth 20000 in
theorem m0_42 : Cond.selects RX10 yX10_isMet yX10_isMet ∈ jB := jB_0 42 rfl rfl
set_option maxRecDepth 20000 in
theorem m0_43 : Cond.selects RX10 yX10_risingNow yX10_risingNow ∈ jB := jB_0 43 rfl rfl
set_option maxRecDepth 20000 in
theorem m0_44 : Cond.selects RX10 yX10_unlike yX10_unlike ∈ jB := jB_0 44 rfl rfl
set_option maxRecDepth 20000 in
theorem m0_45 : Cond.selects RX10 yX10_isBy yX10_isBy ∈ jB := jB_0 45 rfl rfl
set_option maxRecDepth 20000 in
theorem m1_0 : Cond.initialized RL ∈ jB := jB_1 0 rfl rfl
set_option maxRecDepth 20000 in
theorem m1_1 : Cond.initialized RX9 ∈ jB := jB_1 1 rfl rfl
set_option maxRecDepth 20000 in
theorem m1_2 : Cond.initialized RX8 ∈ jB := jB_1 2 rfl rfl
set_option maxRecDepth 20000 in
theorem m1_3 : Cond.initialized RX5 ∈ jB := jB_1 3 rfl rfl
set_option maxRecDepth 20000 in
theorem m1_4 : Cond.initialized RX6 ∈ jB := jB_1 4 rfl rfl
set_option maxRecDepth 20000 in
theorem m1_5 : Cond.initialized RJ9 ∈ jB := jB_1 5 rfl rfl
set_option maxRecDepth 20000 in
theorem m1_6 : Cond.initialized RX7 ∈ jB := jB_1 6 rfl rfl
set_option maxRecDepth 20000 in
theorem m1_7 : Cond.initialized RX0 ∈ jB := jB_1 7 rfl rfl
set_option maxRecDepth 20000 in
theorem m1_8 : Cond.initialized RX2 ∈ jB := jB_1 8 rfl rfl
set_option maxRecDepth 20000 in
theorem m1_9 : Cond.initialized RX4 ∈ jB := jB_1 9 rfl rfl
set_option maxRecDepth 20000 in
theorem m1_10 : Cond.initialized RX3 ∈ jB := jB_1 10 rfl rfl
set_option maxRecDepth 20000 in
theorem m1_11 : Cond.initialized RX10 ∈ jB := jB_1 11 rfl rfl
set_option maxRecDepth 20000 in
theorem m1_12 : Cond.initialized RJ10 ∈ jB := jB_1 12 rfl rfl
set_option maxRecDepth 20000 in
theorem m1_13 : Cond.initialized RX1 ∈ jB := jB_1 13 rfl rfl
set_option maxRecDepth 20000 in
theorem m1_14 : Cond.classLink RL 7 RX9 ∈ jB := jB_1 14 rfl rfl
set_option maxRecDepth 20000 in
theorem m1_15 : Cond.instantiable RX9 9 ∈ jB := jB_1 15 rfl rfl
set_option maxRecDepth 20000 in
theorem m1_16 : Cond.methodLink RL 9 yX9_init ∈ jB := jB_1 16 rfl rfl
set_option maxRecDepth 20000 in
theorem m1_17 : Cond.instanceMethod yX9_init ∈ jB := jB_1 17 rfl rfl
set_option maxRecDepth 20000 in
theorem m1_18 : Cond.code yX9_init cX9_init 1 none ∈ jB := jB_1 18 rfl rfl
set_option maxRecDepth 20000 in
theorem m1_19 : Cond.methodLink RX9 1 objectInit ∈ jB := jB_1 19 rfl rfl
set_option maxRecDepth 20000 in
theorem m1_20 : Cond.instanceMethod objectInit ∈ jB := jB_1 20 rfl rfl
set_option maxRecDepth 20000 in
theorem m1_21 : Cond.code objectInit object_method_1_code 1 none ∈ jB := jB_1 21 rfl rfl
set_option maxRecDepth 20000 in
theorem m1_22 : Cond.classLink RX9 7 RX8 ∈ jB := jB_1 22 rfl rfl
set_option maxRecDepth 20000 in
theorem m1_23 : Cond.instantiable RX8 3 ∈ jB := jB_1 23 rfl rfl
set_option maxRecDepth 20000 in
theorem m1_25 : Cond.instanceMethod yX8_init ∈ jB := jB_1 25 rfl rfl
set_option maxRecDepth 20000 in
theorem m1_26 : Cond.code yX8_init cX8_init 1 none ∈ jB := jB_1 26 rfl rfl
set_option maxRecDepth 20000 in
theorem m1_27 : Cond.methodLink RX8 3 objectInit ∈ jB := jB_1 27 rfl rfl
set_option maxRecDepth 20000 in
theorem m1_28 : Cond.fieldLink RX8 11 RX8 "letters" "[C" ∈ jB := jB_1 28 rfl rfl
set_option maxRecDepth 20000 in
theorem m1_29 : Cond.fieldLink RX8 15 RX8 "length" "I" ∈ jB := jB_1 29 rfl rfl
set_option maxRecDepth 20000 in
theorem m1_31 : Cond.fieldLink RX8 24 RX8 "next" "I" ∈ jB := jB_1 31 rfl rfl
set_option maxRecDepth 20000 in
theorem m1_32 : Cond.laysFinal RX8 RX8 "letters" "[C" ∈ jB := jB_1 32 rfl rfl
set_option maxRecDepth 20000 in
theorem m1_34 : Cond.lays RX8 RX8 "length" "I" ∈ jB := jB_1 34 rfl rfl
set_option maxRecDepth 20000 in
theorem m1_36 : Cond.lays RX8 RX8 "next" "I" ∈ jB := jB_1 36 rfl rfl
set_option maxRecDepth 20000 in
theorem m1_38 : Cond.superclass RX8 "java/lang/Object" ∈ jB := jB_1 38 rfl rfl
set_option maxRecDepth 20000 in
theorem m1_39 : Cond.arrayClass .char ∈ jB := jB_1 39 rfl rfl
set_option maxRecDepth 20000 in
theorem m1_40 : Cond.classLink RX9 16 RX5 ∈ jB := jB_1 40 rfl rfl
set_option maxRecDepth 20000 in
theorem m1_41 : Cond.instantiable RX5 5 ∈ jB := jB_1 41 rfl rfl
set_option maxRecDepth 20000 in
theorem m1_43 : Cond.instanceMethod yX5_init ∈ jB := jB_1 43 rfl rfl
set_option maxRecDepth 20000 in
theorem m1_44 : Cond.code yX5_init cX5_init 1 none ∈ jB := jB_1 44 rfl rfl
set_option maxRecDepth 20000 in
theorem m1_45 : Cond.methodLink RX5 1 objectInit ∈ jB := jB_1 45 rfl rfl
set_option maxRecDepth 20000 in
theorem m1_48 : Cond.fieldLink RX5 30 RX5 "cards" "I" ∈ jB := jB_1 48 rfl rfl
set_option maxRecDepth 20000 in
theorem m1_49 : Cond.fieldLink RX5 34 RX5 "colours" "I" ∈ jB := jB_1 49 rfl rfl
set_option maxRecDepth 20000 in
theorem m1_50 : Cond.fieldLink RX5 37 RX5 "acts" "I" ∈ jB := jB_1 50 rfl rfl
set_option maxRecDepth 20000 in
theorem m1_52 : Cond.fieldLink RX5 40 RX5 "deal" "J" ∈ jB := jB_1 52 rfl rfl
set_option maxRecDepth 20000 in
theorem m1_54 : Cond.fieldLink RX5 7 RX5 "cardsAreFixed" "Z" ∈ jB := jB_1 54 rfl rfl
set_option maxRecDepth 20000 in
theorem m1_55 : Cond.lays RX5 RX5 "cards" "I" ∈ jB := jB_1 55 rfl rfl
set_option maxRecDepth 20000 in
theorem m1_57 : Cond.lays RX5 RX5 "colours" "I" ∈ jB := jB_1 57 rfl rfl
set_option maxRecDepth 20000 in
theorem m1_59 : Cond.lays RX5 RX5 "acts" "I" ∈ jB := jB_1 59 rfl rfl
set_option maxRecDepth 20000 in
theorem m1_61 : Cond.lays RX5 RX5 "deal" "J" ∈ jB := jB_1 61 rfl rfl
set_option maxRecDepth 20000 in
theorem m1_63 : Cond.lays RX5 RX5 "cardsAreFixed" "Z" ∈ jB := jB_1 63 rfl rfl
set_option maxRecDepth 20000 in
theorem m1_65 : Cond.superclass RX5 "java/lang/Object" ∈ jB := jB_1 65 rfl rfl
set_option maxRecDepth 20000 in
theorem m1_66 : Cond.classLink RX9 26 RX6 ∈ jB := jB_1 66 rfl rfl
set_option maxRecDepth 20000 in
theorem m1_67 : Cond.instantiable RX6 2 ∈ jB := jB_1 67 rfl rfl
set_option maxRecDepth 20000 in
theorem m1_68 : Cond.methodLink RX9 28 yX6_init ∈ jB := jB_1 68 rfl rfl
set_option maxRecDepth 20000 in
theorem m1_69 : Cond.instanceMethod yX6_init ∈ jB := jB_1 69 rfl rfl
set_option maxRecDepth 20000 in
theorem m1_70 : Cond.code yX6_init cX6_init 2 none ∈ jB := jB_1 70 rfl rfl
set_option maxRecDepth 20000 in
theorem m1_71 : Cond.methodLink RX6 1 objectInit ∈ jB := jB_1 71 rfl rfl
set_option maxRecDepth 20000 in
theorem m1_72 : Cond.methodLink RX6 7 Lib.Math.max.name ∈ jB := jB_1 72 rfl rfl
set_option maxRecDepth 20000 in
theorem m1_73 : Cond.static Lib.Math.max.name ∈ jB := jB_1 73 rfl rfl
set_option maxRecDepth 20000 in
theorem m1_74 : Cond.code Lib.Math.max.name cJ9_max_7cf53 2 (some .int) ∈ jB := jB_1 74 rfl rfl
set_option maxRecDepth 20000 in
theorem m1_75 : Cond.fieldLink RX6 13 RX6 "stored" "[J" ∈ jB := jB_1 75 rfl rfl
set_option maxRecDepth 20000 in
theorem m1_76 : Cond.fieldLink RX6 19 RX6 "held" "I" ∈ jB := jB_1 76 rfl rfl
set_option maxRecDepth 20000 in
theorem m1_78 : Cond.laysFinal RX6 RX6 "stored" "[J" ∈ jB := jB_1 78 rfl rfl
set_option maxRecDepth 20000 in
theorem m1_80 : Cond.lays RX6 RX6 "held" "I" ∈ jB := jB_1 80 rfl rfl
set_option maxRecDepth 20000 in
theorem m1_82 : Cond.superclass RX6 "java/lang/Object" ∈ jB := jB_1 82 rfl rfl
set_option maxRecDepth 20000 in
theorem m1_83 : Cond.arrayClass .long ∈ jB := jB_1 83 rfl rfl
set_option maxRecDepth 20000 in
theorem m1_84 : Cond.classLink RX9 38 RX7 ∈ jB := jB_1 84 rfl rfl
set_option maxRecDepth 20000 in
theorem m1_85 : Cond.instantiable RX7 3 ∈ jB := jB_1 85 rfl rfl
set_option maxRecDepth 20000 in
theorem m1_87 : Cond.instanceMethod yX7_init ∈ jB := jB_1 87 rfl rfl
set_option maxRecDepth 20000 in
theorem m1_88 : Cond.code yX7_init cX7_init 1 none ∈ jB := jB_1 88 rfl rfl
set_option maxRecDepth 20000 in
theorem m1_89 : Cond.methodLink RX7 1 objectInit ∈ jB := jB_1 89 rfl rfl
set_option maxRecDepth 20000 in
theorem m1_90 : Cond.fieldLink RX7 9 RX7 "cards" "[I" ∈ jB := jB_1 90 rfl rfl
set_option maxRecDepth 20000 in
theorem m1_91 : Cond.fieldLink RX7 13 RX7 "places" "[I" ∈ jB := jB_1 91 rfl rfl
set_option maxRecDepth 20000 in
theorem m1_92 : Cond.fieldLink RX7 16 RX7 "held" "I" ∈ jB := jB_1 92 rfl rfl
set_option maxRecDepth 20000 in
theorem m1_94 : Cond.laysFinal RX7 RX7 "cards" "[I" ∈ jB := jB_1 94 rfl rfl
set_option maxRecDepth 20000 in
theorem m1_96 : Cond.laysFinal RX7 RX7 "places" "[I" ∈ jB := jB_1 96 rfl rfl
set_option maxRecDepth 20000 in
theorem m1_98 : Cond.lays RX7 RX7 "held" "I" ∈ jB := jB_1 98 rfl rfl
set_option maxRecDepth 20000 in
theorem m1_100 : Cond.superclass RX7 "java/lang/Object" ∈ jB := jB_1 100 rfl rfl
set_option maxRecDepth 20000 in
theorem m1_101 : Cond.arrayClass .int ∈ jB := jB_1 101 rfl rfl
set_option maxRecDepth 20000 in
theorem m1_102 : Cond.classLink RX9 45 RX0 ∈ jB := jB_1 102 rfl rfl
set_option maxRecDepth 20000 in
theorem m1_103 : Cond.instantiable RX0 3 ∈ jB := jB_1 103 rfl rfl
set_option maxRecDepth 20000 in
theorem m1_105 : Cond.instanceMethod yX0_init ∈ jB := jB_1 105 rfl rfl
set_option maxRecDepth 20000 in
theorem m1_106 : Cond.code yX0_init cX0_init 1 none ∈ jB := jB_1 106 rfl rfl
set_option maxRecDepth 20000 in
theorem m1_107 : Cond.methodLink RX0 3 objectInit ∈ jB := jB_1 107 rfl rfl
set_option maxRecDepth 20000 in
theorem m1_108 : Cond.fieldLink RX0 11 RX0 "stepsFrom" "[I" ∈ jB := jB_1 108 rfl rfl
set_option maxRecDepth 20000 in
theorem m1_109 : Cond.fieldLink RX0 17 RX0 "pairTree" "[I" ∈ jB := jB_1 109 rfl rfl
set_option maxRecDepth 20000 in
theorem m1_110 : Cond.fieldLink RX0 20 RX0 "found" "[J" ∈ jB := jB_1 110 rfl rfl
set_option maxRecDepth 20000 in
theorem m1_111 : Cond.laysFinal RX0 RX0 "stepsFrom" "[I" ∈ jB := jB_1 111 rfl rfl
set_option maxRecDepth 20000 in
theorem m1_113 : Cond.laysFinal RX0 RX0 "pairTree" "[I" ∈ jB := jB_1 113 rfl rfl
set_option maxRecDepth 20000 in
theorem m1_115 : Cond.laysFinal RX0 RX0 "found" "[J" ∈ jB := jB_1 115 rfl rfl
set_option maxRecDepth 20000 in
theorem m1_117 : Cond.superclass RX0 "java/lang/Object" ∈ jB := jB_1 117 rfl rfl
set_option maxRecDepth 20000 in
theorem m1_118 : Cond.classLink RX9 52 RX2 ∈ jB := jB_1 118 rfl rfl
set_option maxRecDepth 20000 in
theorem m1_119 : Cond.instantiable RX2 1 ∈ jB := jB_1 119 rfl rfl
set_option maxRecDepth 20000 in
theorem m1_121 : Cond.instanceMethod yX2_init ∈ jB := jB_1 121 rfl rfl
set_option maxRecDepth 20000 in
theorem m1_122 : Cond.code yX2_init cX2_init 1 none ∈ jB := jB_1 122 rfl rfl
set_option maxRecDepth 20000 in
theorem m1_123 : Cond.methodLink RX2 3 objectInit ∈ jB := jB_1 123 rfl rfl
set_option maxRecDepth 20000 in
theorem m1_124 : Cond.fieldLink RX2 11 RX2 "ways" "[I" ∈ jB := jB_1 124 rfl rfl
set_option maxRecDepth 20000 in
theorem m1_125 : Cond.laysFinal RX2 RX2 "ways" "[I" ∈ jB := jB_1 125 rfl rfl
set_option maxRecDepth 20000 in
theorem m1_127 : Cond.superclass RX2 "java/lang/Object" ∈ jB := jB_1 127 rfl rfl
set_option maxRecDepth 20000 in
theorem m1_128 : Cond.methodLink RX9 59 yX5_tellFirst ∈ jB := jB_1 128 rfl rfl
set_option maxRecDepth 20000 in
theorem m1_129 : Cond.instanceMethod yX5_tellFirst ∈ jB := jB_1 129 rfl rfl
set_option maxRecDepth 20000 in
theorem m1_130 : Cond.selects RX5 yX5_tellFirst yX5_tellFirst ∈ jB := jB_1 130 rfl rfl
set_option maxRecDepth 20000 in
theorem m1_131 : Cond.code yX5_tellFirst cX5_tellFirst 1 none ∈ jB := jB_1 131 rfl rfl
set_option maxRecDepth 20000 in
theorem m1_132 : Cond.methodLink RX5 13 yX5_begin ∈ jB := jB_1 132 rfl rfl
set_option maxRecDepth 20000 in
theorem m1_134 : Cond.instanceMethod yX5_begin ∈ jB := jB_1 134 rfl rfl
set_option maxRecDepth 20000 in
theorem m1_135 : Cond.code yX5_begin cX5_begin 2 none ∈ jB := jB_1 135 rfl rfl
set_option maxRecDepth 20000 in
theorem m1_136 : Cond.constant RX5 70 1145324612 ∈ jB := jB_1 136 rfl rfl
set_option maxRecDepth 20000 in
theorem m1_137 : Cond.methodLink RX5 71 yX4_inOrder ∈ jB := jB_1 137 rfl rfl
set_option maxRecDepth 20000 in
theorem m1_138 : Cond.static yX4_inOrder ∈ jB := jB_1 138 rfl rfl
set_option maxRecDepth 20000 in
theorem m1_139 : Cond.code yX4_inOrder cX4_inOrder 4 (some .long) ∈ jB := jB_1 139 rfl rfl
set_option maxRecDepth 20000 in
theorem m1_140 : Cond.methodLink RX4 7 yX4_with ∈ jB := jB_1 140 rfl rfl
set_option maxRecDepth 20000 in
theorem m1_141 : Cond.static yX4_with ∈ jB := jB_1 141 rfl rfl
set_option maxRecDepth 20000 in
theorem m1_142 : Cond.code yX4_with cX4_with 4 (some .long) ∈ jB := jB_1 142 rfl rfl
set_option maxRecDepth 20000 in
theorem m1_143 : Cond.methodLink RX5 17 yX5_tellColour ∈ jB := jB_1 143 rfl rfl
set_option maxRecDepth 20000 in
theorem m1_144 : Cond.instanceMethod yX5_tellColour ∈ jB := jB_1 144 rfl rfl
set_option maxRecDepth 20000 in
theorem m1_145 : Cond.selects RX5 yX5_tellColour yX5_tellColour ∈ jB := jB_1 145 rfl rfl
set_option maxRecDepth 20000 in
theorem m1_146 : Cond.code yX5_tellColour cX5_tellColour 3 (some .boolean) ∈ jB := jB_1 146 rfl rfl
set_option maxRecDepth 20000 in
theorem m1_148 : Cond.static yX9_within ∈ jB := jB_1 148 rfl rfl
set_option maxRecDepth 20000 in
theorem m1_149 : Cond.code yX9_within cX9_within 3 (some .boolean) ∈ jB := jB_1 149 rfl rfl
set_option maxRecDepth 20000 in
theorem m1_150 : Cond.methodLink RX5 23 yX5_tellLacing ∈ jB := jB_1 150 rfl rfl
set_option maxRecDepth 20000 in
theorem m1_151 : Cond.instanceMethod yX5_tellLacing ∈ jB := jB_1 151 rfl rfl
set_option maxRecDepth 20000 in
theorem m1_152 : Cond.selects RX5 yX5_tellLacing yX5_tellLacing ∈ jB := jB_1 152 rfl rfl
set_option maxRecDepth 20000 in
theorem m1_153 : Cond.code yX5_tellLacing cX5_tellLacing 2 (some .boolean) ∈ jB := jB_1 153 rfl rfl
set_option maxRecDepth 20000 in
theorem m1_155 : Cond.static yX9_isKind ∈ jB := jB_1 155 rfl rfl
set_option maxRecDepth 20000 in
theorem m1_156 : Cond.code yX9_isKind cX9_isKind 1 (some .boolean) ∈ jB := jB_1 156 rfl rfl
set_option maxRecDepth 20000 in
theorem m1_157 : Cond.methodLink RX9 76 yX9_within ∈ jB := jB_1 157 rfl rfl
set_option maxRecDepth 20000 in
theorem m1_158 : Cond.methodLink RX5 55 yX3_lacing ∈ jB := jB_1 158 rfl rfl
set_option maxRecDepth 20000 in
theorem m1_159 : Cond.static yX3_lacing ∈ jB := jB_1 159 rfl rfl
set_option maxRecDepth 20000 in
theorem m1_160 : Cond.code yX3_lacing cX3_lacing 5 (some .long) ∈ jB := jB_1 160 rfl rfl
set_option maxRecDepth 20000 in
theorem m1_161 : Cond.methodLink RX3 9 yX3_downAndUnder ∈ jB := jB_1 161 rfl rfl
set_option maxRecDepth 20000 in
theorem m1_162 : Cond.static yX3_downAndUnder ∈ jB := jB_1 162 rfl rfl
set_option maxRecDepth 20000 in
theorem m1_163 : Cond.code yX3_downAndUnder cX3_downAndUnder 7 (some .long) ∈ jB := jB_1 163 rfl rfl
set_option maxRecDepth 20000 in
theorem m1_164 : Cond.methodLink RX3 23 yX4_inOrder ∈ jB := jB_1 164 rfl rfl
set_option maxRecDepth 20000 in
theorem m1_165 : Cond.methodLink RX3 26 yX4_cardAt ∈ jB := jB_1 165 rfl rfl
set_option maxRecDepth 20000 in
theorem m1_166 : Cond.static yX4_cardAt ∈ jB := jB_1 166 rfl rfl
set_option maxRecDepth 20000 in
theorem m1_167 : Cond.code yX4_cardAt cX4_cardAt 3 (some .int) ∈ jB := jB_1 167 rfl rfl
set_option maxRecDepth 20000 in
theorem m1_168 : Cond.methodLink RX3 17 yX4_with ∈ jB := jB_1 168 rfl rfl
set_option maxRecDepth 20000 in
theorem m1_169 : Cond.methodLink RX3 13 yX3_source ∈ jB := jB_1 169 rfl rfl
set_option maxRecDepth 20000 in
theorem m1_170 : Cond.static yX3_source ∈ jB := jB_1 170 rfl rfl
set_option maxRecDepth 20000 in
theorem m1_171 : Cond.code yX3_source cX3_source 5 (some .int) ∈ jB := jB_1 171 rfl rfl
set_option maxRecDepth 20000 in
theorem m1_172 : Cond.methodLink RX5 59 yX5_addAct ∈ jB := jB_1 172 rfl rfl
set_option maxRecDepth 20000 in
theorem m1_174 : Cond.instanceMethod yX5_addAct ∈ jB := jB_1 174 rfl rfl
set_option maxRecDepth 20000 in
theorem m1_175 : Cond.code yX5_addAct cX5_addAct 3 (some .boolean) ∈ jB := jB_1 175 rfl rfl
set_option maxRecDepth 20000 in
theorem m1_176 : Cond.methodLink RX5 75 yX4_moved ∈ jB := jB_1 176 rfl rfl
set_option maxRecDepth 20000 in
theorem m1_177 : Cond.static yX4_moved ∈ jB := jB_1 177 rfl rfl
set_option maxRecDepth 20000 in
theorem m1_178 : Cond.code yX4_moved cX4_moved 8 (some .long) ∈ jB := jB_1 178 rfl rfl
set_option maxRecDepth 20000 in
theorem m1_179 : Cond.methodLink RX4 13 yX4_cardAt ∈ jB := jB_1 179 rfl rfl
set_option maxRecDepth 20000 in
theorem m1_180 : Cond.methodLink RX5 27 yX5_tellCut ∈ jB := jB_1 180 rfl rfl
set_option maxRecDepth 20000 in
theorem m1_181 : Cond.instanceMethod yX5_tellCut ∈ jB := jB_1 181 rfl rfl
set_option maxRecDepth 20000 in
theorem m1_182 : Cond.selects RX5 yX5_tellCut yX5_tellCut ∈ jB := jB_1 182 rfl rfl
set_option maxRecDepth 20000 in
theorem m1_183 : Cond.code yX5_tellCut cX5_tellCut 2 (some .boolean) ∈ jB := jB_1 183 rfl rfl
set_option maxRecDepth 20000 in
theorem m1_184 : Cond.methodLink RX5 63 yX3_cutAt ∈ jB := jB_1 184 rfl rfl
set_option maxRecDepth 20000 in
theorem m1_185 : Cond.static yX3_cutAt ∈ jB := jB_1 185 rfl rfl
set_option maxRecDepth 20000 in
theorem m1_186 : Cond.code yX3_cutAt cX3_cutAt 6 (some .long) ∈ jB := jB_1 186 rfl rfl
set_option maxRecDepth 20000 in
theorem m1_187 : Cond.methodLink RX9 66 yX4_inOrder ∈ jB := jB_1 187 rfl rfl
set_option maxRecDepth 20000 in
theorem m1_188 : Cond.fieldLink RX9 10 RX9 "text" "LLacedPack$Text;" ∈ jB := jB_1 188 rfl rfl
set_option maxRecDepth 20000 in
theorem m1_189 : Cond.fieldLink RX9 19 RX9 "draft" "LLacedPack$Plan;" ∈ jB := jB_1 189 rfl rfl
set_option maxRecDepth 20000 in
theorem m1_190 : Cond.fieldLink RX9 23 RX9 "laid" "LLacedPack$Plan;" ∈ jB := jB_1 190 rfl rfl
set_option maxRecDepth 20000 in
theorem m1_191 : Cond.fieldLink RX9 31 RX9 "past" "LLacedPack$Shelf;" ∈ jB := jB_1 191 rfl rfl
set_option maxRecDepth 20000 in
theorem m1_192 : Cond.fieldLink RX9 35 RX9 "kept" "LLacedPack$Shelf;" ∈ jB := jB_1 192 rfl rfl
set_option maxRecDepth 20000 in
theorem m1_193 : Cond.fieldLink RX9 41 RX9 "sightings" "LLacedPack$Sightings;" ∈ jB := jB_1 193 rfl rfl
set_option maxRecDepth 20000 in
theorem m1_194 : Cond.fieldLink RX9 48 RX9 "finder" "LLacedPack$Finder;" ∈ jB := jB_1 194 rfl rfl
set_option maxRecDepth 20000 in
theorem m1_195 : Cond.fieldLink RX9 55 RX9 "mix" "LLacedPack$Mix;" ∈ jB := jB_1 195 rfl rfl
set_option maxRecDepth 20000 in
theorem m1_196 : Cond.fieldLink RX9 72 RX9 "order" "J" ∈ jB := jB_1 196 rfl rfl
set_option maxRecDepth 20000 in
theorem m1_197 : Cond.laysFinal RX9 RX9 "text" "LLacedPack$Text;" ∈ jB := jB_1 197 rfl rfl
set_option maxRecDepth 20000 in
theorem m1_199 : Cond.laysFinal RX9 RX9 "draft" "LLacedPack$Plan;" ∈ jB := jB_1 199 rfl rfl
set_option maxRecDepth 20000 in
theorem m1_201 : Cond.laysFinal RX9 RX9 "laid" "LLacedPack$Plan;" ∈ jB := jB_1 201 rfl rfl
set_option maxRecDepth 20000 in
theorem m1_203 : Cond.laysFinal RX9 RX9 "past" "LLacedPack$Shelf;" ∈ jB := jB_1 203 rfl rfl
set_option maxRecDepth 20000 in
theorem m1_205 : Cond.laysFinal RX9 RX9 "kept" "LLacedPack$Shelf;" ∈ jB := jB_1 205 rfl rfl
set_option maxRecDepth 20000 in
theorem m1_207 : Cond.laysFinal RX9 RX9 "sightings" "LLacedPack$Sightings;" ∈ jB := jB_1 207 rfl rfl
set_option maxRecDepth 20000 in
theorem m1_209 : Cond.laysFinal RX9 RX9 "finder" "LLacedPack$Finder;" ∈ jB := jB_1 209 rfl rfl
set_option maxRecDepth 20000 in
theorem m1_211 : Cond.laysFinal RX9 RX9 "mix" "LLacedPack$Mix;" ∈ jB := jB_1 211 rfl rfl
set_option maxRecDepth 20000 in
theorem m1_213 : Cond.lays RX9 RX9 "order" "J" ∈ jB := jB_1 213 rfl rfl
set_option maxRecDepth 20000 in
theorem m1_215 : Cond.superclass RX9 "java/lang/Object" ∈ jB := jB_1 215 rfl rfl
set_option maxRecDepth 20000 in
theorem m1_216 : Cond.methodLink RL 13 yX9_write ∈ jB := jB_1 216 rfl rfl
set_option maxRecDepth 20000 in
theorem m1_217 : Cond.instanceMethod yX9_write ∈ jB := jB_1 217 rfl rfl
set_option maxRecDepth 20000 in
theorem m1_218 : Cond.selects RX9 yX9_write yX9_write ∈ jB := jB_1 218 rfl rfl
set_option maxRecDepth 20000 in
theorem m1_219 : Cond.code yX9_write cX9_write 2 (some .int) ∈ jB := jB_1 219 rfl rfl
set_option maxRecDepth 20000 in
theorem m1_220 : Cond.methodLink RX9 80 yX8_append ∈ jB := jB_1 220 rfl rfl
set_option maxRecDepth 20000 in
theorem m1_221 : Cond.instanceMethod yX8_append ∈ jB := jB_1 221 rfl rfl
set_option maxRecDepth 20000 in
theorem m1_222 : Cond.selects RX8 yX8_append yX8_append ∈ jB := jB_1 222 rfl rfl
set_option maxRecDepth 20000 in
theorem m1_223 : Cond.code yX8_append cX8_append 2 (some .boolean) ∈ jB := jB_1 223 rfl rfl
set_option maxRecDepth 20000 in
theorem m1_224 : Cond.methodLink RL 18 yX9_wipe ∈ jB := jB_1 224 rfl rfl
set_option maxRecDepth 20000 in
theorem m1_225 : Cond.instanceMethod yX9_wipe ∈ jB := jB_1 225 rfl rfl
set_option maxRecDepth 20000 in
theorem m1_226 : Cond.selects RX9 yX9_wipe yX9_wipe ∈ jB := jB_1 226 rfl rfl
set_option maxRecDepth 20000 in
theorem m1_227 : Cond.code yX9_wipe cX9_wipe 2 (some .int) ∈ jB := jB_1 227 rfl rfl
set_option maxRecDepth 20000 in
theorem m1_228 : Cond.methodLink RL 23 yX9_fault ∈ jB := jB_1 228 rfl rfl
set_option maxRecDepth 20000 in
theorem m1_229 : Cond.instanceMethod yX9_fault ∈ jB := jB_1 229 rfl rfl
set_option maxRecDepth 20000 in
theorem m1_230 : Cond.selects RX9 yX9_fault yX9_fault ∈ jB := jB_1 230 rfl rfl
set_option maxRecDepth 20000 in
theorem m1_231 : Cond.code yX9_fault cX9_fault 1 (some .int) ∈ jB := jB_1 231 rfl rfl
set_option maxRecDepth 20000 in
theorem m1_232 : Cond.methodLink RX9 87 yX8_firstFault ∈ jB := jB_1 232 rfl rfl
set_option maxRecDepth 20000 in
theorem m1_233 : Cond.instanceMethod yX8_firstFault ∈ jB := jB_1 233 rfl rfl
set_option maxRecDepth 20000 in
theorem m1_234 : Cond.selects RX8 yX8_firstFault yX8_firstFault ∈ jB := jB_1 234 rfl rfl
set_option maxRecDepth 20000 in
theorem m1_235 : Cond.code yX8_firstFault cX8_firstFault 4 (some .int) ∈ jB := jB_1 235 rfl rfl
set_option maxRecDepth 20000 in
theorem m1_236 : Cond.methodLink RX8 19 yX5_tellNothing ∈ jB := jB_1 236 rfl rfl
set_option maxRecDepth 20000 in
theorem m1_237 : Cond.instanceMethod yX5_tellNothing ∈ jB := jB_1 237 rfl rfl
set_option maxRecDepth 20000 in
theorem m1_238 : Cond.selects RX5 yX5_tellNothing yX5_tellNothing ∈ jB := jB_1 238 rfl rfl
set_option maxRecDepth 20000 in
theorem m1_239 : Cond.code yX5_tellNothing cX5_tellNothing 1 none ∈ jB := jB_1 239 rfl rfl
set_option maxRecDepth 20000 in
theorem m2_0 : Cond.methodLink RX8 27 yX8_readItem ∈ jB := jB_2 0 rfl rfl
set_option maxRecDepth 20000 in
theorem m2_2 : Cond.instanceMethod yX8_readItem ∈ jB := jB_2 2 rfl rfl
set_option maxRecDepth 20000 in
theorem m2_3 : Cond.code yX8_readItem cX8_readItem 5 (some .boolean) ∈ jB := jB_2 3 rfl rfl
set_option maxRecDepth 20000 in
theorem m2_4 : Cond.methodLink RX8 31 yX8_nextLetter ∈ jB := jB_2 4 rfl rfl
set_option maxRecDepth 20000 in
theorem m2_6 : Cond.instanceMethod yX8_nextLetter ∈ jB := jB_2 6 rfl rfl
set_option maxRecDepth 20000 in
theorem m2_7 : Cond.code yX8_nextLetter cX8_nextLetter 2 (some .int) ∈ jB := jB_2 7 rfl rfl
set_option maxRecDepth 20000 in
theorem m2_8 : Cond.methodLink RX8 35 yX8_readNumber ∈ jB := jB_2 8 rfl rfl
set_option maxRecDepth 20000 in
theorem m2_10 : Cond.instanceMethod yX8_readNumber ∈ jB := jB_2 10 rfl rfl
set_option maxRecDepth 20000 in
theorem m2_11 : Cond.code yX8_readNumber cX8_readNumber 4 (some .int) ∈ jB := jB_2 11 rfl rfl
set_option maxRecDepth 20000 in
theorem m2_12 : Cond.methodLink RX8 53 yX8_figureOf ∈ jB := jB_2 12 rfl rfl
set_option maxRecDepth 20000 in
theorem m2_13 : Cond.static yX8_figureOf ∈ jB := jB_2 13 rfl rfl
set_option maxRecDepth 20000 in
theorem m2_14 : Cond.code yX8_figureOf cX8_figureOf 1 (some .int) ∈ jB := jB_2 14 rfl rfl
set_option maxRecDepth 20000 in
theorem m2_15 : Cond.methodLink RX8 39 yX5_tellColour ∈ jB := jB_2 15 rfl rfl
set_option maxRecDepth 20000 in
theorem m2_16 : Cond.methodLink RX8 43 yX5_tellCards ∈ jB := jB_2 16 rfl rfl
set_option maxRecDepth 20000 in
theorem m2_17 : Cond.instanceMethod yX5_tellCards ∈ jB := jB_2 17 rfl rfl
set_option maxRecDepth 20000 in
theorem m2_18 : Cond.selects RX5 yX5_tellCards yX5_tellCards ∈ jB := jB_2 18 rfl rfl
set_option maxRecDepth 20000 in
theorem m2_19 : Cond.code yX5_tellCards cX5_tellCards 2 (some .boolean) ∈ jB := jB_2 19 rfl rfl
set_option maxRecDepth 20000 in
theorem m2_20 : Cond.methodLink RX8 47 yX5_tellLacing ∈ jB := jB_2 20 rfl rfl
set_option maxRecDepth 20000 in
theorem m2_21 : Cond.methodLink RX8 50 yX5_tellCut ∈ jB := jB_2 21 rfl rfl
set_option maxRecDepth 20000 in
theorem m2_22 : Cond.methodLink RL 27 yX9_lay ∈ jB := jB_2 22 rfl rfl
set_option maxRecDepth 20000 in
theorem m2_23 : Cond.instanceMethod yX9_lay ∈ jB := jB_2 23 rfl rfl
set_option maxRecDepth 20000 in
theorem m2_24 : Cond.selects RX9 yX9_lay yX9_lay ∈ jB := jB_2 24 rfl rfl
set_option maxRecDepth 20000 in
theorem m2_25 : Cond.code yX9_lay cX9_lay 1 (some .int) ∈ jB := jB_2 25 rfl rfl
set_option maxRecDepth 20000 in
theorem m2_26 : Cond.methodLink RX9 91 yX5_become ∈ jB := jB_2 26 rfl rfl
set_option maxRecDepth 20000 in
theorem m2_27 : Cond.instanceMethod yX5_become ∈ jB := jB_2 27 rfl rfl
set_option maxRecDepth 20000 in
theorem m2_28 : Cond.selects RX5 yX5_become yX5_become ∈ jB := jB_2 28 rfl rfl
set_option maxRecDepth 20000 in
theorem m2_29 : Cond.code yX5_become cX5_become 2 none ∈ jB := jB_2 29 rfl rfl
set_option maxRecDepth 20000 in
theorem m2_30 : Cond.methodLink RL 31 yX9_at ∈ jB := jB_2 30 rfl rfl
set_option maxRecDepth 20000 in
theorem m2_31 : Cond.instanceMethod yX9_at ∈ jB := jB_2 31 rfl rfl
set_option maxRecDepth 20000 in
theorem m2_32 : Cond.selects RX9 yX9_at yX9_at ∈ jB := jB_2 32 rfl rfl
set_option maxRecDepth 20000 in
theorem m2_33 : Cond.code yX9_at cX9_at 2 (some .int) ∈ jB := jB_2 33 rfl rfl
set_option maxRecDepth 20000 in
theorem m2_34 : Cond.methodLink RX9 99 yX9_isPlace ∈ jB := jB_2 34 rfl rfl
set_option maxRecDepth 20000 in
theorem m2_36 : Cond.instanceMethod yX9_isPlace ∈ jB := jB_2 36 rfl rfl
set_option maxRecDepth 20000 in
theorem m2_37 : Cond.code yX9_isPlace cX9_isPlace 2 (some .boolean) ∈ jB := jB_2 37 rfl rfl
set_option maxRecDepth 20000 in
theorem m2_38 : Cond.methodLink RX9 102 yX4_cardAt ∈ jB := jB_2 38 rfl rfl
set_option maxRecDepth 20000 in
theorem m2_39 : Cond.methodLink RL 35 yX9_where ∈ jB := jB_2 39 rfl rfl
set_option maxRecDepth 20000 in
theorem m2_40 : Cond.instanceMethod yX9_where ∈ jB := jB_2 40 rfl rfl
set_option maxRecDepth 20000 in
theorem m2_41 : Cond.selects RX9 yX9_where yX9_where ∈ jB := jB_2 41 rfl rfl
set_option maxRecDepth 20000 in
theorem m2_42 : Cond.code yX9_where cX9_where 2 (some .int) ∈ jB := jB_2 42 rfl rfl
set_option maxRecDepth 20000 in
theorem m2_43 : Cond.methodLink RX9 106 yX9_isCard ∈ jB := jB_2 43 rfl rfl
set_option maxRecDepth 20000 in
theorem m2_45 : Cond.instanceMethod yX9_isCard ∈ jB := jB_2 45 rfl rfl
set_option maxRecDepth 20000 in
theorem m2_46 : Cond.code yX9_isCard cX9_isCard 2 (some .boolean) ∈ jB := jB_2 46 rfl rfl
set_option maxRecDepth 20000 in
theorem m2_47 : Cond.methodLink RX9 109 yX4_placeOf ∈ jB := jB_2 47 rfl rfl
set_option maxRecDepth 20000 in
theorem m2_48 : Cond.static yX4_placeOf ∈ jB := jB_2 48 rfl rfl
set_option maxRecDepth 20000 in
theorem m2_49 : Cond.code yX4_placeOf cX4_placeOf 6 (some .int) ∈ jB := jB_2 49 rfl rfl
set_option maxRecDepth 20000 in
theorem m2_50 : Cond.methodLink RL 39 yX9_colour ∈ jB := jB_2 50 rfl rfl
set_option maxRecDepth 20000 in
theorem m2_51 : Cond.instanceMethod yX9_colour ∈ jB := jB_2 51 rfl rfl
set_option maxRecDepth 20000 in
theorem m2_52 : Cond.selects RX9 yX9_colour yX9_colour ∈ jB := jB_2 52 rfl rfl
set_option maxRecDepth 20000 in
theorem m2_53 : Cond.code yX9_colour cX9_colour 2 (some .int) ∈ jB := jB_2 53 rfl rfl
set_option maxRecDepth 20000 in
theorem m2_54 : Cond.methodLink RX9 113 yX5_colourOf ∈ jB := jB_2 54 rfl rfl
set_option maxRecDepth 20000 in
theorem m2_55 : Cond.instanceMethod yX5_colourOf ∈ jB := jB_2 55 rfl rfl
set_option maxRecDepth 20000 in
theorem m2_56 : Cond.selects RX5 yX5_colourOf yX5_colourOf ∈ jB := jB_2 56 rfl rfl
set_option maxRecDepth 20000 in
theorem m2_57 : Cond.code yX5_colourOf cX5_colourOf 2 (some .int) ∈ jB := jB_2 57 rfl rfl
set_option maxRecDepth 20000 in
theorem m2_58 : Cond.methodLink RL 43 yX9_lace ∈ jB := jB_2 58 rfl rfl
set_option maxRecDepth 20000 in
theorem m2_59 : Cond.instanceMethod yX9_lace ∈ jB := jB_2 59 rfl rfl
set_option maxRecDepth 20000 in
theorem m2_60 : Cond.selects RX9 yX9_lace yX9_lace ∈ jB := jB_2 60 rfl rfl
set_option maxRecDepth 20000 in
theorem m2_61 : Cond.code yX9_lace cX9_lace 2 (some .int) ∈ jB := jB_2 61 rfl rfl
set_option maxRecDepth 20000 in
theorem m2_62 : Cond.methodLink RX9 117 yX9_isKind ∈ jB := jB_2 62 rfl rfl
set_option maxRecDepth 20000 in
theorem m2_63 : Cond.methodLink RX9 120 yX3_lacing ∈ jB := jB_2 63 rfl rfl
set_option maxRecDepth 20000 in
theorem m2_64 : Cond.methodLink RX9 126 yX9_act ∈ jB := jB_2 64 rfl rfl
set_option maxRecDepth 20000 in
theorem m2_66 : Cond.instanceMethod yX9_act ∈ jB := jB_2 66 rfl rfl
set_option maxRecDepth 20000 in
theorem m2_67 : Cond.code yX9_act cX9_act 3 (some .int) ∈ jB := jB_2 67 rfl rfl
set_option maxRecDepth 20000 in
theorem m2_68 : Cond.methodLink RX9 226 yX6_put ∈ jB := jB_2 68 rfl rfl
set_option maxRecDepth 20000 in
theorem m2_69 : Cond.instanceMethod yX6_put ∈ jB := jB_2 69 rfl rfl
set_option maxRecDepth 20000 in
theorem m2_70 : Cond.selects RX6 yX6_put yX6_put ∈ jB := jB_2 70 rfl rfl
set_option maxRecDepth 20000 in
theorem m2_71 : Cond.code yX6_put cX6_put 3 none ∈ jB := jB_2 71 rfl rfl
set_option maxRecDepth 20000 in
theorem m2_72 : Cond.methodLink RX6 23 yX6_isFull ∈ jB := jB_2 72 rfl rfl
set_option maxRecDepth 20000 in
theorem m2_73 : Cond.instanceMethod yX6_isFull ∈ jB := jB_2 73 rfl rfl
set_option maxRecDepth 20000 in
theorem m2_74 : Cond.selects RX6 yX6_isFull yX6_isFull ∈ jB := jB_2 74 rfl rfl
set_option maxRecDepth 20000 in
theorem m2_75 : Cond.code yX6_isFull cX6_isFull 1 (some .boolean) ∈ jB := jB_2 75 rfl rfl
set_option maxRecDepth 20000 in
theorem m2_76 : Cond.methodLink RX6 27 arraycopyName ∈ jB := jB_2 76 rfl rfl
set_option maxRecDepth 20000 in
theorem m2_77 : Cond.static arraycopyName ∈ jB := jB_2 77 rfl rfl
set_option maxRecDepth 20000 in
theorem m2_78 : Cond.native arraycopyName ∈ jB := jB_2 78 rfl rfl
set_option maxRecDepth 20000 in
theorem m2_79 : Cond.methodLink RX9 214 yX4_moved ∈ jB := jB_2 79 rfl rfl
set_option maxRecDepth 20000 in
theorem m2_80 : Cond.methodLink RL 47 yX9_cut ∈ jB := jB_2 80 rfl rfl
set_option maxRecDepth 20000 in
theorem m2_81 : Cond.instanceMethod yX9_cut ∈ jB := jB_2 81 rfl rfl
set_option maxRecDepth 20000 in
theorem m2_82 : Cond.selects RX9 yX9_cut yX9_cut ∈ jB := jB_2 82 rfl rfl
set_option maxRecDepth 20000 in
theorem m2_83 : Cond.code yX9_cut cX9_cut 2 (some .int) ∈ jB := jB_2 83 rfl rfl
set_option maxRecDepth 20000 in
theorem m2_84 : Cond.methodLink RX9 130 yX3_cutAt ∈ jB := jB_2 84 rfl rfl
set_option maxRecDepth 20000 in
theorem m2_85 : Cond.methodLink RL 51 yX9_turn ∈ jB := jB_2 85 rfl rfl
set_option maxRecDepth 20000 in
theorem m2_86 : Cond.instanceMethod yX9_turn ∈ jB := jB_2 86 rfl rfl
set_option maxRecDepth 20000 in
theorem m2_87 : Cond.selects RX9 yX9_turn yX9_turn ∈ jB := jB_2 87 rfl rfl
set_option maxRecDepth 20000 in
theorem m2_88 : Cond.code yX9_turn cX9_turn 1 (some .int) ∈ jB := jB_2 88 rfl rfl
set_option maxRecDepth 20000 in
theorem m2_89 : Cond.methodLink RX9 133 yX3_turnedOver ∈ jB := jB_2 89 rfl rfl
set_option maxRecDepth 20000 in
theorem m2_90 : Cond.static yX3_turnedOver ∈ jB := jB_2 90 rfl rfl
set_option maxRecDepth 20000 in
theorem m2_91 : Cond.code yX3_turnedOver cX3_turnedOver 4 (some .long) ∈ jB := jB_2 91 rfl rfl
set_option maxRecDepth 20000 in
theorem m2_92 : Cond.methodLink RL 55 yX9_deal ∈ jB := jB_2 92 rfl rfl
set_option maxRecDepth 20000 in
theorem m2_93 : Cond.instanceMethod yX9_deal ∈ jB := jB_2 93 rfl rfl
set_option maxRecDepth 20000 in
theorem m2_94 : Cond.selects RX9 yX9_deal yX9_deal ∈ jB := jB_2 94 rfl rfl
set_option maxRecDepth 20000 in
theorem m2_95 : Cond.code yX9_deal cX9_deal 1 (some .int) ∈ jB := jB_2 95 rfl rfl
set_option maxRecDepth 20000 in
theorem m2_96 : Cond.methodLink RL 59 yX9_undo ∈ jB := jB_2 96 rfl rfl
set_option maxRecDepth 20000 in
theorem m2_97 : Cond.instanceMethod yX9_undo ∈ jB := jB_2 97 rfl rfl
set_option maxRecDepth 20000 in
theorem m2_98 : Cond.selects RX9 yX9_undo yX9_undo ∈ jB := jB_2 98 rfl rfl
set_option maxRecDepth 20000 in
theorem m2_99 : Cond.code yX9_undo cX9_undo 1 (some .int) ∈ jB := jB_2 99 rfl rfl
set_option maxRecDepth 20000 in
theorem m2_100 : Cond.methodLink RX9 139 yX6_takeLast ∈ jB := jB_2 100 rfl rfl
set_option maxRecDepth 20000 in
theorem m2_101 : Cond.instanceMethod yX6_takeLast ∈ jB := jB_2 101 rfl rfl
set_option maxRecDepth 20000 in
theorem m2_102 : Cond.selects RX6 yX6_takeLast yX6_takeLast ∈ jB := jB_2 102 rfl rfl
set_option maxRecDepth 20000 in
theorem m2_103 : Cond.code yX6_takeLast cX6_takeLast 1 (some .long) ∈ jB := jB_2 103 rfl rfl
set_option maxRecDepth 20000 in
theorem m2_104 : Cond.methodLink RL 63 yX9_again ∈ jB := jB_2 104 rfl rfl
set_option maxRecDepth 20000 in
theorem m2_105 : Cond.instanceMethod yX9_again ∈ jB := jB_2 105 rfl rfl
set_option maxRecDepth 20000 in
theorem m2_106 : Cond.selects RX9 yX9_again yX9_again ∈ jB := jB_2 106 rfl rfl
set_option maxRecDepth 20000 in
theorem m2_107 : Cond.code yX9_again cX9_again 2 (some .int) ∈ jB := jB_2 107 rfl rfl
set_option maxRecDepth 20000 in
theorem m2_108 : Cond.methodLink RX9 143 yX4_timesTillSame ∈ jB := jB_2 108 rfl rfl
set_option maxRecDepth 20000 in
theorem m2_109 : Cond.static yX4_timesTillSame ∈ jB := jB_2 109 rfl rfl
set_option maxRecDepth 20000 in
theorem m2_110 : Cond.code yX4_timesTillSame cX4_timesTillSame 7 (some .int) ∈ jB := jB_2 110 rfl rfl
set_option maxRecDepth 20000 in
theorem m2_111 : Cond.methodLink RX4 21 yX4_roundLength ∈ jB := jB_2 111 rfl rfl
set_option maxRecDepth 20000 in
theorem m2_112 : Cond.static yX4_roundLength ∈ jB := jB_2 112 rfl rfl
set_option maxRecDepth 20000 in
theorem m2_113 : Cond.code yX4_roundLength cX4_roundLength 6 (some .int) ∈ jB := jB_2 113 rfl rfl
set_option maxRecDepth 20000 in
theorem m2_114 : Cond.methodLink RX4 24 yX1_commonDivisor ∈ jB := jB_2 114 rfl rfl
set_option maxRecDepth 20000 in
theorem m2_115 : Cond.static yX1_commonDivisor ∈ jB := jB_2 115 rfl rfl
set_option maxRecDepth 20000 in
theorem m2_116 : Cond.code yX1_commonDivisor cX1_commonDivisor 6 (some .int) ∈ jB := jB_2 116 rfl rfl
set_option maxRecDepth 20000 in
theorem m2_117 : Cond.methodLink RL 67 yX9_round ∈ jB := jB_2 117 rfl rfl
set_option maxRecDepth 20000 in
theorem m2_118 : Cond.instanceMethod yX9_round ∈ jB := jB_2 118 rfl rfl
set_option maxRecDepth 20000 in
theorem m2_119 : Cond.selects RX9 yX9_round yX9_round ∈ jB := jB_2 119 rfl rfl
set_option maxRecDepth 20000 in
theorem m2_120 : Cond.code yX9_round cX9_round 3 (some .int) ∈ jB := jB_2 120 rfl rfl
set_option maxRecDepth 20000 in
theorem m2_121 : Cond.methodLink RX9 146 yX4_roundLength ∈ jB := jB_2 121 rfl rfl
set_option maxRecDepth 20000 in
theorem m2_122 : Cond.methodLink RL 72 yX9_rounds ∈ jB := jB_2 122 rfl rfl
set_option maxRecDepth 20000 in
theorem m2_123 : Cond.instanceMethod yX9_rounds ∈ jB := jB_2 123 rfl rfl
set_option maxRecDepth 20000 in
theorem m2_124 : Cond.selects RX9 yX9_rounds yX9_rounds ∈ jB := jB_2 124 rfl rfl
set_option maxRecDepth 20000 in
theorem m2_125 : Cond.code yX9_rounds cX9_rounds 2 (some .int) ∈ jB := jB_2 125 rfl rfl
set_option maxRecDepth 20000 in
theorem m2_126 : Cond.methodLink RX9 149 yX4_roundCount ∈ jB := jB_2 126 rfl rfl
set_option maxRecDepth 20000 in
theorem m2_127 : Cond.static yX4_roundCount ∈ jB := jB_2 127 rfl rfl
set_option maxRecDepth 20000 in
theorem m2_128 : Cond.code yX4_roundCount cX4_roundCount 6 (some .int) ∈ jB := jB_2 128 rfl rfl
set_option maxRecDepth 20000 in
theorem m2_129 : Cond.methodLink RX4 17 yX4_roundOf ∈ jB := jB_2 129 rfl rfl
set_option maxRecDepth 20000 in
theorem m2_130 : Cond.static yX4_roundOf ∈ jB := jB_2 130 rfl rfl
set_option maxRecDepth 20000 in
theorem m2_131 : Cond.code yX4_roundOf cX4_roundOf 7 (some .int) ∈ jB := jB_2 131 rfl rfl
set_option maxRecDepth 20000 in
theorem m2_132 : Cond.methodLink RL 76 yX9_bring ∈ jB := jB_2 132 rfl rfl
set_option maxRecDepth 20000 in
theorem m2_133 : Cond.instanceMethod yX9_bring ∈ jB := jB_2 133 rfl rfl
set_option maxRecDepth 20000 in
theorem m2_134 : Cond.selects RX9 yX9_bring yX9_bring ∈ jB := jB_2 134 rfl rfl
set_option maxRecDepth 20000 in
theorem m2_135 : Cond.code yX9_bring cX9_bring 5 (some .int) ∈ jB := jB_2 135 rfl rfl
set_option maxRecDepth 20000 in
theorem m2_136 : Cond.methodLink RX9 152 yX0_findWaysTo ∈ jB := jB_2 136 rfl rfl
set_option maxRecDepth 20000 in
theorem m2_137 : Cond.instanceMethod yX0_findWaysTo ∈ jB := jB_2 137 rfl rfl
set_option maxRecDepth 20000 in
theorem m2_138 : Cond.selects RX0 yX0_findWaysTo yX0_findWaysTo ∈ jB := jB_2 138 rfl rfl
set_option maxRecDepth 20000 in
theorem m2_139 : Cond.code yX0_findWaysTo cX0_findWaysTo 5 none ∈ jB := jB_2 139 rfl rfl
set_option maxRecDepth 20000 in
theorem m2_140 : Cond.methodLink RX0 24 yX0_isNextTo ∈ jB := jB_2 140 rfl rfl
set_option maxRecDepth 20000 in
theorem m2_142 : Cond.instanceMethod yX0_isNextTo ∈ jB := jB_2 142 rfl rfl
set_option maxRecDepth 20000 in
theorem m2_143 : Cond.code yX0_isNextTo cX0_isNextTo 4 (some .boolean) ∈ jB := jB_2 143 rfl rfl
set_option maxRecDepth 20000 in
theorem m2_144 : Cond.methodLink RX0 36 yX3_goal ∈ jB := jB_2 144 rfl rfl
set_option maxRecDepth 20000 in
theorem m2_145 : Cond.static yX3_goal ∈ jB := jB_2 145 rfl rfl
set_option maxRecDepth 20000 in
theorem m2_146 : Cond.code yX3_goal cX3_goal 5 (some .int) ∈ jB := jB_2 146 rfl rfl
set_option maxRecDepth 20000 in
theorem m2_147 : Cond.methodLink RX0 28 yX0_fewestFrom ∈ jB := jB_2 147 rfl rfl
set_option maxRecDepth 20000 in
theorem m2_148 : Cond.instanceMethod yX0_fewestFrom ∈ jB := jB_2 148 rfl rfl
set_option maxRecDepth 20000 in
theorem m2_149 : Cond.selects RX0 yX0_fewestFrom yX0_fewestFrom ∈ jB := jB_2 149 rfl rfl
set_option maxRecDepth 20000 in
theorem m2_150 : Cond.code yX0_fewestFrom cX0_fewestFrom 2 (some .int) ∈ jB := jB_2 150 rfl rfl
set_option maxRecDepth 20000 in
theorem m2_151 : Cond.methodLink RX9 156 yX0_fewestFrom ∈ jB := jB_2 151 rfl rfl
set_option maxRecDepth 20000 in
theorem m2_152 : Cond.methodLink RX9 159 yX0_kindOnWay ∈ jB := jB_2 152 rfl rfl
set_option maxRecDepth 20000 in
theorem m2_153 : Cond.instanceMethod yX0_kindOnWay ∈ jB := jB_2 153 rfl rfl
set_option maxRecDepth 20000 in
theorem m2_154 : Cond.selects RX0 yX0_kindOnWay yX0_kindOnWay ∈ jB := jB_2 154 rfl rfl
set_option maxRecDepth 20000 in
theorem m2_155 : Cond.code yX0_kindOnWay cX0_kindOnWay 7 (some .int) ∈ jB := jB_2 155 rfl rfl
set_option maxRecDepth 20000 in
theorem m2_156 : Cond.methodLink RX0 32 yX0_firstKind ∈ jB := jB_2 156 rfl rfl
set_option maxRecDepth 20000 in
theorem m2_158 : Cond.instanceMethod yX0_firstKind ∈ jB := jB_2 158 rfl rfl
set_option maxRecDepth 20000 in
theorem m2_159 : Cond.code yX0_firstKind cX0_firstKind 4 (some .int) ∈ jB := jB_2 159 rfl rfl
set_option maxRecDepth 20000 in
theorem m2_160 : Cond.methodLink RL 81 yX9_beside ∈ jB := jB_2 160 rfl rfl
set_option maxRecDepth 20000 in
theorem m2_161 : Cond.instanceMethod yX9_beside ∈ jB := jB_2 161 rfl rfl
set_option maxRecDepth 20000 in
theorem m2_162 : Cond.selects RX9 yX9_beside yX9_beside ∈ jB := jB_2 162 rfl rfl
set_option maxRecDepth 20000 in
theorem m2_163 : Cond.code yX9_beside cX9_beside 5 (some .int) ∈ jB := jB_2 163 rfl rfl
set_option maxRecDepth 20000 in
theorem m2_164 : Cond.methodLink RX9 163 yX0_fewestTillNeighbours ∈ jB := jB_2 164 rfl rfl
set_option maxRecDepth 20000 in
theorem m2_165 : Cond.instanceMethod yX0_fewestTillNeighbours ∈ jB := jB_2 165 rfl rfl
set_option maxRecDepth 20000 in
theorem m2_166 : Cond.selects RX0 yX0_fewestTillNeighbours yX0_fewestTillNeighbours ∈ jB := jB_2 166 rfl rfl
set_option maxRecDepth 20000 in
theorem m2_167 : Cond.code yX0_fewestTillNeighbours cX0_fewestTillNeighbours 6 (some .int) ∈ jB := jB_2 167 rfl rfl
set_option maxRecDepth 20000 in
theorem m2_168 : Cond.methodLink RX0 42 yX0_pairBehind ∈ jB := jB_2 168 rfl rfl
set_option maxRecDepth 20000 in
theorem m2_169 : Cond.static yX0_pairBehind ∈ jB := jB_2 169 rfl rfl
set_option maxRecDepth 20000 in
theorem m2_170 : Cond.code yX0_pairBehind cX0_pairBehind 3 (some .int) ∈ jB := jB_2 170 rfl rfl
set_option maxRecDepth 20000 in
theorem m2_171 : Cond.methodLink RX0 45 Lib.Math.abs.name ∈ jB := jB_2 171 rfl rfl
set_option maxRecDepth 20000 in
theorem m2_172 : Cond.static Lib.Math.abs.name ∈ jB := jB_2 172 rfl rfl
set_option maxRecDepth 20000 in
theorem m2_173 : Cond.code Lib.Math.abs.name cJ9_abs_0f7a4 1 (some .int) ∈ jB := jB_2 173 rfl rfl
set_option maxRecDepth 20000 in
theorem m2_174 : Cond.methodLink RX0 50 yX0_depthOf ∈ jB := jB_2 174 rfl rfl
set_option maxRecDepth 20000 in
theorem m2_175 : Cond.static yX0_depthOf ∈ jB := jB_2 175 rfl rfl
set_option maxRecDepth 20000 in
theorem m2_176 : Cond.code yX0_depthOf cX0_depthOf 3 (some .int) ∈ jB := jB_2 176 rfl rfl
set_option maxRecDepth 20000 in
theorem m2_177 : Cond.methodLink RL 85 yX9_orders ∈ jB := jB_2 177 rfl rfl
set_option maxRecDepth 20000 in
theorem m2_178 : Cond.instanceMethod yX9_orders ∈ jB := jB_2 178 rfl rfl
set_option maxRecDepth 20000 in
theorem m2_179 : Cond.selects RX9 yX9_orders yX9_orders ∈ jB := jB_2 179 rfl rfl
set_option maxRecDepth 20000 in
theorem m2_180 : Cond.code yX9_orders cX9_orders 2 (some .int) ∈ jB := jB_2 180 rfl rfl
set_option maxRecDepth 20000 in
theorem m2_181 : Cond.methodLink RX9 166 yX0_countOrders ∈ jB := jB_2 181 rfl rfl
set_option maxRecDepth 20000 in
theorem m2_182 : Cond.instanceMethod yX0_countOrders ∈ jB := jB_2 182 rfl rfl
set_option maxRecDepth 20000 in
theorem m2_183 : Cond.selects RX0 yX0_countOrders yX0_countOrders ∈ jB := jB_2 183 rfl rfl
set_option maxRecDepth 20000 in
theorem m2_184 : Cond.code yX0_countOrders cX0_countOrders 12 (some .int) ∈ jB := jB_2 184 rfl rfl
set_option maxRecDepth 20000 in
theorem m2_185 : Cond.methodLink RX0 53 yX3_lacing ∈ jB := jB_2 185 rfl rfl
set_option maxRecDepth 20000 in
theorem m2_186 : Cond.methodLink RX0 57 yX4_inOrder ∈ jB := jB_2 186 rfl rfl
set_option maxRecDepth 20000 in
theorem m2_187 : Cond.methodLink RX0 61 yX4_moved ∈ jB := jB_2 187 rfl rfl
set_option maxRecDepth 20000 in
theorem m2_188 : Cond.methodLink RX0 65 yX0_heldWith ∈ jB := jB_2 188 rfl rfl
set_option maxRecDepth 20000 in
theorem m2_190 : Cond.instanceMethod yX0_heldWith ∈ jB := jB_2 190 rfl rfl
set_option maxRecDepth 20000 in
theorem m2_191 : Cond.code yX0_heldWith cX0_heldWith 5 (some .int) ∈ jB := jB_2 191 rfl rfl
set_option maxRecDepth 20000 in
theorem m2_192 : Cond.methodLink RL 89 yX9_rising ∈ jB := jB_2 192 rfl rfl
set_option maxRecDepth 20000 in
theorem m2_193 : Cond.instanceMethod yX9_rising ∈ jB := jB_2 193 rfl rfl
set_option maxRecDepth 20000 in
theorem m2_194 : Cond.selects RX9 yX9_rising yX9_rising ∈ jB := jB_2 194 rfl rfl
set_option maxRecDepth 20000 in
theorem m2_195 : Cond.code yX9_rising cX9_rising 1 (some .int) ∈ jB := jB_2 195 rfl rfl
set_option maxRecDepth 20000 in
theorem m2_196 : Cond.methodLink RX9 170 yX4_risingRows ∈ jB := jB_2 196 rfl rfl
set_option maxRecDepth 20000 in
theorem m2_197 : Cond.static yX4_risingRows ∈ jB := jB_2 197 rfl rfl
set_option maxRecDepth 20000 in
theorem m2_198 : Cond.code yX4_risingRows cX4_risingRows 7 (some .int) ∈ jB := jB_2 198 rfl rfl
set_option maxRecDepth 20000 in
theorem m2_199 : Cond.methodLink RL 93 yX9_pairs ∈ jB := jB_2 199 rfl rfl
set_option maxRecDepth 20000 in
theorem m2_200 : Cond.instanceMethod yX9_pairs ∈ jB := jB_2 200 rfl rfl
set_option maxRecDepth 20000 in
theorem m2_201 : Cond.selects RX9 yX9_pairs yX9_pairs ∈ jB := jB_2 201 rfl rfl
set_option maxRecDepth 20000 in
theorem m2_202 : Cond.code yX9_pairs cX9_pairs 3 (some .int) ∈ jB := jB_2 202 rfl rfl
set_option maxRecDepth 20000 in
theorem m2_203 : Cond.methodLink RX9 173 yX5_areUnlike ∈ jB := jB_2 203 rfl rfl
set_option maxRecDepth 20000 in
theorem m2_204 : Cond.instanceMethod yX5_areUnlike ∈ jB := jB_2 204 rfl rfl
set_option maxRecDepth 20000 in
theorem m2_205 : Cond.selects RX5 yX5_areUnlike yX5_areUnlike ∈ jB := jB_2 205 rfl rfl
set_option maxRecDepth 20000 in
theorem m2_206 : Cond.code yX5_areUnlike cX5_areUnlike 3 (some .boolean) ∈ jB := jB_2 206 rfl rfl
set_option maxRecDepth 20000 in
theorem m2_207 : Cond.methodLink RX5 66 yX5_colourOf ∈ jB := jB_2 207 rfl rfl
set_option maxRecDepth 20000 in
theorem m2_208 : Cond.methodLink RL 97 yX9_sure ∈ jB := jB_2 208 rfl rfl
set_option maxRecDepth 20000 in
theorem m2_209 : Cond.instanceMethod yX9_sure ∈ jB := jB_2 209 rfl rfl
set_option maxRecDepth 20000 in
theorem m2_210 : Cond.selects RX9 yX9_sure yX9_sure ∈ jB := jB_2 210 rfl rfl
set_option maxRecDepth 20000 in
theorem m2_211 : Cond.code yX9_sure cX9_sure 4 (some .int) ∈ jB := jB_2 211 rfl rfl
set_option maxRecDepth 20000 in
theorem m2_212 : Cond.methodLink RX9 177 yX2_goodWays ∈ jB := jB_2 212 rfl rfl
set_option maxRecDepth 20000 in
theorem m2_213 : Cond.instanceMethod yX2_goodWays ∈ jB := jB_2 213 rfl rfl
set_option maxRecDepth 20000 in
theorem m2_214 : Cond.selects RX2 yX2_goodWays yX2_goodWays ∈ jB := jB_2 214 rfl rfl
set_option maxRecDepth 20000 in
theorem m2_215 : Cond.code yX2_goodWays cX2_goodWays 10 (some .int) ∈ jB := jB_2 215 rfl rfl
set_option maxRecDepth 20000 in
theorem m2_216 : Cond.methodLink RX2 21 yX2_dealtOff ∈ jB := jB_2 216 rfl rfl
set_option maxRecDepth 20000 in
theorem m2_217 : Cond.static yX2_dealtOff ∈ jB := jB_2 217 rfl rfl
set_option maxRecDepth 20000 in
theorem m2_218 : Cond.code yX2_dealtOff cX2_dealtOff 8 (some .long) ∈ jB := jB_2 218 rfl rfl
set_option maxRecDepth 20000 in
theorem m2_219 : Cond.methodLink RX2 37 yX4_cardAt ∈ jB := jB_2 219 rfl rfl
set_option maxRecDepth 20000 in
theorem m2_220 : Cond.methodLink RX2 41 yX4_with ∈ jB := jB_2 220 rfl rfl
set_option maxRecDepth 20000 in
theorem m2_221 : Cond.methodLink RX2 25 yX2_waysByLastPair ∈ jB := jB_2 221 rfl rfl
set_option maxRecDepth 20000 in
theorem m2_223 : Cond.instanceMethod yX2_waysByLastPair ∈ jB := jB_2 223 rfl rfl
set_option maxRecDepth 20000 in
theorem m2_224 : Cond.code yX2_waysByLastPair cX2_waysByLastPair 8 (some .int) ∈ jB := jB_2 224 rfl rfl
set_option maxRecDepth 20000 in
theorem m2_225 : Cond.methodLink RX2 44 yX2_areUnlikeAt ∈ jB := jB_2 225 rfl rfl
set_option maxRecDepth 20000 in
theorem m2_226 : Cond.static yX2_areUnlikeAt ∈ jB := jB_2 226 rfl rfl
set_option maxRecDepth 20000 in
theorem m2_227 : Cond.code yX2_areUnlikeAt cX2_areUnlikeAt 5 (some .boolean) ∈ jB := jB_2 227 rfl rfl
set_option maxRecDepth 20000 in
theorem m2_228 : Cond.methodLink RX2 48 yX5_areUnlike ∈ jB := jB_2 228 rfl rfl
set_option maxRecDepth 20000 in
theorem m2_229 : Cond.methodLink RX2 33 yX2_waysOf ∈ jB := jB_2 229 rfl rfl
set_option maxRecDepth 20000 in
theorem m2_231 : Cond.instanceMethod yX2_waysOf ∈ jB := jB_2 231 rfl rfl
set_option maxRecDepth 20000 in
theorem m2_232 : Cond.code yX2_waysOf cX2_waysOf 3 (some .int) ∈ jB := jB_2 232 rfl rfl
set_option maxRecDepth 20000 in
theorem m2_234 : Cond.methodLink RX2 29 yX2_setWays ∈ jB := jB_2 234 rfl rfl
set_option maxRecDepth 20000 in
theorem m2_236 : Cond.instanceMethod yX2_setWays ∈ jB := jB_2 236 rfl rfl
set_option maxRecDepth 20000 in
theorem m2_237 : Cond.code yX2_setWays cX2_setWays 4 none ∈ jB := jB_2 237 rfl rfl
set_option maxRecDepth 20000 in
theorem m2_238 : Cond.methodLink RX9 181 yX1_choices ∈ jB := jB_2 238 rfl rfl
set_option maxRecDepth 20000 in
theorem m2_239 : Cond.static yX1_choices ∈ jB := jB_2 239 rfl rfl
set_option maxRecDepth 20000 in
theorem m3_0 : Cond.code yX1_choices cX1_choices 4 (some .int) ∈ jB := jB_3 0 rfl rfl
set_option maxRecDepth 20000 in
theorem m3_1 : Cond.methodLink RX9 186 yX1_partOf ∈ jB := jB_3 1 rfl rfl
set_option maxRecDepth 20000 in
theorem m3_2 : Cond.static yX1_partOf ∈ jB := jB_3 2 rfl rfl
set_option maxRecDepth 20000 in
theorem m3_3 : Cond.code yX1_partOf cX1_partOf 4 (some .int) ∈ jB := jB_3 3 rfl rfl
set_option maxRecDepth 20000 in
theorem m3_4 : Cond.methodLink RX1 7 yX1_commonDivisor ∈ jB := jB_3 4 rfl rfl
set_option maxRecDepth 20000 in
theorem m3_5 : Cond.methodLink RL 101 yX9_seen ∈ jB := jB_3 5 rfl rfl
set_option maxRecDepth 20000 in
theorem m3_6 : Cond.instanceMethod yX9_seen ∈ jB := jB_3 6 rfl rfl
set_option maxRecDepth 20000 in
theorem m3_7 : Cond.selects RX9 yX9_seen yX9_seen ∈ jB := jB_3 7 rfl rfl
set_option maxRecDepth 20000 in
theorem m3_8 : Cond.code yX9_seen cX9_seen 3 (some .int) ∈ jB := jB_3 8 rfl rfl
set_option maxRecDepth 20000 in
theorem m3_9 : Cond.methodLink RX9 189 yX7_add ∈ jB := jB_3 9 rfl rfl
set_option maxRecDepth 20000 in
theorem m3_10 : Cond.instanceMethod yX7_add ∈ jB := jB_3 10 rfl rfl
set_option maxRecDepth 20000 in
theorem m3_11 : Cond.selects RX7 yX7_add yX7_add ∈ jB := jB_3 11 rfl rfl
set_option maxRecDepth 20000 in
theorem m3_12 : Cond.code yX7_add cX7_add 3 (some .boolean) ∈ jB := jB_3 12 rfl rfl
set_option maxRecDepth 20000 in
theorem m3_13 : Cond.methodLink RL 105 yX9_forget ∈ jB := jB_3 13 rfl rfl
set_option maxRecDepth 20000 in
theorem m3_14 : Cond.instanceMethod yX9_forget ∈ jB := jB_3 14 rfl rfl
set_option maxRecDepth 20000 in
theorem m3_15 : Cond.selects RX9 yX9_forget yX9_forget ∈ jB := jB_3 15 rfl rfl
set_option maxRecDepth 20000 in
theorem m3_16 : Cond.code yX9_forget cX9_forget 2 (some .int) ∈ jB := jB_3 16 rfl rfl
set_option maxRecDepth 20000 in
theorem m3_17 : Cond.methodLink RL 109 yX9_done ∈ jB := jB_3 17 rfl rfl
set_option maxRecDepth 20000 in
theorem m3_18 : Cond.instanceMethod yX9_done ∈ jB := jB_3 18 rfl rfl
set_option maxRecDepth 20000 in
theorem m3_19 : Cond.selects RX9 yX9_done yX9_done ∈ jB := jB_3 19 rfl rfl
set_option maxRecDepth 20000 in
theorem m3_20 : Cond.code yX9_done cX9_done 2 (some .int) ∈ jB := jB_3 20 rfl rfl
set_option maxRecDepth 20000 in
theorem m3_21 : Cond.methodLink RX9 192 yX9_fittingKinds ∈ jB := jB_3 21 rfl rfl
set_option maxRecDepth 20000 in
theorem m3_23 : Cond.instanceMethod yX9_fittingKinds ∈ jB := jB_3 23 rfl rfl
set_option maxRecDepth 20000 in
theorem m3_24 : Cond.code yX9_fittingKinds cX9_fittingKinds 3 (some .int) ∈ jB := jB_3 24 rfl rfl
set_option maxRecDepth 20000 in
theorem m3_25 : Cond.methodLink RX9 233 yX7_fit ∈ jB := jB_3 25 rfl rfl
set_option maxRecDepth 20000 in
theorem m3_26 : Cond.instanceMethod yX7_fit ∈ jB := jB_3 26 rfl rfl
set_option maxRecDepth 20000 in
theorem m3_27 : Cond.selects RX7 yX7_fit yX7_fit ∈ jB := jB_3 27 rfl rfl
set_option maxRecDepth 20000 in
theorem m3_28 : Cond.code yX7_fit cX7_fit 4 (some .boolean) ∈ jB := jB_3 28 rfl rfl
set_option maxRecDepth 20000 in
theorem m3_29 : Cond.methodLink RX7 20 yX4_cardAt ∈ jB := jB_3 29 rfl rfl
set_option maxRecDepth 20000 in
theorem m3_30 : Cond.methodLink RX9 196 yX9_fittingCuts ∈ jB := jB_3 30 rfl rfl
set_option maxRecDepth 20000 in
theorem m3_32 : Cond.instanceMethod yX9_fittingCuts ∈ jB := jB_3 32 rfl rfl
set_option maxRecDepth 20000 in
theorem m3_33 : Cond.code yX9_fittingCuts cX9_fittingCuts 3 (some .int) ∈ jB := jB_3 33 rfl rfl
set_option maxRecDepth 20000 in
theorem m3_34 : Cond.methodLink RL 113 yX9_likely ∈ jB := jB_3 34 rfl rfl
set_option maxRecDepth 20000 in
theorem m3_35 : Cond.instanceMethod yX9_likely ∈ jB := jB_3 35 rfl rfl
set_option maxRecDepth 20000 in
theorem m3_36 : Cond.selects RX9 yX9_likely yX9_likely ∈ jB := jB_3 36 rfl rfl
set_option maxRecDepth 20000 in
theorem m3_37 : Cond.code yX9_likely cX9_likely 10 (some .int) ∈ jB := jB_3 37 rfl rfl
set_option maxRecDepth 20000 in
theorem m3_38 : Cond.methodLink RX9 199 yX9_endOfWay ∈ jB := jB_3 38 rfl rfl
set_option maxRecDepth 20000 in
theorem m3_40 : Cond.instanceMethod yX9_endOfWay ∈ jB := jB_3 40 rfl rfl
set_option maxRecDepth 20000 in
theorem m3_41 : Cond.code yX9_endOfWay cX9_endOfWay 6 (some .int) ∈ jB := jB_3 41 rfl rfl
set_option maxRecDepth 20000 in
theorem m3_42 : Cond.methodLink RX9 237 yX3_goal ∈ jB := jB_3 42 rfl rfl
set_option maxRecDepth 20000 in
theorem m3_43 : Cond.methodLink RX9 202 yX9_weightOfWay ∈ jB := jB_3 43 rfl rfl
set_option maxRecDepth 20000 in
theorem m3_44 : Cond.static yX9_weightOfWay ∈ jB := jB_3 44 rfl rfl
set_option maxRecDepth 20000 in
theorem m3_45 : Cond.code yX9_weightOfWay cX9_weightOfWay 5 (some .int) ∈ jB := jB_3 45 rfl rfl
set_option maxRecDepth 20000 in
theorem m3_46 : Cond.methodLink RX9 205 yX9_powerOfTen ∈ jB := jB_3 46 rfl rfl
set_option maxRecDepth 20000 in
theorem m3_47 : Cond.static yX9_powerOfTen ∈ jB := jB_3 47 rfl rfl
set_option maxRecDepth 20000 in
theorem m3_48 : Cond.code yX9_powerOfTen cX9_powerOfTen 3 (some .int) ∈ jB := jB_3 48 rfl rfl
set_option maxRecDepth 20000 in
theorem m3_49 : Cond.methodLink RL 118 yX9_dealing ∈ jB := jB_3 49 rfl rfl
set_option maxRecDepth 20000 in
theorem m3_50 : Cond.instanceMethod yX9_dealing ∈ jB := jB_3 50 rfl rfl
set_option maxRecDepth 20000 in
theorem m3_51 : Cond.selects RX9 yX9_dealing yX9_dealing ∈ jB := jB_3 51 rfl rfl
set_option maxRecDepth 20000 in
theorem m3_52 : Cond.code yX9_dealing cX9_dealing 7 (some .int) ∈ jB := jB_3 52 rfl rfl
set_option maxRecDepth 20000 in
theorem m3_53 : Cond.methodLink RX9 208 yX9_drawOf ∈ jB := jB_3 53 rfl rfl
set_option maxRecDepth 20000 in
theorem m3_54 : Cond.static yX9_drawOf ∈ jB := jB_3 54 rfl rfl
set_option maxRecDepth 20000 in
theorem m3_55 : Cond.code yX9_drawOf cX9_drawOf 4 (some .int) ∈ jB := jB_3 55 rfl rfl
set_option maxRecDepth 20000 in
theorem m3_56 : Cond.constantLong RX9 240 7919 ∈ jB := jB_3 56 rfl rfl
set_option maxRecDepth 20000 in
theorem m3_57 : Cond.constantLong RX9 242 6151 ∈ jB := jB_3 57 rfl rfl
set_option maxRecDepth 20000 in
theorem m3_58 : Cond.constantLong RX9 244 65521 ∈ jB := jB_3 58 rfl rfl
set_option maxRecDepth 20000 in
theorem m3_59 : Cond.constantLong RX9 246 2 ∈ jB := jB_3 59 rfl rfl
set_option maxRecDepth 20000 in
theorem m3_60 : Cond.methodLink RX9 211 yX9_drawnMove ∈ jB := jB_3 60 rfl rfl
set_option maxRecDepth 20000 in
theorem m3_62 : Cond.instanceMethod yX9_drawnMove ∈ jB := jB_3 62 rfl rfl
set_option maxRecDepth 20000 in
theorem m3_63 : Cond.code yX9_drawnMove cX9_drawnMove 3 (some .long) ∈ jB := jB_3 63 rfl rfl
set_option maxRecDepth 20000 in
theorem m3_64 : Cond.methodLink RX9 218 yX4_sameCards ∈ jB := jB_3 64 rfl rfl
set_option maxRecDepth 20000 in
theorem m3_65 : Cond.static yX4_sameCards ∈ jB := jB_3 65 rfl rfl
set_option maxRecDepth 20000 in
theorem m3_66 : Cond.code yX4_sameCards cX4_sameCards 7 (some .int) ∈ jB := jB_3 66 rfl rfl
set_option maxRecDepth 20000 in
theorem m3_67 : Cond.methodLink RL 122 yX9_keep ∈ jB := jB_3 67 rfl rfl
set_option maxRecDepth 20000 in
theorem m3_68 : Cond.instanceMethod yX9_keep ∈ jB := jB_3 68 rfl rfl
set_option maxRecDepth 20000 in
theorem m3_69 : Cond.selects RX9 yX9_keep yX9_keep ∈ jB := jB_3 69 rfl rfl
set_option maxRecDepth 20000 in
theorem m3_70 : Cond.code yX9_keep cX9_keep 1 (some .int) ∈ jB := jB_3 70 rfl rfl
set_option maxRecDepth 20000 in
theorem m3_71 : Cond.methodLink RX9 222 yX6_isFull ∈ jB := jB_3 71 rfl rfl
set_option maxRecDepth 20000 in
theorem m3_72 : Cond.methodLink RL 126 yX9_back ∈ jB := jB_3 72 rfl rfl
set_option maxRecDepth 20000 in
theorem m3_73 : Cond.instanceMethod yX9_back ∈ jB := jB_3 73 rfl rfl
set_option maxRecDepth 20000 in
theorem m3_74 : Cond.selects RX9 yX9_back yX9_back ∈ jB := jB_3 74 rfl rfl
set_option maxRecDepth 20000 in
theorem m3_75 : Cond.code yX9_back cX9_back 1 (some .int) ∈ jB := jB_3 75 rfl rfl
set_option maxRecDepth 20000 in
theorem m3_76 : Cond.methodLink RL 130 yX9_count ∈ jB := jB_3 76 rfl rfl
set_option maxRecDepth 20000 in
theorem m3_77 : Cond.instanceMethod yX9_count ∈ jB := jB_3 77 rfl rfl
set_option maxRecDepth 20000 in
theorem m3_78 : Cond.selects RX9 yX9_count yX9_count ∈ jB := jB_3 78 rfl rfl
set_option maxRecDepth 20000 in
theorem m3_79 : Cond.code yX9_count cX9_count 2 (some .int) ∈ jB := jB_3 79 rfl rfl
set_option maxRecDepth 20000 in
theorem m3_80 : Cond.classLink RL 10 RX10 ∈ jB := jB_3 80 rfl rfl
set_option maxRecDepth 20000 in
theorem m3_81 : Cond.instantiable RX10 27 ∈ jB := jB_3 81 rfl rfl
set_option maxRecDepth 20000 in
theorem m3_82 : Cond.methodLink RL 12 yX10_init ∈ jB := jB_3 82 rfl rfl
set_option maxRecDepth 20000 in
theorem m3_83 : Cond.instanceMethod yX10_init ∈ jB := jB_3 83 rfl rfl
set_option maxRecDepth 20000 in
theorem m3_84 : Cond.code yX10_init cX10_init 1 none ∈ jB := jB_3 84 rfl rfl
set_option maxRecDepth 20000 in
theorem m3_85 : Cond.methodLink RX10 1 objectInit ∈ jB := jB_3 85 rfl rfl
set_option maxRecDepth 20000 in
theorem m3_86 : Cond.methodLink RX10 58 yX10_clearTold ∈ jB := jB_3 86 rfl rfl
set_option maxRecDepth 20000 in
theorem m3_88 : Cond.instanceMethod yX10_clearTold ∈ jB := jB_3 88 rfl rfl
set_option maxRecDepth 20000 in
theorem m3_89 : Cond.code yX10_clearTold cX10_clearTold 1 none ∈ jB := jB_3 89 rfl rfl
set_option maxRecDepth 20000 in
theorem m3_90 : Cond.methodLink RX10 65 yX10_colours ∈ jB := jB_3 90 rfl rfl
set_option maxRecDepth 20000 in
theorem m3_92 : Cond.instanceMethod yX10_colours ∈ jB := jB_3 92 rfl rfl
set_option maxRecDepth 20000 in
theorem m3_93 : Cond.code yX10_colours cX10_colours 2 none ∈ jB := jB_3 93 rfl rfl
set_option maxRecDepth 20000 in
theorem m3_94 : Cond.methodLink RX10 71 yX10_settles ∈ jB := jB_3 94 rfl rfl
set_option maxRecDepth 20000 in
theorem m3_96 : Cond.instanceMethod yX10_settles ∈ jB := jB_3 96 rfl rfl
set_option maxRecDepth 20000 in
theorem m3_97 : Cond.code yX10_settles cX10_settles 1 none ∈ jB := jB_3 97 rfl rfl
set_option maxRecDepth 20000 in
theorem m3_98 : Cond.methodLink RX10 123 yX10_copies ∈ jB := jB_3 98 rfl rfl
set_option maxRecDepth 20000 in
theorem m3_99 : Cond.static yX10_copies ∈ jB := jB_3 99 rfl rfl
set_option maxRecDepth 20000 in
theorem m3_100 : Cond.code yX10_copies cX10_copies 6 none ∈ jB := jB_3 100 rfl rfl
set_option maxRecDepth 20000 in
theorem m3_101 : Cond.methodLink RX10 130 yX10_lies ∈ jB := jB_3 101 rfl rfl
set_option maxRecDepth 20000 in
theorem m3_102 : Cond.static yX10_lies ∈ jB := jB_3 102 rfl rfl
set_option maxRecDepth 20000 in
theorem m3_103 : Cond.code yX10_lies cX10_lies 2 none ∈ jB := jB_3 103 rfl rfl
set_option maxRecDepth 20000 in
theorem m3_104 : Cond.fieldLink RX10 74 RX10 "cards" "I" ∈ jB := jB_3 104 rfl rfl
set_option maxRecDepth 20000 in
theorem m3_105 : Cond.fieldLink RX10 7 RX10 "colour" "[I" ∈ jB := jB_3 105 rfl rfl
set_option maxRecDepth 20000 in
theorem m3_106 : Cond.fieldLink RX10 127 RX10 "dealMany" "I" ∈ jB := jB_3 106 rfl rfl
set_option maxRecDepth 20000 in
theorem m3_107 : Cond.fieldLink RX10 13 RX10 "deal" "[I" ∈ jB := jB_3 107 rfl rfl
set_option maxRecDepth 20000 in
theorem m3_108 : Cond.fieldLink RX10 16 RX10 "st" "[I" ∈ jB := jB_3 108 rfl rfl
set_option maxRecDepth 20000 in
theorem m3_109 : Cond.fieldLink RX10 134 RX10 "acts" "I" ∈ jB := jB_3 109 rfl rfl
set_option maxRecDepth 20000 in
theorem m3_110 : Cond.fieldLink RX10 19 RX10 "was" "[I" ∈ jB := jB_3 110 rfl rfl
set_option maxRecDepth 20000 in
theorem m3_111 : Cond.fieldLink RX10 137 RX10 "keeps" "I" ∈ jB := jB_3 111 rfl rfl
set_option maxRecDepth 20000 in
theorem m3_112 : Cond.fieldLink RX10 22 RX10 "kept" "[I" ∈ jB := jB_3 112 rfl rfl
set_option maxRecDepth 20000 in
theorem m3_113 : Cond.fieldLink RX10 140 RX10 "seens" "I" ∈ jB := jB_3 113 rfl rfl
set_option maxRecDepth 20000 in
theorem m3_114 : Cond.fieldLink RX10 25 RX10 "seen" "[I" ∈ jB := jB_3 114 rfl rfl
set_option maxRecDepth 20000 in
theorem m3_115 : Cond.fieldLink RX10 28 RX10 "text" "[I" ∈ jB := jB_3 115 rfl rfl
set_option maxRecDepth 20000 in
theorem m3_116 : Cond.fieldLink RX10 81 RX10 "texted" "I" ∈ jB := jB_3 116 rfl rfl
set_option maxRecDepth 20000 in
theorem m3_117 : Cond.fieldLink RX10 84 RX10 "at" "I" ∈ jB := jB_3 117 rfl rfl
set_option maxRecDepth 20000 in
theorem m3_118 : Cond.fieldLink RX10 31 RX10 "told" "[I" ∈ jB := jB_3 118 rfl rfl
set_option maxRecDepth 20000 in
theorem m3_119 : Cond.fieldLink RX10 95 RX10 "isBegun" "Z" ∈ jB := jB_3 119 rfl rfl
set_option maxRecDepth 20000 in
theorem m3_120 : Cond.fieldLink RX10 61 RX10 "readCards" "I" ∈ jB := jB_3 120 rfl rfl
set_option maxRecDepth 20000 in
theorem m3_121 : Cond.fieldLink RX10 34 RX10 "readColour" "[I" ∈ jB := jB_3 121 rfl rfl
set_option maxRecDepth 20000 in
theorem m3_122 : Cond.fieldLink RX10 68 RX10 "readDeals" "I" ∈ jB := jB_3 122 rfl rfl
set_option maxRecDepth 20000 in
theorem m3_123 : Cond.fieldLink RX10 37 RX10 "readDeal" "[I" ∈ jB := jB_3 123 rfl rfl
set_option maxRecDepth 20000 in
theorem m3_124 : Cond.fieldLink RX10 40 RX10 "now" "[I" ∈ jB := jB_3 124 rfl rfl
set_option maxRecDepth 20000 in
theorem m3_125 : Cond.fieldLink RX10 43 RX10 "then" "[I" ∈ jB := jB_3 125 rfl rfl
set_option maxRecDepth 20000 in
theorem m3_126 : Cond.fieldLink RX10 46 RX10 "ring" "[I" ∈ jB := jB_3 126 rfl rfl
set_option maxRecDepth 20000 in
theorem m3_127 : Cond.fieldLink RX10 49 RX10 "goes" "[I" ∈ jB := jB_3 127 rfl rfl
set_option maxRecDepth 20000 in
theorem m3_128 : Cond.fieldLink RX10 52 RX10 "far" "[I" ∈ jB := jB_3 128 rfl rfl
set_option maxRecDepth 20000 in
theorem m3_129 : Cond.fieldLink RX10 55 RX10 "met" "[I" ∈ jB := jB_3 129 rfl rfl
set_option maxRecDepth 20000 in
theorem m3_130 : Cond.fieldLink RX10 189 RX10 "metMany" "I" ∈ jB := jB_3 130 rfl rfl
set_option maxRecDepth 20000 in
theorem m3_131 : Cond.lays RX10 RX10 "cards" "I" ∈ jB := jB_3 131 rfl rfl
set_option maxRecDepth 20000 in
theorem m3_133 : Cond.laysFinal RX10 RX10 "colour" "[I" ∈ jB := jB_3 133 rfl rfl
set_option maxRecDepth 20000 in
theorem m3_135 : Cond.lays RX10 RX10 "dealMany" "I" ∈ jB := jB_3 135 rfl rfl
set_option maxRecDepth 20000 in
theorem m3_137 : Cond.laysFinal RX10 RX10 "deal" "[I" ∈ jB := jB_3 137 rfl rfl
set_option maxRecDepth 20000 in
theorem m3_139 : Cond.laysFinal RX10 RX10 "st" "[I" ∈ jB := jB_3 139 rfl rfl
set_option maxRecDepth 20000 in
theorem m3_141 : Cond.lays RX10 RX10 "acts" "I" ∈ jB := jB_3 141 rfl rfl
set_option maxRecDepth 20000 in
theorem m3_143 : Cond.laysFinal RX10 RX10 "was" "[I" ∈ jB := jB_3 143 rfl rfl
set_option maxRecDepth 20000 in
theorem m3_145 : Cond.lays RX10 RX10 "keeps" "I" ∈ jB := jB_3 145 rfl rfl
set_option maxRecDepth 20000 in
theorem m3_147 : Cond.laysFinal RX10 RX10 "kept" "[I" ∈ jB := jB_3 147 rfl rfl
set_option maxRecDepth 20000 in
theorem m3_149 : Cond.lays RX10 RX10 "seens" "I" ∈ jB := jB_3 149 rfl rfl
set_option maxRecDepth 20000 in
theorem m3_151 : Cond.laysFinal RX10 RX10 "seen" "[I" ∈ jB := jB_3 151 rfl rfl
set_option maxRecDepth 20000 in
theorem m3_153 : Cond.laysFinal RX10 RX10 "text" "[I" ∈ jB := jB_3 153 rfl rfl
set_option maxRecDepth 20000 in
theorem m3_155 : Cond.lays RX10 RX10 "texted" "I" ∈ jB := jB_3 155 rfl rfl
set_option maxRecDepth 20000 in
theorem m3_157 : Cond.lays RX10 RX10 "at" "I" ∈ jB := jB_3 157 rfl rfl
set_option maxRecDepth 20000 in
theorem m3_159 : Cond.laysFinal RX10 RX10 "told" "[I" ∈ jB := jB_3 159 rfl rfl
set_option maxRecDepth 20000 in
theorem m3_161 : Cond.lays RX10 RX10 "isBegun" "Z" ∈ jB := jB_3 161 rfl rfl
set_option maxRecDepth 20000 in
theorem m3_163 : Cond.lays RX10 RX10 "readCards" "I" ∈ jB := jB_3 163 rfl rfl
set_option maxRecDepth 20000 in
theorem m3_165 : Cond.laysFinal RX10 RX10 "readColour" "[I" ∈ jB := jB_3 165 rfl rfl
set_option maxRecDepth 20000 in
theorem m3_167 : Cond.lays RX10 RX10 "readDeals" "I" ∈ jB := jB_3 167 rfl rfl
set_option maxRecDepth 20000 in
theorem m3_169 : Cond.laysFinal RX10 RX10 "readDeal" "[I" ∈ jB := jB_3 169 rfl rfl
set_option maxRecDepth 20000 in
theorem m3_171 : Cond.laysFinal RX10 RX10 "now" "[I" ∈ jB := jB_3 171 rfl rfl
set_option maxRecDepth 20000 in
theorem m3_173 : Cond.laysFinal RX10 RX10 "then" "[I" ∈ jB := jB_3 173 rfl rfl
set_option maxRecDepth 20000 in
theorem m3_175 : Cond.laysFinal RX10 RX10 "ring" "[I" ∈ jB := jB_3 175 rfl rfl
set_option maxRecDepth 20000 in
theorem m3_177 : Cond.laysFinal RX10 RX10 "goes" "[I" ∈ jB := jB_3 177 rfl rfl
set_option maxRecDepth 20000 in
theorem m3_179 : Cond.laysFinal RX10 RX10 "far" "[I" ∈ jB := jB_3 179 rfl rfl
set_option maxRecDepth 20000 in
theorem m3_181 : Cond.laysFinal RX10 RX10 "met" "[I" ∈ jB := jB_3 181 rfl rfl
set_option maxRecDepth 20000 in
theorem m3_183 : Cond.lays RX10 RX10 "metMany" "I" ∈ jB := jB_3 183 rfl rfl
set_option maxRecDepth 20000 in
theorem m3_185 : Cond.superclass RX10 "java/lang/Object" ∈ jB := jB_3 185 rfl rfl
set_option maxRecDepth 20000 in
theorem m3_186 : Cond.methodLink RL 17 yX10_write ∈ jB := jB_3 186 rfl rfl
set_option maxRecDepth 20000 in
theorem m3_187 : Cond.instanceMethod yX10_write ∈ jB := jB_3 187 rfl rfl
set_option maxRecDepth 20000 in
theorem m3_188 : Cond.selects RX10 yX10_write yX10_write ∈ jB := jB_3 188 rfl rfl
set_option maxRecDepth 20000 in
theorem m3_189 : Cond.code yX10_write cX10_write 2 (some .int) ∈ jB := jB_3 189 rfl rfl
set_option maxRecDepth 20000 in
theorem m3_190 : Cond.methodLink RX10 77 yX10_in ∈ jB := jB_3 190 rfl rfl
set_option maxRecDepth 20000 in
theorem m3_191 : Cond.static yX10_in ∈ jB := jB_3 191 rfl rfl
set_option maxRecDepth 20000 in
theorem m3_192 : Cond.code yX10_in cX10_in 3 (some .boolean) ∈ jB := jB_3 192 rfl rfl
set_option maxRecDepth 20000 in
theorem m3_193 : Cond.methodLink RL 22 yX10_wipe ∈ jB := jB_3 193 rfl rfl
set_option maxRecDepth 20000 in
theorem m3_194 : Cond.instanceMethod yX10_wipe ∈ jB := jB_3 194 rfl rfl
set_option maxRecDepth 20000 in
theorem m3_195 : Cond.selects RX10 yX10_wipe yX10_wipe ∈ jB := jB_3 195 rfl rfl
set_option maxRecDepth 20000 in
theorem m3_196 : Cond.code yX10_wipe cX10_wipe 2 (some .int) ∈ jB := jB_3 196 rfl rfl
set_option maxRecDepth 20000 in
theorem m3_197 : Cond.methodLink RL 26 yX10_fault ∈ jB := jB_3 197 rfl rfl
set_option maxRecDepth 20000 in
theorem m3_198 : Cond.instanceMethod yX10_fault ∈ jB := jB_3 198 rfl rfl
set_option maxRecDepth 20000 in
theorem m3_199 : Cond.selects RX10 yX10_fault yX10_fault ∈ jB := jB_3 199 rfl rfl
set_option maxRecDepth 20000 in
theorem m3_200 : Cond.code yX10_fault cX10_fault 2 (some .int) ∈ jB := jB_3 200 rfl rfl
set_option maxRecDepth 20000 in
theorem m3_201 : Cond.methodLink RX10 116 yX10_readItem ∈ jB := jB_3 201 rfl rfl
set_option maxRecDepth 20000 in
theorem m3_203 : Cond.instanceMethod yX10_readItem ∈ jB := jB_3 203 rfl rfl
set_option maxRecDepth 20000 in
theorem m3_204 : Cond.code yX10_readItem cX10_readItem 2 (some .boolean) ∈ jB := jB_3 204 rfl rfl
set_option maxRecDepth 20000 in
theorem m3_205 : Cond.methodLink RX10 87 yX10_letterAt ∈ jB := jB_3 205 rfl rfl
set_option maxRecDepth 20000 in
theorem m3_207 : Cond.instanceMethod yX10_letterAt ∈ jB := jB_3 207 rfl rfl
set_option maxRecDepth 20000 in
theorem m3_208 : Cond.code yX10_letterAt cX10_letterAt 2 (some .int) ∈ jB := jB_3 208 rfl rfl
set_option maxRecDepth 20000 in
theorem m3_209 : Cond.methodLink RX10 105 yX10_readCardsOf ∈ jB := jB_3 209 rfl rfl
set_option maxRecDepth 20000 in
theorem m3_211 : Cond.instanceMethod yX10_readCardsOf ∈ jB := jB_3 211 rfl rfl
set_option maxRecDepth 20000 in
theorem m3_212 : Cond.code yX10_readCardsOf cX10_readCardsOf 2 (some .boolean) ∈ jB := jB_3 212 rfl rfl
set_option maxRecDepth 20000 in
theorem m3_213 : Cond.methodLink RX10 99 yX10_readNumbers ∈ jB := jB_3 213 rfl rfl
set_option maxRecDepth 20000 in
theorem m3_215 : Cond.instanceMethod yX10_readNumbers ∈ jB := jB_3 215 rfl rfl
set_option maxRecDepth 20000 in
theorem m3_216 : Cond.code yX10_readNumbers cX10_readNumbers 3 (some .boolean) ∈ jB := jB_3 216 rfl rfl
set_option maxRecDepth 20000 in
theorem m3_217 : Cond.methodLink RX10 91 yX10_isFigure ∈ jB := jB_3 217 rfl rfl
set_option maxRecDepth 20000 in
theorem m3_218 : Cond.static yX10_isFigure ∈ jB := jB_3 218 rfl rfl
set_option maxRecDepth 20000 in
theorem m3_219 : Cond.code yX10_isFigure cX10_isFigure 1 (some .boolean) ∈ jB := jB_3 219 rfl rfl
set_option maxRecDepth 20000 in
theorem m3_220 : Cond.methodLink RX10 102 yX10_isTold ∈ jB := jB_3 220 rfl rfl
set_option maxRecDepth 20000 in
theorem m3_222 : Cond.instanceMethod yX10_isTold ∈ jB := jB_3 222 rfl rfl
set_option maxRecDepth 20000 in
theorem m3_223 : Cond.code yX10_isTold cX10_isTold 4 (some .boolean) ∈ jB := jB_3 223 rfl rfl
set_option maxRecDepth 20000 in
theorem m3_224 : Cond.methodLink RX10 109 yX10_readColourOf ∈ jB := jB_3 224 rfl rfl
set_option maxRecDepth 20000 in
theorem m3_226 : Cond.instanceMethod yX10_readColourOf ∈ jB := jB_3 226 rfl rfl
set_option maxRecDepth 20000 in
theorem m3_227 : Cond.code yX10_readColourOf cX10_readColourOf 1 (some .boolean) ∈ jB := jB_3 227 rfl rfl
set_option maxRecDepth 20000 in
theorem m3_228 : Cond.methodLink RX10 112 yX10_readDealOf ∈ jB := jB_3 228 rfl rfl
set_option maxRecDepth 20000 in
theorem m3_230 : Cond.instanceMethod yX10_readDealOf ∈ jB := jB_3 230 rfl rfl
set_option maxRecDepth 20000 in
theorem m3_231 : Cond.code yX10_readDealOf cX10_readDealOf 3 (some .boolean) ∈ jB := jB_3 231 rfl rfl
set_option maxRecDepth 20000 in
theorem m3_232 : Cond.methodLink RL 30 yX10_lay ∈ jB := jB_3 232 rfl rfl
set_option maxRecDepth 20000 in
theorem m3_233 : Cond.instanceMethod yX10_lay ∈ jB := jB_3 233 rfl rfl
set_option maxRecDepth 20000 in
theorem m3_234 : Cond.selects RX10 yX10_lay yX10_lay ∈ jB := jB_3 234 rfl rfl
set_option maxRecDepth 20000 in
theorem m3_235 : Cond.code yX10_lay cX10_lay 1 (some .int) ∈ jB := jB_3 235 rfl rfl
set_option maxRecDepth 20000 in
theorem m3_236 : Cond.methodLink RX10 119 yX10_fault ∈ jB := jB_3 236 rfl rfl
set_option maxRecDepth 20000 in
theorem m3_237 : Cond.methodLink RL 34 yX10_at ∈ jB := jB_3 237 rfl rfl
set_option maxRecDepth 20000 in
theorem m3_238 : Cond.instanceMethod yX10_at ∈ jB := jB_3 238 rfl rfl
set_option maxRecDepth 20000 in
theorem m3_239 : Cond.selects RX10 yX10_at yX10_at ∈ jB := jB_3 239 rfl rfl
set_option maxRecDepth 20000 in
theorem m4_0 : Cond.code yX10_at cX10_at 2 (some .int) ∈ jB := jB_4 0 rfl rfl
set_option maxRecDepth 20000 in
theorem m4_1 : Cond.methodLink RX10 159 yX10_isCard ∈ jB := jB_4 1 rfl rfl
set_option maxRecDepth 20000 in
theorem m4_3 : Cond.instanceMethod yX10_isCard ∈ jB := jB_4 3 rfl rfl
set_option maxRecDepth 20000 in
theorem m4_4 : Cond.code yX10_isCard cX10_isCard 2 (some .boolean) ∈ jB := jB_4 4 rfl rfl
set_option maxRecDepth 20000 in
theorem m4_5 : Cond.methodLink RL 38 yX10_where ∈ jB := jB_4 5 rfl rfl
set_option maxRecDepth 20000 in
theorem m4_6 : Cond.instanceMethod yX10_where ∈ jB := jB_4 6 rfl rfl
set_option maxRecDepth 20000 in
theorem m4_7 : Cond.selects RX10 yX10_where yX10_where ∈ jB := jB_4 7 rfl rfl
set_option maxRecDepth 20000 in
theorem m4_8 : Cond.code yX10_where cX10_where 2 (some .int) ∈ jB := jB_4 8 rfl rfl
set_option maxRecDepth 20000 in
theorem m4_9 : Cond.methodLink RX10 162 yX10_asItIs ∈ jB := jB_4 9 rfl rfl
set_option maxRecDepth 20000 in
theorem m4_11 : Cond.instanceMethod yX10_asItIs ∈ jB := jB_4 11 rfl rfl
set_option maxRecDepth 20000 in
theorem m4_12 : Cond.code yX10_asItIs cX10_asItIs 1 none ∈ jB := jB_4 12 rfl rfl
set_option maxRecDepth 20000 in
theorem m4_13 : Cond.methodLink RX10 165 yX10_placeOf ∈ jB := jB_4 13 rfl rfl
set_option maxRecDepth 20000 in
theorem m4_15 : Cond.instanceMethod yX10_placeOf ∈ jB := jB_4 15 rfl rfl
set_option maxRecDepth 20000 in
theorem m4_16 : Cond.code yX10_placeOf cX10_placeOf 3 (some .int) ∈ jB := jB_4 16 rfl rfl
set_option maxRecDepth 20000 in
theorem m4_17 : Cond.methodLink RL 42 yX10_colour ∈ jB := jB_4 17 rfl rfl
set_option maxRecDepth 20000 in
theorem m4_18 : Cond.instanceMethod yX10_colour ∈ jB := jB_4 18 rfl rfl
set_option maxRecDepth 20000 in
theorem m4_19 : Cond.selects RX10 yX10_colour yX10_colour ∈ jB := jB_4 19 rfl rfl
set_option maxRecDepth 20000 in
theorem m4_20 : Cond.code yX10_colour cX10_colour 2 (some .int) ∈ jB := jB_4 20 rfl rfl
set_option maxRecDepth 20000 in
theorem m4_21 : Cond.methodLink RL 46 yX10_lace ∈ jB := jB_4 21 rfl rfl
set_option maxRecDepth 20000 in
theorem m4_22 : Cond.instanceMethod yX10_lace ∈ jB := jB_4 22 rfl rfl
set_option maxRecDepth 20000 in
theorem m4_23 : Cond.selects RX10 yX10_lace yX10_lace ∈ jB := jB_4 23 rfl rfl
set_option maxRecDepth 20000 in
theorem m4_24 : Cond.code yX10_lace cX10_lace 2 (some .int) ∈ jB := jB_4 24 rfl rfl
set_option maxRecDepth 20000 in
theorem m4_25 : Cond.methodLink RX10 171 yX10_isKind ∈ jB := jB_4 25 rfl rfl
set_option maxRecDepth 20000 in
theorem m4_26 : Cond.static yX10_isKind ∈ jB := jB_4 26 rfl rfl
set_option maxRecDepth 20000 in
theorem m4_27 : Cond.code yX10_isKind cX10_isKind 1 (some .boolean) ∈ jB := jB_4 27 rfl rfl
set_option maxRecDepth 20000 in
theorem m4_28 : Cond.methodLink RX10 174 yX10_does ∈ jB := jB_4 28 rfl rfl
set_option maxRecDepth 20000 in
theorem m4_30 : Cond.instanceMethod yX10_does ∈ jB := jB_4 30 rfl rfl
set_option maxRecDepth 20000 in
theorem m4_31 : Cond.code yX10_does cX10_does 2 (some .int) ∈ jB := jB_4 31 rfl rfl
set_option maxRecDepth 20000 in
theorem m4_32 : Cond.methodLink RX10 168 yX10_remembers ∈ jB := jB_4 32 rfl rfl
set_option maxRecDepth 20000 in
theorem m4_34 : Cond.instanceMethod yX10_remembers ∈ jB := jB_4 34 rfl rfl
set_option maxRecDepth 20000 in
theorem m4_35 : Cond.code yX10_remembers cX10_remembers 2 none ∈ jB := jB_4 35 rfl rfl
set_option maxRecDepth 20000 in
theorem m4_36 : Cond.methodLink RX10 157 yX10_acts ∈ jB := jB_4 36 rfl rfl
set_option maxRecDepth 20000 in
theorem m4_38 : Cond.instanceMethod yX10_acts ∈ jB := jB_4 38 rfl rfl
set_option maxRecDepth 20000 in
theorem m4_39 : Cond.code yX10_acts cX10_acts 5 none ∈ jB := jB_4 39 rfl rfl
set_option maxRecDepth 20000 in
theorem m4_40 : Cond.methodLink RX10 143 yX10_falls ∈ jB := jB_4 40 rfl rfl
set_option maxRecDepth 20000 in
theorem m4_42 : Cond.instanceMethod yX10_falls ∈ jB := jB_4 42 rfl rfl
set_option maxRecDepth 20000 in
theorem m4_43 : Cond.code yX10_falls cX10_falls 6 none ∈ jB := jB_4 43 rfl rfl
set_option maxRecDepth 20000 in
theorem m4_44 : Cond.methodLink RX10 147 yX10_milks ∈ jB := jB_4 44 rfl rfl
set_option maxRecDepth 20000 in
theorem m4_46 : Cond.instanceMethod yX10_milks ∈ jB := jB_4 46 rfl rfl
set_option maxRecDepth 20000 in
theorem m4_47 : Cond.code yX10_milks cX10_milks 2 none ∈ jB := jB_4 47 rfl rfl
set_option maxRecDepth 20000 in
theorem m4_48 : Cond.methodLink RX10 150 yX10_under ∈ jB := jB_4 48 rfl rfl
set_option maxRecDepth 20000 in
theorem m4_50 : Cond.instanceMethod yX10_under ∈ jB := jB_4 50 rfl rfl
set_option maxRecDepth 20000 in
theorem m4_51 : Cond.code yX10_under cX10_under 4 none ∈ jB := jB_4 51 rfl rfl
set_option maxRecDepth 20000 in
theorem m4_52 : Cond.methodLink RX10 153 yX10_cuts ∈ jB := jB_4 52 rfl rfl
set_option maxRecDepth 20000 in
theorem m4_54 : Cond.instanceMethod yX10_cuts ∈ jB := jB_4 54 rfl rfl
set_option maxRecDepth 20000 in
theorem m4_55 : Cond.code yX10_cuts cX10_cuts 3 none ∈ jB := jB_4 55 rfl rfl
set_option maxRecDepth 20000 in
theorem m4_56 : Cond.methodLink RL 50 yX10_cut ∈ jB := jB_4 56 rfl rfl
set_option maxRecDepth 20000 in
theorem m4_57 : Cond.instanceMethod yX10_cut ∈ jB := jB_4 57 rfl rfl
set_option maxRecDepth 20000 in
theorem m4_58 : Cond.selects RX10 yX10_cut yX10_cut ∈ jB := jB_4 58 rfl rfl
set_option maxRecDepth 20000 in
theorem m4_59 : Cond.code yX10_cut cX10_cut 2 (some .int) ∈ jB := jB_4 59 rfl rfl
set_option maxRecDepth 20000 in
theorem m4_60 : Cond.methodLink RL 54 yX10_turn ∈ jB := jB_4 60 rfl rfl
set_option maxRecDepth 20000 in
theorem m4_61 : Cond.instanceMethod yX10_turn ∈ jB := jB_4 61 rfl rfl
set_option maxRecDepth 20000 in
theorem m4_62 : Cond.selects RX10 yX10_turn yX10_turn ∈ jB := jB_4 62 rfl rfl
set_option maxRecDepth 20000 in
theorem m4_63 : Cond.code yX10_turn cX10_turn 1 (some .int) ∈ jB := jB_4 63 rfl rfl
set_option maxRecDepth 20000 in
theorem m4_64 : Cond.methodLink RL 58 yX10_deal ∈ jB := jB_4 64 rfl rfl
set_option maxRecDepth 20000 in
theorem m4_65 : Cond.instanceMethod yX10_deal ∈ jB := jB_4 65 rfl rfl
set_option maxRecDepth 20000 in
theorem m4_66 : Cond.selects RX10 yX10_deal yX10_deal ∈ jB := jB_4 66 rfl rfl
set_option maxRecDepth 20000 in
theorem m4_67 : Cond.code yX10_deal cX10_deal 1 (some .int) ∈ jB := jB_4 67 rfl rfl
set_option maxRecDepth 20000 in
theorem m4_68 : Cond.methodLink RX10 177 yX10_deals ∈ jB := jB_4 68 rfl rfl
set_option maxRecDepth 20000 in
theorem m4_70 : Cond.instanceMethod yX10_deals ∈ jB := jB_4 70 rfl rfl
set_option maxRecDepth 20000 in
theorem m4_71 : Cond.code yX10_deals cX10_deals 2 none ∈ jB := jB_4 71 rfl rfl
set_option maxRecDepth 20000 in
theorem m4_72 : Cond.methodLink RL 62 yX10_undo ∈ jB := jB_4 72 rfl rfl
set_option maxRecDepth 20000 in
theorem m4_73 : Cond.instanceMethod yX10_undo ∈ jB := jB_4 73 rfl rfl
set_option maxRecDepth 20000 in
theorem m4_74 : Cond.selects RX10 yX10_undo yX10_undo ∈ jB := jB_4 74 rfl rfl
set_option maxRecDepth 20000 in
theorem m4_75 : Cond.code yX10_undo cX10_undo 1 (some .int) ∈ jB := jB_4 75 rfl rfl
set_option maxRecDepth 20000 in
theorem m4_76 : Cond.methodLink RL 66 yX10_again ∈ jB := jB_4 76 rfl rfl
set_option maxRecDepth 20000 in
theorem m4_77 : Cond.instanceMethod yX10_again ∈ jB := jB_4 77 rfl rfl
set_option maxRecDepth 20000 in
theorem m4_78 : Cond.selects RX10 yX10_again yX10_again ∈ jB := jB_4 78 rfl rfl
set_option maxRecDepth 20000 in
theorem m4_79 : Cond.code yX10_again cX10_again 4 (some .int) ∈ jB := jB_4 79 rfl rfl
set_option maxRecDepth 20000 in
theorem m4_80 : Cond.methodLink RX10 180 yX10_isInOrder ∈ jB := jB_4 80 rfl rfl
set_option maxRecDepth 20000 in
theorem m4_82 : Cond.instanceMethod yX10_isInOrder ∈ jB := jB_4 82 rfl rfl
set_option maxRecDepth 20000 in
theorem m4_83 : Cond.code yX10_isInOrder cX10_isInOrder 3 (some .boolean) ∈ jB := jB_4 83 rfl rfl
set_option maxRecDepth 20000 in
theorem m4_84 : Cond.methodLink RL 71 yX10_round ∈ jB := jB_4 84 rfl rfl
set_option maxRecDepth 20000 in
theorem m4_85 : Cond.instanceMethod yX10_round ∈ jB := jB_4 85 rfl rfl
set_option maxRecDepth 20000 in
theorem m4_86 : Cond.selects RX10 yX10_round yX10_round ∈ jB := jB_4 86 rfl rfl
set_option maxRecDepth 20000 in
theorem m4_87 : Cond.code yX10_round cX10_round 5 (some .int) ∈ jB := jB_4 87 rfl rfl
set_option maxRecDepth 20000 in
theorem m4_88 : Cond.methodLink RL 75 yX10_rounds ∈ jB := jB_4 88 rfl rfl
set_option maxRecDepth 20000 in
theorem m4_89 : Cond.instanceMethod yX10_rounds ∈ jB := jB_4 89 rfl rfl
set_option maxRecDepth 20000 in
theorem m4_90 : Cond.selects RX10 yX10_rounds yX10_rounds ∈ jB := jB_4 90 rfl rfl
set_option maxRecDepth 20000 in
theorem m4_91 : Cond.code yX10_rounds cX10_rounds 6 (some .int) ∈ jB := jB_4 91 rfl rfl
set_option maxRecDepth 20000 in
theorem m4_92 : Cond.methodLink RL 80 yX10_bring ∈ jB := jB_4 92 rfl rfl
set_option maxRecDepth 20000 in
theorem m4_93 : Cond.instanceMethod yX10_bring ∈ jB := jB_4 93 rfl rfl
set_option maxRecDepth 20000 in
theorem m4_94 : Cond.selects RX10 yX10_bring yX10_bring ∈ jB := jB_4 94 rfl rfl
set_option maxRecDepth 20000 in
theorem m4_95 : Cond.code yX10_bring cX10_bring 8 (some .int) ∈ jB := jB_4 95 rfl rfl
set_option maxRecDepth 20000 in
theorem m4_96 : Cond.methodLink RX10 186 yX10_findFar ∈ jB := jB_4 96 rfl rfl
set_option maxRecDepth 20000 in
theorem m4_98 : Cond.instanceMethod yX10_findFar ∈ jB := jB_4 98 rfl rfl
set_option maxRecDepth 20000 in
theorem m4_99 : Cond.code yX10_findFar cX10_findFar 5 none ∈ jB := jB_4 99 rfl rfl
set_option maxRecDepth 20000 in
theorem m4_100 : Cond.methodLink RX10 183 yX10_findGoes ∈ jB := jB_4 100 rfl rfl
set_option maxRecDepth 20000 in
theorem m4_102 : Cond.instanceMethod yX10_findGoes ∈ jB := jB_4 102 rfl rfl
set_option maxRecDepth 20000 in
theorem m4_103 : Cond.code yX10_findGoes cX10_findGoes 3 none ∈ jB := jB_4 103 rfl rfl
set_option maxRecDepth 20000 in
theorem m4_104 : Cond.methodLink RL 84 yX10_beside ∈ jB := jB_4 104 rfl rfl
set_option maxRecDepth 20000 in
theorem m4_105 : Cond.instanceMethod yX10_beside ∈ jB := jB_4 105 rfl rfl
set_option maxRecDepth 20000 in
theorem m4_106 : Cond.selects RX10 yX10_beside yX10_beside ∈ jB := jB_4 106 rfl rfl
set_option maxRecDepth 20000 in
theorem m4_107 : Cond.code yX10_beside cX10_beside 11 (some .int) ∈ jB := jB_4 107 rfl rfl
set_option maxRecDepth 20000 in
theorem m4_108 : Cond.methodLink RL 88 yX10_orders ∈ jB := jB_4 108 rfl rfl
set_option maxRecDepth 20000 in
theorem m4_109 : Cond.instanceMethod yX10_orders ∈ jB := jB_4 109 rfl rfl
set_option maxRecDepth 20000 in
theorem m4_110 : Cond.selects RX10 yX10_orders yX10_orders ∈ jB := jB_4 110 rfl rfl
set_option maxRecDepth 20000 in
theorem m4_111 : Cond.code yX10_orders cX10_orders 5 (some .int) ∈ jB := jB_4 111 rfl rfl
set_option maxRecDepth 20000 in
theorem m4_112 : Cond.methodLink RX10 192 yX10_isMet ∈ jB := jB_4 112 rfl rfl
set_option maxRecDepth 20000 in
theorem m4_114 : Cond.instanceMethod yX10_isMet ∈ jB := jB_4 114 rfl rfl
set_option maxRecDepth 20000 in
theorem m4_115 : Cond.code yX10_isMet cX10_isMet 5 (some .boolean) ∈ jB := jB_4 115 rfl rfl
set_option maxRecDepth 20000 in
theorem m4_116 : Cond.methodLink RL 92 yX10_rising ∈ jB := jB_4 116 rfl rfl
set_option maxRecDepth 20000 in
theorem m4_117 : Cond.instanceMethod yX10_rising ∈ jB := jB_4 117 rfl rfl
set_option maxRecDepth 20000 in
theorem m4_118 : Cond.selects RX10 yX10_rising yX10_rising ∈ jB := jB_4 118 rfl rfl
set_option maxRecDepth 20000 in
theorem m4_119 : Cond.code yX10_rising cX10_rising 1 (some .int) ∈ jB := jB_4 119 rfl rfl
set_option maxRecDepth 20000 in
theorem m4_120 : Cond.methodLink RX10 195 yX10_risingNow ∈ jB := jB_4 120 rfl rfl
set_option maxRecDepth 20000 in
theorem m4_122 : Cond.instanceMethod yX10_risingNow ∈ jB := jB_4 122 rfl rfl
set_option maxRecDepth 20000 in
theorem m4_123 : Cond.code yX10_risingNow cX10_risingNow 3 (some .int) ∈ jB := jB_4 123 rfl rfl
set_option maxRecDepth 20000 in
theorem m4_124 : Cond.methodLink RL 96 yX10_pairs ∈ jB := jB_4 124 rfl rfl
set_option maxRecDepth 20000 in
theorem m4_125 : Cond.instanceMethod yX10_pairs ∈ jB := jB_4 125 rfl rfl
set_option maxRecDepth 20000 in
theorem m4_126 : Cond.selects RX10 yX10_pairs yX10_pairs ∈ jB := jB_4 126 rfl rfl
set_option maxRecDepth 20000 in
theorem m4_127 : Cond.code yX10_pairs cX10_pairs 1 (some .int) ∈ jB := jB_4 127 rfl rfl
set_option maxRecDepth 20000 in
theorem m4_128 : Cond.methodLink RX10 198 yX10_unlike ∈ jB := jB_4 128 rfl rfl
set_option maxRecDepth 20000 in
theorem m4_130 : Cond.instanceMethod yX10_unlike ∈ jB := jB_4 130 rfl rfl
set_option maxRecDepth 20000 in
theorem m4_131 : Cond.code yX10_unlike cX10_unlike 4 (some .int) ∈ jB := jB_4 131 rfl rfl
set_option maxRecDepth 20000 in
theorem m4_132 : Cond.methodLink RL 100 yX10_sure ∈ jB := jB_4 132 rfl rfl
set_option maxRecDepth 20000 in
theorem m4_133 : Cond.instanceMethod yX10_sure ∈ jB := jB_4 133 rfl rfl
set_option maxRecDepth 20000 in
theorem m4_134 : Cond.selects RX10 yX10_sure yX10_sure ∈ jB := jB_4 134 rfl rfl
set_option maxRecDepth 20000 in
theorem m4_135 : Cond.code yX10_sure cX10_sure 10 (some .int) ∈ jB := jB_4 135 rfl rfl
set_option maxRecDepth 20000 in
theorem m4_136 : Cond.methodLink RX10 202 yX10_bits ∈ jB := jB_4 136 rfl rfl
set_option maxRecDepth 20000 in
theorem m4_137 : Cond.static yX10_bits ∈ jB := jB_4 137 rfl rfl
set_option maxRecDepth 20000 in
theorem m4_138 : Cond.code yX10_bits cX10_bits 3 (some .int) ∈ jB := jB_4 138 rfl rfl
set_option maxRecDepth 20000 in
theorem m4_139 : Cond.methodLink RX10 205 yX10_lowest ∈ jB := jB_4 139 rfl rfl
set_option maxRecDepth 20000 in
theorem m4_140 : Cond.static yX10_lowest ∈ jB := jB_4 140 rfl rfl
set_option maxRecDepth 20000 in
theorem m4_141 : Cond.code yX10_lowest cX10_lowest 6 (some .int) ∈ jB := jB_4 141 rfl rfl
set_option maxRecDepth 20000 in
theorem m4_142 : Cond.methodLink RL 104 yX10_seen ∈ jB := jB_4 142 rfl rfl
set_option maxRecDepth 20000 in
theorem m4_143 : Cond.instanceMethod yX10_seen ∈ jB := jB_4 143 rfl rfl
set_option maxRecDepth 20000 in
theorem m4_144 : Cond.selects RX10 yX10_seen yX10_seen ∈ jB := jB_4 144 rfl rfl
set_option maxRecDepth 20000 in
theorem m4_145 : Cond.code yX10_seen cX10_seen 3 (some .int) ∈ jB := jB_4 145 rfl rfl
set_option maxRecDepth 20000 in
theorem m4_146 : Cond.methodLink RL 108 yX10_forget ∈ jB := jB_4 146 rfl rfl
set_option maxRecDepth 20000 in
theorem m4_147 : Cond.instanceMethod yX10_forget ∈ jB := jB_4 147 rfl rfl
set_option maxRecDepth 20000 in
theorem m4_148 : Cond.selects RX10 yX10_forget yX10_forget ∈ jB := jB_4 148 rfl rfl
set_option maxRecDepth 20000 in
theorem m4_149 : Cond.code yX10_forget cX10_forget 2 (some .int) ∈ jB := jB_4 149 rfl rfl
set_option maxRecDepth 20000 in
theorem m4_150 : Cond.methodLink RL 112 yX10_done ∈ jB := jB_4 150 rfl rfl
set_option maxRecDepth 20000 in
theorem m4_151 : Cond.instanceMethod yX10_done ∈ jB := jB_4 151 rfl rfl
set_option maxRecDepth 20000 in
theorem m4_152 : Cond.selects RX10 yX10_done yX10_done ∈ jB := jB_4 152 rfl rfl
set_option maxRecDepth 20000 in
theorem m4_153 : Cond.code yX10_done cX10_done 4 (some .int) ∈ jB := jB_4 153 rfl rfl
set_option maxRecDepth 20000 in
theorem m4_154 : Cond.methodLink RX10 209 yX10_isBy ∈ jB := jB_4 154 rfl rfl
set_option maxRecDepth 20000 in
theorem m4_156 : Cond.instanceMethod yX10_isBy ∈ jB := jB_4 156 rfl rfl
set_option maxRecDepth 20000 in
theorem m4_157 : Cond.code yX10_isBy cX10_isBy 4 (some .boolean) ∈ jB := jB_4 157 rfl rfl
set_option maxRecDepth 20000 in
theorem m4_158 : Cond.methodLink RL 117 yX10_likely ∈ jB := jB_4 158 rfl rfl
set_option maxRecDepth 20000 in
theorem m4_159 : Cond.instanceMethod yX10_likely ∈ jB := jB_4 159 rfl rfl
set_option maxRecDepth 20000 in
theorem m4_160 : Cond.selects RX10 yX10_likely yX10_likely ∈ jB := jB_4 160 rfl rfl
set_option maxRecDepth 20000 in
theorem m4_161 : Cond.code yX10_likely cX10_likely 14 (some .int) ∈ jB := jB_4 161 rfl rfl
set_option maxRecDepth 20000 in
theorem m4_162 : Cond.methodLink RL 121 yX10_dealing ∈ jB := jB_4 162 rfl rfl
set_option maxRecDepth 20000 in
theorem m4_163 : Cond.instanceMethod yX10_dealing ∈ jB := jB_4 163 rfl rfl
set_option maxRecDepth 20000 in
theorem m4_164 : Cond.selects RX10 yX10_dealing yX10_dealing ∈ jB := jB_4 164 rfl rfl
set_option maxRecDepth 20000 in
theorem m4_165 : Cond.code yX10_dealing cX10_dealing 9 (some .int) ∈ jB := jB_4 165 rfl rfl
set_option maxRecDepth 20000 in
theorem m4_166 : Cond.constantLong RX10 212 7919 ∈ jB := jB_4 166 rfl rfl
set_option maxRecDepth 20000 in
theorem m4_167 : Cond.constantLong RX10 214 6151 ∈ jB := jB_4 167 rfl rfl
set_option maxRecDepth 20000 in
theorem m4_168 : Cond.constantLong RX10 216 65521 ∈ jB := jB_4 168 rfl rfl
set_option maxRecDepth 20000 in
theorem m4_169 : Cond.constantLong RX10 218 2 ∈ jB := jB_4 169 rfl rfl
set_option maxRecDepth 20000 in
theorem m4_170 : Cond.methodLink RL 125 yX10_keep ∈ jB := jB_4 170 rfl rfl
set_option maxRecDepth 20000 in
theorem m4_171 : Cond.instanceMethod yX10_keep ∈ jB := jB_4 171 rfl rfl
set_option maxRecDepth 20000 in
theorem m4_172 : Cond.selects RX10 yX10_keep yX10_keep ∈ jB := jB_4 172 rfl rfl
set_option maxRecDepth 20000 in
theorem m4_173 : Cond.code yX10_keep cX10_keep 1 (some .int) ∈ jB := jB_4 173 rfl rfl
set_option maxRecDepth 20000 in
theorem m4_174 : Cond.methodLink RL 129 yX10_back ∈ jB := jB_4 174 rfl rfl
set_option maxRecDepth 20000 in
theorem m4_175 : Cond.instanceMethod yX10_back ∈ jB := jB_4 175 rfl rfl
set_option maxRecDepth 20000 in
theorem m4_176 : Cond.selects RX10 yX10_back yX10_back ∈ jB := jB_4 176 rfl rfl
set_option maxRecDepth 20000 in
theorem m4_177 : Cond.code yX10_back cX10_back 1 (some .int) ∈ jB := jB_4 177 rfl rfl
set_option maxRecDepth 20000 in
theorem m4_178 : Cond.methodLink RL 133 yX10_count ∈ jB := jB_4 178 rfl rfl
set_option maxRecDepth 20000 in
theorem m4_179 : Cond.instanceMethod yX10_count ∈ jB := jB_4 179 rfl rfl
set_option maxRecDepth 20000 in
theorem m4_180 : Cond.selects RX10 yX10_count yX10_count ∈ jB := jB_4 180 rfl rfl
set_option maxRecDepth 20000 in
theorem m4_181 : Cond.code yX10_count cX10_count 2 (some .int) ∈ jB := jB_4 181 rfl rfl
