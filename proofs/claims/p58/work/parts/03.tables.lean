/-! static tables of the program, written by a program out of the Statement -/
abbrev AV : Type := Int32 ⊕ (Nat × Nat) ⊕ Int64 ⊕ UInt32 ⊕ UInt64 ⊕ Bool
abbrev aI (x : Int32) : AV := Sum.inl x
abbrev aR (a b : Nat) : AV := Sum.inr (Sum.inl (a, b))
abbrev aL (x : Int64) : AV := Sum.inr (Sum.inr (Sum.inl x))
abbrev aF (x : UInt32) : AV := Sum.inr (Sum.inr (Sum.inr (Sum.inl x)))
abbrev aD (x : UInt64) : AV := Sum.inr (Sum.inr (Sum.inr (Sum.inr (Sum.inl x))))
abbrev aN : AV := Sum.inr (Sum.inr (Sum.inr (Sum.inr (Sum.inr false))))
abbrev aZ : AV := Sum.inr (Sum.inr (Sum.inr (Sum.inr (Sum.inr true))))
abbrev SC : Type := Option ((Nat × Nat × (Nat → AV)) ⊕ (Nat × List AV))
abbrev MI : Type := MethodName × ByteArray × Nat × Option FieldType × List (Nat × Nat × Nat × Nat) × Bool
abbrev mi_0 : MI := (⟨"SmokeRelay", "<init>", "()V"⟩, prog_1_method_1_code, 1, none, [], false)
abbrev mi_1 : MI := (⟨"SmokeRelay$Row", "<init>", "()V"⟩, prog_9_method_1_code, 1, none, [], false)
abbrev mi_2 : MI := (⟨"SmokeRelay$History", "<init>", "()V"⟩, prog_4_method_1_code, 2, none, [], false)
abbrev mi_3 : MI := (⟨"SmokeRelay$Sight", "<init>", "(LSmokeRelay$Row;)V"⟩, prog_10_method_1_code, 2, none, [], false)
abbrev mi_4 : MI := (⟨"SmokeRelay$Relays", "<init>", "(LSmokeRelay$Row;LSmokeRelay$Sight;)V"⟩, prog_8_method_1_code, 3, none, [], false)
abbrev mi_5 : MI := (⟨"SmokeRelay$Smokes", "<init>", "()V"⟩, prog_11_method_1_code, 2, none, [], false)
abbrev mi_6 : MI := (⟨"SmokeRelay$Smokes", "encode", "(I)I"⟩, prog_11_method_3_code, 3, some .int, [], false)
abbrev mi_7 : MI := (⟨"SmokeRelay$Smokes", "oddness", "(I)I"⟩, prog_11_method_2_code, 1, some .int, [], false)
abbrev mi_8 : MI := (⟨"java/lang/Integer", "bitCount", "(I)I"⟩, prog_27_method_49_code, 1, some .int, [], false)
abbrev mi_9 : MI := (⟨"SmokeRelay$Codes", "<init>", "(LSmokeRelay$Row;)V"⟩, prog_3_method_1_code, 2, none, [], false)
abbrev mi_10 : MI := (⟨"SmokeRelay$Input", "<init>", "()V"⟩, prog_5_method_1_code, 1, none, [], false)
abbrev mi_11 : MI := (⟨"SmokeRelay$Output", "<init>", "()V"⟩, prog_7_method_1_code, 1, none, [], false)
abbrev mi_12 : MI := (⟨"SmokeRelay", "towerCount", "()I"⟩, prog_1_method_6_code, 1, some .int, [], false)
abbrev mi_13 : MI := (⟨"SmokeRelay", "fewestWatchers", "()I"⟩, prog_1_method_17_code, 1, some .int, [], false)
abbrev mi_14 : MI := (⟨"SmokeRelay$Sight", "smallestWatch", "()I"⟩, prog_10_method_10_code, 5, some .int, [], false)
abbrev mi_15 : MI := (⟨"SmokeRelay$Sight", "lookAround", "()V"⟩, prog_10_method_8_code, 2, none, [], false)
abbrev mi_16 : MI := (⟨"SmokeRelay$Sight", "seenFrom", "(I)I"⟩, prog_10_method_7_code, 4, some .int, [], false)
abbrev mi_17 : MI := (⟨"SmokeRelay$Sight", "towerSees", "(II)Z"⟩, prog_10_method_3_code, 3, some .boolean, [], false)
abbrev mi_18 : MI := (⟨"SmokeRelay$Row", "eyeOf", "(I)I"⟩, prog_9_method_4_code, 2, some .int, [], false)
abbrev mi_19 : MI := (⟨"SmokeRelay$Sight", "isClear", "(IIII)Z"⟩, prog_10_method_4_code, 9, some .boolean, [], false)
abbrev mi_20 : MI := (⟨"SmokeRelay$Sight", "seenBy", "(I)I"⟩, prog_10_method_9_code, 4, some .int, [], false)
abbrev mi_21 : MI := (⟨"SmokeRelay", "fewestWatchersByRecursion", "()I"⟩, prog_1_method_18_code, 1, some .int, [], false)
abbrev mi_22 : MI := (⟨"SmokeRelay$Sight", "smallestWatchByRecursion", "()I"⟩, prog_10_method_11_code, 1, some .int, [], false)
abbrev mi_23 : MI := (⟨"SmokeRelay$Sight", "towersFor", "([III)I"⟩, prog_10_method_12_code, 6, some .int, [], false)
abbrev mi_24 : MI := (⟨"SmokeRelay", "wind", "()I"⟩, prog_1_method_20_code, 1, some .int, [], false)
abbrev mi_25 : MI := (⟨"SmokeRelay", "groupCount", "()I"⟩, prog_1_method_26_code, 1, some .int, [], false)
abbrev mi_26 : MI := (⟨"SmokeRelay$Relays", "groups", "()I"⟩, prog_8_method_12_code, 3, some .int, [], false)
abbrev mi_27 : MI := (⟨"SmokeRelay$Relays", "measureSteps", "()V"⟩, prog_8_method_3_code, 3, none, [], false)
abbrev mi_28 : MI := (⟨"SmokeRelay$Sight", "towersSee", "(II)Z"⟩, prog_10_method_2_code, 3, some .boolean, [], false)
abbrev mi_29 : MI := (⟨"SmokeRelay$Relays", "stepDelay", "(II)I"⟩, prog_8_method_2_code, 4, some .int, [], false)
abbrev mi_30 : MI := (⟨"SmokeRelay$Relays", "fillTable", "()V"⟩, prog_8_method_9_code, 4, none, [], false)
abbrev mi_31 : MI := (⟨"SmokeRelay$Relays", "isFirstOfGroup", "(I)Z"⟩, prog_8_method_13_code, 3, some .boolean, [], false)
abbrev mi_32 : MI := (⟨"SmokeRelay", "bestCost", "()I"⟩, prog_1_method_38_code, 1, some .int, [], false)
abbrev mi_33 : MI := (⟨"SmokeRelay$Codes", "costByJoining", "()I"⟩, prog_3_method_3_code, 3, some .int, [], false)
abbrev mi_34 : MI := (⟨"SmokeRelay$Codes", "gather", "()V"⟩, prog_3_method_2_code, 2, none, [], false)
abbrev mi_35 : MI := (⟨"SmokeRelay$Codes", "moveRarestToEnd", "(I)V"⟩, prog_3_method_4_code, 4, none, [], false)
abbrev mi_36 : MI := (⟨"SmokeRelay$Codes", "swapWithLast", "(II)V"⟩, prog_3_method_6_code, 4, none, [], false)
abbrev mi_37 : MI := (⟨"SmokeRelay", "bestCostByRows", "()I"⟩, prog_1_method_39_code, 1, some .int, [], false)
abbrev mi_38 : MI := (⟨"SmokeRelay$Codes", "costByTwoRows", "()I"⟩, prog_3_method_7_code, 4, some .int, [], false)
abbrev mi_39 : MI := (⟨"SmokeRelay$Codes", "moveMostFrequentToEnd", "(I)V"⟩, prog_3_method_5_code, 4, none, [], false)
abbrev mi_40 : MI := (⟨"SmokeRelay$Codes", "takeRarest", "()I"⟩, prog_3_method_8_code, 2, some .int, [], false)
abbrev mi_41 : MI := (⟨"SmokeRelay", "isConsistent", "()Z"⟩, prog_1_method_48_code, 1, some .boolean, [], false)
abbrev mi_42 : MI := (⟨"SmokeRelay$Sight", "methodsAgree", "()Z"⟩, prog_10_method_6_code, 3, some .boolean, [], false)
abbrev mi_43 : MI := (⟨"SmokeRelay$Sight", "towersSeeBySlopes", "(II)Z"⟩, prog_10_method_5_code, 11, some .boolean, [], false)
abbrev mi_44 : MI := (⟨"SmokeRelay$Relays", "methodsAgree", "()Z"⟩, prog_8_method_11_code, 4, some .boolean, [], false)
abbrev mi_45 : MI := (⟨"SmokeRelay$Relays", "settleTowards", "(I)V"⟩, prog_8_method_5_code, 6, none, [], false)
abbrev mi_46 : MI := (⟨"java/util/Arrays", "fill", "([II)V"⟩, prog_40_method_103_code, 4, none, [], false)
abbrev mi_47 : MI := (⟨"SmokeRelay$Relays", "nearestOutside", "(I)I"⟩, prog_8_method_6_code, 5, some .int, [], false)
abbrev mi_48 : MI := (⟨"SmokeRelay$Relays", "costOver", "(II)I"⟩, prog_8_method_7_code, 3, some .int, [], false)
abbrev mi_49 : MI := (⟨"SmokeRelay$Smokes", "methodsAgree", "()Z"⟩, prog_11_method_9_code, 2, some .boolean, [], false)
abbrev mi_50 : MI := (⟨"SmokeRelay$Smokes", "letterByGroups", "(I)I"⟩, prog_11_method_6_code, 6, some .int, [], false)
abbrev mi_51 : MI := (⟨"SmokeRelay$Smokes", "letterBySearch", "(I)I"⟩, prog_11_method_7_code, 3, some .int, [], false)
abbrev mi_54 : MI := (⟨"SmokeRelay$Row", "copyFrom", "(LSmokeRelay$Row;)V"⟩, prog_9_method_2_code, 2, none, [], false)
abbrev mi_56 : MI := (⟨"SmokeRelay", "setGround", "(II)I"⟩, prog_1_method_2_code, 4, some .int, [], false)
abbrev mi_57 : MI := (⟨"SmokeRelay", "fitsGround", "(II)Z"⟩, prog_1_method_60_code, 2, some .boolean, [], false)
abbrev mi_58 : MI := (⟨"SmokeRelay", "isPosition", "(I)Z"⟩, prog_1_method_57_code, 1, some .boolean, [], false)
abbrev mi_59 : MI := (⟨"SmokeRelay$History", "keep", "(LSmokeRelay$Row;)V"⟩, prog_4_method_2_code, 3, none, [], false)
abbrev mi_61 : MI := (⟨"SmokeRelay", "addTower", "(III)I"⟩, prog_1_method_3_code, 4, some .int, [], false)
abbrev mi_62 : MI := (⟨"SmokeRelay", "fitsTower", "(III)Z"⟩, prog_1_method_61_code, 3, some .boolean, [], false)
abbrev mi_63 : MI := (⟨"SmokeRelay", "isMood", "(I)Z"⟩, prog_1_method_58_code, 1, some .boolean, [], false)
abbrev mi_64 : MI := (⟨"SmokeRelay", "hasRoom", "(I)Z"⟩, prog_1_method_63_code, 2, some .boolean, [], false)
abbrev mi_65 : MI := (⟨"SmokeRelay$Row", "towerStandingAt", "(I)I"⟩, prog_9_method_5_code, 3, some .int, [], false)
abbrev mi_66 : MI := (⟨"SmokeRelay$Row", "append", "(III)I"⟩, prog_9_method_3_code, 5, some .int, [], false)
abbrev mi_68 : MI := (⟨"SmokeRelay", "setMood", "(II)I"⟩, prog_1_method_4_code, 4, some .int, [], false)
abbrev mi_69 : MI := (⟨"SmokeRelay", "requireTower", "(I)V"⟩, prog_1_method_67_code, 2, none, [], false)
abbrev mi_70 : MI := (⟨"SmokeRelay", "isTower", "(I)Z"⟩, prog_1_method_62_code, 2, some .boolean, [], false)
abbrev mi_72 : MI := (⟨"SmokeRelay", "ground", "(I)I"⟩, prog_1_method_5_code, 2, some .int, [], false)
abbrev mi_73 : MI := (⟨"SmokeRelay", "requirePosition", "(I)V"⟩, prog_1_method_64_code, 1, none, [], false)
abbrev mi_75 : MI := (⟨"SmokeRelay", "positionOf", "(I)I"⟩, prog_1_method_7_code, 2, some .int, [], false)
abbrev mi_77 : MI := (⟨"SmokeRelay", "eye", "(I)I"⟩, prog_1_method_8_code, 2, some .int, [], false)
abbrev mi_79 : MI := (⟨"SmokeRelay", "mood", "(I)I"⟩, prog_1_method_9_code, 2, some .int, [], false)
abbrev mi_81 : MI := (⟨"SmokeRelay", "towerAt", "(I)I"⟩, prog_1_method_10_code, 3, some .int, [], false)
abbrev mi_83 : MI := (⟨"SmokeRelay", "towerByEye", "(I)I"⟩, prog_1_method_11_code, 3, some .int, [], false)
abbrev mi_84 : MI := (⟨"SmokeRelay$Row", "towerOfRank", "(I)I"⟩, prog_9_method_6_code, 3, some .int, [], false)
abbrev mi_85 : MI := (⟨"SmokeRelay$Row", "towersAheadOf", "(I)I"⟩, prog_9_method_7_code, 5, some .int, [], false)
abbrev mi_87 : MI := (⟨"SmokeRelay", "canSee", "(II)Z"⟩, prog_1_method_12_code, 3, some .boolean, [], false)
abbrev mi_88 : MI := (⟨"SmokeRelay", "requireTowers", "(II)V"⟩, prog_1_method_68_code, 3, none, [], false)
abbrev mi_90 : MI := (⟨"SmokeRelay", "canSeeBySlopes", "(II)Z"⟩, prog_1_method_13_code, 3, some .boolean, [], false)
abbrev mi_92 : MI := (⟨"SmokeRelay", "seesPosition", "(II)Z"⟩, prog_1_method_14_code, 3, some .boolean, [], false)
abbrev mi_94 : MI := (⟨"SmokeRelay", "seenPositions", "(I)I"⟩, prog_1_method_15_code, 2, some .int, [], false)
abbrev mi_96 : MI := (⟨"SmokeRelay", "watchersOf", "(I)I"⟩, prog_1_method_16_code, 4, some .int, [], false)
abbrev mi_98 : MI := (⟨"SmokeRelay", "setWind", "(I)I"⟩, prog_1_method_19_code, 3, some .int, [], false)
abbrev mi_99 : MI := (⟨"SmokeRelay", "isWind", "(I)Z"⟩, prog_1_method_59_code, 1, some .boolean, [], false)
abbrev mi_101 : MI := (⟨"SmokeRelay", "delay", "(II)I"⟩, prog_1_method_21_code, 3, some .int, [], false)
abbrev mi_103 : MI := (⟨"SmokeRelay", "relayDelay", "(II)I"⟩, prog_1_method_22_code, 3, some .int, [], false)
abbrev mi_104 : MI := (⟨"SmokeRelay", "requireRelay", "(II)V"⟩, prog_1_method_69_code, 3, none, [], false)
abbrev mi_105 : MI := (⟨"SmokeRelay$Relays", "find", "(II)Z"⟩, prog_8_method_4_code, 4, some .boolean, [], false)
abbrev mi_106 : MI := (⟨"SmokeRelay$Relays", "firstBestNext", "(I)I"⟩, prog_8_method_8_code, 3, some .int, [], false)
abbrev mi_108 : MI := (⟨"SmokeRelay", "relayDelayByTable", "(II)I"⟩, prog_1_method_23_code, 4, some .int, [], false)
abbrev mi_109 : MI := (⟨"SmokeRelay$Relays", "delayByTable", "(II)I"⟩, prog_8_method_10_code, 3, some .int, [], false)
abbrev mi_111 : MI := (⟨"SmokeRelay", "relayLength", "(II)I"⟩, prog_1_method_24_code, 3, some .int, [], false)
abbrev mi_113 : MI := (⟨"SmokeRelay", "relayTower", "(III)I"⟩, prog_1_method_25_code, 4, some .int, [], false)
abbrev mi_115 : MI := (⟨"SmokeRelay", "pattern", "(C)I"⟩, prog_1_method_27_code, 2, some .int, [], false)
abbrev mi_116 : MI := (⟨"SmokeRelay", "requireLetter", "(C)V"⟩, prog_1_method_65_code, 1, none, [], false)
abbrev mi_117 : MI := (⟨"SmokeRelay$Smokes", "patternOf", "(C)I"⟩, prog_11_method_4_code, 2, some .int, [], false)
abbrev mi_119 : MI := (⟨"SmokeRelay", "read", "(I)C"⟩, prog_1_method_28_code, 3, some .char, [], false)
abbrev mi_120 : MI := (⟨"SmokeRelay", "requirePattern", "(I)V"⟩, prog_1_method_66_code, 1, none, [], false)
abbrev mi_122 : MI := (⟨"SmokeRelay", "readBySearch", "(I)C"⟩, prog_1_method_29_code, 3, some .char, [], false)
abbrev mi_124 : MI := (⟨"SmokeRelay", "wrongSmokes", "(I)I"⟩, prog_1_method_30_code, 2, some .int, [], false)
abbrev mi_125 : MI := (⟨"SmokeRelay$Smokes", "distanceToNearest", "(I)I"⟩, prog_11_method_8_code, 4, some .int, [], false)
abbrev mi_127 : MI := (⟨"SmokeRelay", "nextPattern", "(IC)I"⟩, prog_1_method_31_code, 3, some .int, [], false)
abbrev mi_128 : MI := (⟨"SmokeRelay", "signalOf", "(IC)I"⟩, prog_1_method_70_code, 3, some .int, [], false)
abbrev mi_129 : MI := (⟨"SmokeRelay$Smokes", "changedBy", "(II)I"⟩, prog_11_method_5_code, 3, some .int, [], false)
abbrev mi_131 : MI := (⟨"SmokeRelay", "send", "(IIC)I"⟩, prog_1_method_32_code, 4, some .int, [], false)
abbrev mi_132 : MI := (⟨"SmokeRelay", "trySend", "(IIC)Z"⟩, prog_1_method_72_code, 5, some .boolean, [], false)
abbrev mi_133 : MI := (⟨"SmokeRelay", "keepRefusal", "(II)V"⟩, prog_1_method_73_code, 3, none, [], false)
abbrev mi_134 : MI := (⟨"SmokeRelay", "firstGarbledReader", "(C)I"⟩, prog_1_method_71_code, 4, some .int, [], false)
abbrev mi_135 : MI := (⟨"SmokeRelay", "passOn", "(C)V"⟩, prog_1_method_74_code, 3, none, [], false)
abbrev mi_136 : MI := (⟨"SmokeRelay$Row", "addToLog", "(IC)V"⟩, prog_9_method_9_code, 5, none, [], false)
abbrev mi_138 : MI := (⟨"SmokeRelay", "wouldBeRefused", "(IIC)Z"⟩, prog_1_method_33_code, 4, some .boolean, [], false)
abbrev mi_140 : MI := (⟨"SmokeRelay", "count", "(I)I"⟩, prog_1_method_34_code, 2, some .int, [], false)
abbrev mi_142 : MI := (⟨"SmokeRelay", "logLength", "(I)I"⟩, prog_1_method_35_code, 2, some .int, [], false)
abbrev mi_144 : MI := (⟨"SmokeRelay", "logLetter", "(II)C"⟩, prog_1_method_36_code, 3, some .char, [], false)
abbrev mi_145 : MI := (⟨"SmokeRelay$Row", "loggedLetter", "(II)C"⟩, prog_9_method_8_code, 3, some .char, [], false)
abbrev mi_147 : MI := (⟨"SmokeRelay", "sent", "(C)I"⟩, prog_1_method_37_code, 2, some .int, [], false)
abbrev mi_153 : MI := (⟨"SmokeRelay", "meanEye", "()D"⟩, prog_1_method_42_code, 3, some .double, [], false)
abbrev mi_155 : MI := (⟨"SmokeRelay", "calmFraction", "()F"⟩, prog_1_method_43_code, 3, some .float, [], false)
abbrev mi_157 : MI := (⟨"SmokeRelay", "writeTower", "(I)I"⟩, prog_1_method_44_code, 3, some .int, [], false)
abbrev mi_158 : MI := (⟨"SmokeRelay$Output", "clear", "()V"⟩, prog_7_method_2_code, 1, none, [], false)
abbrev mi_159 : MI := (⟨"SmokeRelay$Output", "addNumber", "(I)V"⟩, prog_7_method_4_code, 2, none, [], false)
abbrev mi_160 : MI := (⟨"SmokeRelay$Output", "add", "(C)V"⟩, prog_7_method_3_code, 2, none, [], false)
abbrev mi_162 : MI := (⟨"SmokeRelay", "writeRelay", "(II)I"⟩, prog_1_method_45_code, 4, some .int, [], false)
abbrev mi_164 : MI := (⟨"SmokeRelay", "writePattern", "(I)I"⟩, prog_1_method_46_code, 3, some .int, [], false)
abbrev mi_166 : MI := (⟨"SmokeRelay", "outputCharacter", "(I)C"⟩, prog_1_method_47_code, 2, some .char, [], false)
abbrev mi_168 : MI := (⟨"SmokeRelay", "feed", "(C)I"⟩, prog_1_method_49_code, 2, some .int, [], false)
abbrev mi_169 : MI := (⟨"SmokeRelay$Input", "add", "(C)Z"⟩, prog_5_method_2_code, 2, some .boolean, [], false)
abbrev mi_171 : MI := (⟨"SmokeRelay", "execute", "()I"⟩, prog_1_method_50_code, 3, some .int, [], false)
abbrev mi_172 : MI := (⟨"SmokeRelay$Input", "parse", "()Z"⟩, prog_5_method_6_code, 1, some .boolean, [], false)
abbrev mi_173 : MI := (⟨"SmokeRelay$Input", "takeCommand", "()Z"⟩, prog_5_method_7_code, 3, some .boolean, [], false)
abbrev mi_174 : MI := (⟨"SmokeRelay$Input", "kindHere", "()LSmokeRelay$Kind;"⟩, prog_5_method_8_code, 5, some (.object "SmokeRelay$Kind"), [], false)
abbrev mi_175 : MI := (⟨"java/lang/String", "charAt", "(I)C"⟩, prog_31_method_56_code, 2, some .char, [], false)
abbrev mi_176 : MI := (⟨"java/lang/String", "isLatin1", "()Z"⟩, prog_31_method_154_code, 1, some .boolean, [], false)
abbrev mi_177 : MI := (⟨"java/lang/StringLatin1", "charAt", "([BI)C"⟩, prog_33_method_2_code, 2, some .char, [], false)
abbrev mi_178 : MI := (⟨"java/lang/String", "checkIndex", "(II)V"⟩, prog_31_method_155_code, 2, none, [], false)
abbrev mi_179 : MI := (⟨"jdk/internal/util/Preconditions", "checkIndex", "(IILjava/util/function/BiFunction;)I"⟩, prog_43_method_11_code, 3, some .int, [], false)
abbrev mi_180 : MI := (⟨"SmokeRelay$Input", "isHere", "(C)Z"⟩, prog_5_method_10_code, 2, some .boolean, [], false)
abbrev mi_181 : MI := (⟨"java/lang/String", "length", "()I"⟩, prog_31_method_54_code, 1, some .int, [], false)
abbrev mi_182 : MI := (⟨"java/lang/String", "coder", "()B"⟩, prog_31_method_152_code, 1, some .byte, [], false)
abbrev mi_183 : MI := (⟨"SmokeRelay$Input", "takePart", "(C)Z"⟩, prog_5_method_9_code, 2, some .boolean, [], false)
abbrev mi_184 : MI := (⟨"SmokeRelay$Input", "takeNumber", "()Z"⟩, prog_5_method_14_code, 2, some .boolean, [], false)
abbrev mi_185 : MI := (⟨"SmokeRelay$Input", "isBetween", "(CC)Z"⟩, prog_5_method_11_code, 3, some .boolean, [], false)
abbrev mi_186 : MI := (⟨"SmokeRelay$Input", "addValue", "(I)Z"⟩, prog_5_method_16_code, 3, some .boolean, [], false)
abbrev mi_187 : MI := (⟨"SmokeRelay$Input", "takeDigit", "(I)Z"⟩, prog_5_method_13_code, 2, some .boolean, [], false)
abbrev mi_188 : MI := (⟨"SmokeRelay$Input", "take", "(C)Z"⟩, prog_5_method_12_code, 2, some .boolean, [], false)
abbrev mi_189 : MI := (⟨"SmokeRelay$Input", "takeLetter", "()Z"⟩, prog_5_method_15_code, 1, some .boolean, [], false)
abbrev mi_190 : MI := (⟨"SmokeRelay$Input", "clear", "()V"⟩, prog_5_method_3_code, 1, none, [], false)
abbrev mi_191 : MI := (⟨"SmokeRelay", "tryCommand", "(I)Z"⟩, prog_1_method_75_code, 6, some .boolean, [], false)
abbrev mi_192 : MI := (⟨"SmokeRelay$Input", "kindOf", "(I)LSmokeRelay$Kind;"⟩, prog_5_method_4_code, 2, some (.object "SmokeRelay$Kind"), [], false)
abbrev mi_193 : MI := (⟨"SmokeRelay$Input", "valueOf", "(II)I"⟩, prog_5_method_5_code, 4, some .int, [], false)
abbrev mi_194 : MI := (⟨"java/lang/Enum", "ordinal", "()I"⟩, prog_22_method_2_code, 1, some .int, [], false)
abbrev mi_195 : MI := (⟨"SmokeRelay", "tryGround", "(II)Z"⟩, prog_1_method_76_code, 3, some .boolean, [], false)
abbrev mi_196 : MI := (⟨"SmokeRelay", "tryTower", "(III)Z"⟩, prog_1_method_77_code, 4, some .boolean, [], false)
abbrev mi_197 : MI := (⟨"SmokeRelay", "tryMood", "(II)Z"⟩, prog_1_method_78_code, 3, some .boolean, [], false)
abbrev mi_203 : MI := (⟨"SmokeRelay", "undo", "()I"⟩, prog_1_method_53_code, 1, some .int, [], false)
abbrev mi_204 : MI := (⟨"SmokeRelay$History", "takeBack", "(LSmokeRelay$Row;)Z"⟩, prog_4_method_3_code, 4, some .boolean, [], false)
abbrev mi_308 : MI := (⟨"SmokeRelayLaw", "drawn", "([I)LSmokeRelay;"⟩, method_46_code, 8, some (.object "SmokeRelay"), [], false)
abbrev mi_309 : MI := (⟨"SmokeRelayLaw", "cell", "([II)I"⟩, method_2_code, 2, some .int, [], false)
abbrev mi_310 : MI := (⟨"SmokeRelayLaw", "setGround", "(LSmokeRelay;II)I"⟩, method_3_code, 4, some .int, [(0, 6, 7, 14)], true)
abbrev mi_311 : MI := (⟨"SmokeRelayLaw", "addTower", "(LSmokeRelay;III)I"⟩, method_4_code, 5, some .int, [(0, 7, 8, 14), (0, 7, 12, 20)], true)
abbrev mi_312 : MI := (⟨"SmokeRelayLaw", "setWind", "(LSmokeRelay;I)I"⟩, method_17_code, 3, some .int, [(0, 8, 9, 14)], true)
abbrev mi_313 : MI := (⟨"SmokeRelayLaw", "send", "(LSmokeRelay;IIC)I"⟩, method_28_code, 5, some .int, [(0, 7, 8, 25), (0, 7, 12, 14), (0, 7, 17, 104)], true)
abbrev mi_314 : MI := (⟨"SmokeRelayLaw", "sights", "(LSmokeRelay;)Z"⟩, method_52_code, 9, some .boolean, [], false)
abbrev mi_315 : MI := (⟨"SmokeRelayLaw", "positionOf", "(LSmokeRelay;I)I"⟩, method_7_code, 3, some .int, [(0, 5, 6, 25)], true)
abbrev mi_316 : MI := (⟨"SmokeRelayLaw", "eye", "(LSmokeRelay;I)I"⟩, method_8_code, 3, some .int, [(0, 5, 6, 25)], true)
abbrev mi_317 : MI := (⟨"SmokeRelayLaw", "ground", "(LSmokeRelay;I)I"⟩, method_6_code, 3, some .int, [(0, 5, 6, 14)], true)
abbrev mi_318 : MI := (⟨"SmokeRelayLaw", "isClearBoth", "(LSmokeRelay;IIII)Z"⟩, method_51_code, 5, some .boolean, [], false)
abbrev mi_319 : MI := (⟨"SmokeRelayLaw", "isClear", "(LSmokeRelay;IIII)Z"⟩, method_50_code, 7, some .boolean, [], false)
abbrev mi_320 : MI := (⟨"SmokeRelayLaw", "seesPosition", "(LSmokeRelay;II)I"⟩, method_14_code, 4, some .int, [(0, 14, 15, 25), (0, 14, 19, 14)], true)
abbrev mi_321 : MI := (⟨"SmokeRelayLaw", "canSee", "(LSmokeRelay;II)I"⟩, method_12_code, 4, some .int, [(0, 14, 15, 25)], true)
abbrev mi_322 : MI := (⟨"SmokeRelayLaw", "bySlopes", "(LSmokeRelay;II)I"⟩, method_13_code, 4, some .int, [(0, 14, 15, 25)], true)
abbrev mi_323 : MI := (⟨"SmokeRelayLaw", "byEye", "(LSmokeRelay;I)I"⟩, method_11_code, 3, some .int, [(0, 5, 6, 43)], true)
abbrev mi_324 : MI := (⟨"SmokeRelayLaw", "seenPositions", "(LSmokeRelay;I)I"⟩, method_15_code, 3, some .int, [(0, 5, 6, 25)], true)
abbrev mi_325 : MI := (⟨"SmokeRelayLaw", "towerAt", "(LSmokeRelay;I)I"⟩, method_10_code, 3, some .int, [(0, 5, 6, 14), (0, 5, 10, 43)], true)
abbrev mi_326 : MI := (⟨"SmokeRelayLaw", "mood", "(LSmokeRelay;I)I"⟩, method_9_code, 3, some .int, [(0, 5, 6, 25)], true)
abbrev mi_327 : MI := (⟨"SmokeRelayLaw", "watchersOf", "(LSmokeRelay;I)I"⟩, method_16_code, 3, some .int, [(0, 5, 6, 14)], true)
abbrev mi_328 : MI := (⟨"SmokeRelayLaw", "relays", "(LSmokeRelay;)Z"⟩, method_54_code, 11, some .boolean, [], false)
abbrev mi_329 : MI := (⟨"SmokeRelayLaw", "bestRelay", "(LSmokeRelay;III)I"⟩, method_53_code, 9, some .int, [], false)
abbrev mi_330 : MI := (⟨"SmokeRelayLaw", "delay", "(LSmokeRelay;II)I"⟩, method_18_code, 4, some .int, [(0, 6, 7, 25), (0, 6, 11, 43)], true)
abbrev mi_331 : MI := (⟨"SmokeRelayLaw", "relayDelay", "(LSmokeRelay;II)I"⟩, method_19_code, 4, some .int, [(0, 6, 7, 25), (0, 6, 11, 43)], true)
abbrev mi_332 : MI := (⟨"SmokeRelayLaw", "relayLength", "(LSmokeRelay;II)I"⟩, method_21_code, 4, some .int, [(0, 6, 7, 25), (0, 6, 11, 43)], true)
abbrev mi_333 : MI := (⟨"SmokeRelayLaw", "byTable", "(LSmokeRelay;II)I"⟩, method_20_code, 4, some .int, [(0, 6, 7, 25), (0, 6, 11, 43)], true)
abbrev mi_334 : MI := (⟨"SmokeRelayLaw", "isRelay", "(LSmokeRelay;IIII)Z"⟩, method_55_code, 13, some .boolean, [], false)
abbrev mi_335 : MI := (⟨"SmokeRelayLaw", "relayTower", "(LSmokeRelay;III)I"⟩, method_22_code, 5, some .int, [(0, 7, 8, 25), (0, 7, 13, 43)], true)
abbrev mi_336 : MI := (⟨"SmokeRelayLaw", "patterns", "(LSmokeRelay;)Z"⟩, method_56_code, 6, some .boolean, [], false)
abbrev mi_337 : MI := (⟨"SmokeRelayLaw", "made", "(I)I"⟩, method_48_code, 2, some .int, [], false)
abbrev mi_338 : MI := (⟨"SmokeRelayLaw", "odd", "(I)I"⟩, method_47_code, 1, some .int, [], false)
abbrev mi_339 : MI := (⟨"SmokeRelayLaw", "read", "(LSmokeRelay;I)I"⟩, method_24_code, 3, some .int, [(0, 5, 6, 14), (0, 5, 10, 43)], true)
abbrev mi_340 : MI := (⟨"SmokeRelayLaw", "bySearch", "(LSmokeRelay;I)I"⟩, method_25_code, 3, some .int, [(0, 5, 6, 14), (0, 5, 10, 43)], true)
abbrev mi_341 : MI := (⟨"SmokeRelayLaw", "wrongSmokes", "(LSmokeRelay;I)I"⟩, method_26_code, 3, some .int, [(0, 5, 6, 14)], true)
abbrev mi_342 : MI := (⟨"SmokeRelayLaw", "pattern", "(LSmokeRelay;C)I"⟩, method_23_code, 3, some .int, [(0, 5, 6, 14)], true)
abbrev mi_343 : MI := (⟨"SmokeRelayLaw", "count", "(LSmokeRelay;I)I"⟩, method_30_code, 3, some .int, [(0, 5, 6, 25)], true)
abbrev mi_344 : MI := (⟨"SmokeRelayLaw", "nextPattern", "(LSmokeRelay;IC)I"⟩, method_27_code, 4, some .int, [(0, 6, 7, 25), (0, 6, 11, 14)], true)
abbrev mi_345 : MI := (⟨"SmokeRelayLaw", "logLength", "(LSmokeRelay;I)I"⟩, method_31_code, 3, some .int, [(0, 5, 6, 25)], true)
abbrev mi_346 : MI := (⟨"SmokeRelayLaw", "logLetter", "(LSmokeRelay;II)I"⟩, method_32_code, 4, some .int, [(0, 6, 7, 25), (0, 6, 11, 43)], true)
abbrev mi_347 : MI := (⟨"SmokeRelayLaw", "wouldBeRefused", "(LSmokeRelay;IIC)I"⟩, method_29_code, 5, some .int, [(0, 15, 16, 25), (0, 15, 21, 14)], true)
abbrev mi_348 : MI := (⟨"SmokeRelayLaw", "codes", "(LSmokeRelay;)Z"⟩, method_57_code, 11, some .boolean, [], false)
abbrev mi_349 : MI := (⟨"SmokeRelayLaw", "sent", "(LSmokeRelay;C)I"⟩, method_33_code, 3, some .int, [(0, 5, 6, 14)], true)
abbrev mi_350 : MI := (⟨"SmokeRelayLaw", "texts", "(LSmokeRelay;)Z"⟩, method_59_code, 11, some .boolean, [], false)
abbrev mi_351 : MI := (⟨"java/lang/StringBuilder", "<init>", "()V"⟩, prog_32_method_1_code, 1, none, [], false)
abbrev mi_352 : MI := (⟨"java/lang/AbstractStringBuilder", "<init>", "(I)V"⟩, prog_15_method_2_code, 2, none, [], false)
abbrev mi_353 : MI := (⟨"java/lang/StringBuilder", "append", "(C)Ljava/lang/StringBuilder;"⟩, prog_32_method_14_code, 2, some (.object "java/lang/StringBuilder"), [], false)
abbrev mi_354 : MI := (⟨"java/lang/AbstractStringBuilder", "append", "(C)Ljava/lang/AbstractStringBuilder;"⟩, prog_15_method_31_code, 2, some (.object "java/lang/AbstractStringBuilder"), [], false)
abbrev mi_355 : MI := (⟨"java/lang/AbstractStringBuilder", "ensureCapacityInternal", "(I)V"⟩, prog_15_method_9_code, 3, none, [], false)
abbrev mi_356 : MI := (⟨"java/lang/AbstractStringBuilder", "newCapacity", "(I)I"⟩, prog_15_method_10_code, 6, some .int, [], false)
abbrev mi_357 : MI := (⟨"jdk/internal/util/ArraysSupport", "newLength", "(III)I"⟩, prog_42_method_27_code, 4, some .int, [], false)
abbrev mi_358 : MI := (⟨"jdk/internal/util/ArraysSupport", "hugeLength", "(II)I"⟩, prog_42_method_28_code, 3, some .int, [], false)
abbrev mi_359 : MI := (⟨"java/util/Arrays", "copyOf", "([BI)[B"⟩, prog_40_method_121_code, 3, some (.array .byte), [], false)
abbrev mi_360 : MI := (⟨"java/lang/AbstractStringBuilder", "isLatin1", "()Z"⟩, prog_15_method_68_code, 1, some .boolean, [], false)
abbrev mi_361 : MI := (⟨"java/lang/StringLatin1", "canEncode", "(C)Z"⟩, prog_33_method_3_code, 1, some .boolean, [], false)
abbrev mi_362 : MI := (⟨"java/lang/AbstractStringBuilder", "inflate", "()V"⟩, prog_15_method_11_code, 2, none, [], false)
abbrev mi_363 : MI := (⟨"java/lang/StringLatin1", "inflate", "([BI[BII)V"⟩, prog_33_method_50_code, 5, none, [], false)
abbrev mi_364 : MI := (⟨"java/lang/String", "checkBoundsOffCount", "(III)I"⟩, prog_31_method_157_code, 3, some .int, [], false)
abbrev mi_365 : MI := (⟨"jdk/internal/util/Preconditions", "checkFromIndexSize", "(IIILjava/util/function/BiFunction;)I"⟩, prog_43_method_13_code, 4, some .int, [], false)
abbrev mi_366 : MI := (⟨"java/lang/StringBuilder", "append", "(Ljava/lang/String;)Ljava/lang/StringBuilder;"⟩, prog_32_method_7_code, 2, some (.object "java/lang/StringBuilder"), [], false)
abbrev mi_367 : MI := (⟨"java/lang/AbstractStringBuilder", "append", "(Ljava/lang/String;)Ljava/lang/AbstractStringBuilder;"⟩, prog_15_method_22_code, 3, some (.object "java/lang/AbstractStringBuilder"), [], false)
abbrev mi_368 : MI := (⟨"java/lang/AbstractStringBuilder", "appendNull", "()Ljava/lang/AbstractStringBuilder;"⟩, prog_15_method_26_code, 3, some (.object "java/lang/AbstractStringBuilder"), [], false)
abbrev mi_369 : MI := (⟨"java/lang/String", "checkBoundsBeginEnd", "(III)V"⟩, prog_31_method_158_code, 3, none, [], false)
abbrev mi_370 : MI := (⟨"jdk/internal/util/Preconditions", "checkFromToIndex", "(IIILjava/util/function/BiFunction;)I"⟩, prog_43_method_12_code, 4, some .int, [], false)
abbrev mi_371 : MI := (⟨"java/lang/AbstractStringBuilder", "putStringAt", "(ILjava/lang/String;)V"⟩, prog_15_method_73_code, 3, none, [], false)
abbrev mi_372 : MI := (⟨"java/lang/AbstractStringBuilder", "inflateIfNeededFor", "(Ljava/lang/String;)V"⟩, prog_15_method_71_code, 2, none, [], false)
abbrev mi_373 : MI := (⟨"java/lang/String", "getBytes", "([BIB)V"⟩, prog_31_method_147_code, 4, none, [], false)
abbrev mi_374 : MI := (⟨"java/lang/StringBuilder", "toString", "()Ljava/lang/String;"⟩, prog_32_method_42_code, 1, some (.object "java/lang/String"), [], false)
abbrev mi_375 : MI := (⟨"java/lang/String", "<init>", "(Ljava/lang/StringBuilder;)V"⟩, prog_31_method_53_code, 2, none, [], false)
abbrev mi_376 : MI := (⟨"java/lang/String", "<init>", "(Ljava/lang/AbstractStringBuilder;Ljava/lang/Void;)V"⟩, prog_31_method_150_code, 5, none, [], false)
abbrev mi_377 : MI := (⟨"java/lang/AbstractStringBuilder", "getValue", "()[B"⟩, prog_15_method_64_code, 1, some (.array .byte), [], false)
abbrev mi_378 : MI := (⟨"java/lang/StringBuilder", "length", "()I"⟩, prog_32_method_93_code, 1, some .int, [], false)
abbrev mi_379 : MI := (⟨"java/lang/AbstractStringBuilder", "length", "()I"⟩, prog_15_method_6_code, 1, some .int, [], false)
abbrev mi_380 : MI := (⟨"java/util/Arrays", "copyOfRange", "([BII)[B"⟩, prog_40_method_132_code, 3, some (.array .byte), [], false)
abbrev mi_381 : MI := (⟨"java/util/Arrays", "copyOfRangeByte", "([BII)[B"⟩, prog_40_method_133_code, 5, some (.array .byte), [], false)
abbrev mi_382 : MI := (⟨"java/util/Arrays", "checkLength", "(II)V"⟩, prog_40_method_131_code, 2, none, [], false)
abbrev mi_383 : MI := (⟨"java/lang/StringBuilder", "append", "(I)Ljava/lang/StringBuilder;"⟩, prog_32_method_15_code, 2, some (.object "java/lang/StringBuilder"), [], false)
abbrev mi_384 : MI := (⟨"java/lang/AbstractStringBuilder", "append", "(I)Ljava/lang/AbstractStringBuilder;"⟩, prog_15_method_32_code, 4, some (.object "java/lang/AbstractStringBuilder"), [], false)
abbrev mi_385 : MI := (⟨"java/lang/Integer", "stringSize", "(I)I"⟩, prog_27_method_13_code, 4, some .int, [], false)
abbrev mi_386 : MI := (⟨"java/lang/Integer", "getChars", "(II[B)I"⟩, prog_27_method_12_code, 7, some .int, [], false)
abbrev mi_387 : MI := (⟨"SmokeRelayLaw", "writeTower", "(LSmokeRelay;I)I"⟩, method_36_code, 3, some .int, [(0, 5, 6, 25)], true)
abbrev mi_388 : MI := (⟨"SmokeRelayLaw", "spells", "(LSmokeRelay;ILjava/lang/String;)Z"⟩, method_58_code, 5, some .boolean, [], false)
abbrev mi_389 : MI := (⟨"SmokeRelayLaw", "outputAt", "(LSmokeRelay;I)I"⟩, method_39_code, 3, some .int, [(0, 5, 6, 25)], true)
abbrev mi_390 : MI := (⟨"SmokeRelayLaw", "writeRelay", "(LSmokeRelay;II)I"⟩, method_37_code, 4, some .int, [(0, 6, 7, 25), (0, 6, 11, 43)], true)
abbrev mi_391 : MI := (⟨"SmokeRelayLaw", "writePattern", "(LSmokeRelay;I)I"⟩, method_38_code, 3, some .int, [(0, 5, 6, 14)], true)
abbrev mi_392 : MI := (⟨"SmokeRelayLaw", "undone", "([ILSmokeRelay;)Z"⟩, method_61_code, 8, some .boolean, [], false)
abbrev mi_393 : MI := (⟨"SmokeRelayLaw", "sum", "(LSmokeRelay;)J"⟩, method_60_code, 5, some .long, [], false)
abbrev mi_394 : MI := (⟨"SmokeRelayLaw", "setMood", "(LSmokeRelay;II)I"⟩, method_5_code, 4, some .int, [(0, 6, 7, 25), (0, 6, 10, 14)], true)
abbrev mi_395 : MI := (⟨"SmokeRelayLaw", "execute", "(LSmokeRelay;Ljava/lang/String;)I"⟩, method_45_code, 3, some .int, [], false)
abbrev mi_396 : MI := (⟨"SmokeRelayLaw", "feed", "(LSmokeRelay;C)I"⟩, method_40_code, 3, some .int, [(0, 5, 6, 20)], true)
abbrev mi_397 : MI := (⟨"SmokeRelayLaw", "executes", "(LSmokeRelay;)I"⟩, method_41_code, 2, some .int, [(0, 4, 5, 14), (0, 4, 8, 104)], true)
abbrev mi_398 : MI := (⟨"SmokeRelayLaw", "undo", "(LSmokeRelay;)I"⟩, method_44_code, 2, some .int, [(0, 4, 5, 20)], true)
abbrev mi_399 : MI := (⟨"SmokeRelayLaw", "law", "([I)Z"⟩, code, 2, some .boolean, [], false)
def am_mi (y : Nat) : MI := cond (Nat.ble y 166) (cond (Nat.ble y 65) (cond (Nat.ble y 30) (cond (Nat.ble y 15) (cond (Nat.ble y 7) (cond (Nat.ble y 3) (cond (Nat.ble y 1) (cond (Nat.ble y 0) (mi_0) (mi_1)) (cond (Nat.ble y 2) (mi_2) (mi_3))) (cond (Nat.ble y 5) (cond (Nat.ble y 4) (mi_4) (mi_5)) (cond (Nat.ble y 6) (mi_6) (mi_7)))) (cond (Nat.ble y 11) (cond (Nat.ble y 9) (cond (Nat.ble y 8) (mi_8) (mi_9)) (cond (Nat.ble y 10) (mi_10) (mi_11))) (cond (Nat.ble y 13) (cond (Nat.ble y 12) (mi_12) (mi_13)) (cond (Nat.ble y 14) (mi_14) (mi_15))))) (cond (Nat.ble y 23) (cond (Nat.ble y 19) (cond (Nat.ble y 17) (cond (Nat.ble y 16) (mi_16) (mi_17)) (cond (Nat.ble y 18) (mi_18) (mi_19))) (cond (Nat.ble y 21) (cond (Nat.ble y 20) (mi_20) (mi_21)) (cond (Nat.ble y 22) (mi_22) (mi_23)))) (cond (Nat.ble y 27) (cond (Nat.ble y 25) (cond (Nat.ble y 24) (mi_24) (mi_25)) (cond (Nat.ble y 26) (mi_26) (mi_27))) (cond (Nat.ble y 29) (cond (Nat.ble y 28) (mi_28) (mi_29)) (mi_30))))) (cond (Nat.ble y 46) (cond (Nat.ble y 38) (cond (Nat.ble y 34) (cond (Nat.ble y 32) (cond (Nat.ble y 31) (mi_31) (mi_32)) (cond (Nat.ble y 33) (mi_33) (mi_34))) (cond (Nat.ble y 36) (cond (Nat.ble y 35) (mi_35) (mi_36)) (cond (Nat.ble y 37) (mi_37) (mi_38)))) (cond (Nat.ble y 42) (cond (Nat.ble y 40) (cond (Nat.ble y 39) (mi_39) (mi_40)) (cond (Nat.ble y 41) (mi_41) (mi_42))) (cond (Nat.ble y 44) (cond (Nat.ble y 43) (mi_43) (mi_44)) (cond (Nat.ble y 45) (mi_45) (mi_46))))) (cond (Nat.ble y 57) (cond (Nat.ble y 50) (cond (Nat.ble y 48) (cond (Nat.ble y 47) (mi_47) (mi_48)) (cond (Nat.ble y 49) (mi_49) (mi_50))) (cond (Nat.ble y 54) (cond (Nat.ble y 51) (mi_51) (mi_54)) (cond (Nat.ble y 56) (mi_56) (mi_57)))) (cond (Nat.ble y 62) (cond (Nat.ble y 59) (cond (Nat.ble y 58) (mi_58) (mi_59)) (cond (Nat.ble y 61) (mi_61) (mi_62))) (cond (Nat.ble y 64) (cond (Nat.ble y 63) (mi_63) (mi_64)) (mi_65)))))) (cond (Nat.ble y 115) (cond (Nat.ble y 90) (cond (Nat.ble y 77) (cond (Nat.ble y 70) (cond (Nat.ble y 68) (cond (Nat.ble y 66) (mi_66) (mi_68)) (cond (Nat.ble y 69) (mi_69) (mi_70))) (cond (Nat.ble y 73) (cond (Nat.ble y 72) (mi_72) (mi_73)) (cond (Nat.ble y 75) (mi_75) (mi_77)))) (cond (Nat.ble y 84) (cond (Nat.ble y 81) (cond (Nat.ble y 79) (mi_79) (mi_81)) (cond (Nat.ble y 83) (mi_83) (mi_84))) (cond (Nat.ble y 87) (cond (Nat.ble y 85) (mi_85) (mi_87)) (cond (Nat.ble y 88) (mi_88) (mi_90))))) (cond (Nat.ble y 104) (cond (Nat.ble y 98) (cond (Nat.ble y 94) (cond (Nat.ble y 92) (mi_92) (mi_94)) (cond (Nat.ble y 96) (mi_96) (mi_98))) (cond (Nat.ble y 101) (cond (Nat.ble y 99) (mi_99) (mi_101)) (cond (Nat.ble y 103) (mi_103) (mi_104)))) (cond (Nat.ble y 109) (cond (Nat.ble y 106) (cond (Nat.ble y 105) (mi_105) (mi_106)) (cond (Nat.ble y 108) (mi_108) (mi_109))) (cond (Nat.ble y 113) (cond (Nat.ble y 111) (mi_111) (mi_113)) (mi_115))))) (cond (Nat.ble y 136) (cond (Nat.ble y 127) (cond (Nat.ble y 120) (cond (Nat.ble y 117) (cond (Nat.ble y 116) (mi_116) (mi_117)) (cond (Nat.ble y 119) (mi_119) (mi_120))) (cond (Nat.ble y 124) (cond (Nat.ble y 122) (mi_122) (mi_124)) (cond (Nat.ble y 125) (mi_125) (mi_127)))) (cond (Nat.ble y 132) (cond (Nat.ble y 129) (cond (Nat.ble y 128) (mi_128) (mi_129)) (cond (Nat.ble y 131) (mi_131) (mi_132))) (cond (Nat.ble y 134) (cond (Nat.ble y 133) (mi_133) (mi_134)) (cond (Nat.ble y 135) (mi_135) (mi_136))))) (cond (Nat.ble y 155) (cond (Nat.ble y 144) (cond (Nat.ble y 140) (cond (Nat.ble y 138) (mi_138) (mi_140)) (cond (Nat.ble y 142) (mi_142) (mi_144))) (cond (Nat.ble y 147) (cond (Nat.ble y 145) (mi_145) (mi_147)) (cond (Nat.ble y 153) (mi_153) (mi_155)))) (cond (Nat.ble y 160) (cond (Nat.ble y 158) (cond (Nat.ble y 157) (mi_157) (mi_158)) (cond (Nat.ble y 159) (mi_159) (mi_160))) (cond (Nat.ble y 164) (cond (Nat.ble y 162) (mi_162) (mi_164)) (mi_166))))))) (cond (Nat.ble y 338) (cond (Nat.ble y 204) (cond (Nat.ble y 184) (cond (Nat.ble y 176) (cond (Nat.ble y 172) (cond (Nat.ble y 169) (cond (Nat.ble y 168) (mi_168) (mi_169)) (cond (Nat.ble y 171) (mi_171) (mi_172))) (cond (Nat.ble y 174) (cond (Nat.ble y 173) (mi_173) (mi_174)) (cond (Nat.ble y 175) (mi_175) (mi_176)))) (cond (Nat.ble y 180) (cond (Nat.ble y 178) (cond (Nat.ble y 177) (mi_177) (mi_178)) (cond (Nat.ble y 179) (mi_179) (mi_180))) (cond (Nat.ble y 182) (cond (Nat.ble y 181) (mi_181) (mi_182)) (cond (Nat.ble y 183) (mi_183) (mi_184))))) (cond (Nat.ble y 192) (cond (Nat.ble y 188) (cond (Nat.ble y 186) (cond (Nat.ble y 185) (mi_185) (mi_186)) (cond (Nat.ble y 187) (mi_187) (mi_188))) (cond (Nat.ble y 190) (cond (Nat.ble y 189) (mi_189) (mi_190)) (cond (Nat.ble y 191) (mi_191) (mi_192)))) (cond (Nat.ble y 196) (cond (Nat.ble y 194) (cond (Nat.ble y 193) (mi_193) (mi_194)) (cond (Nat.ble y 195) (mi_195) (mi_196))) (cond (Nat.ble y 203) (cond (Nat.ble y 197) (mi_197) (mi_203)) (mi_204))))) (cond (Nat.ble y 323) (cond (Nat.ble y 315) (cond (Nat.ble y 311) (cond (Nat.ble y 309) (cond (Nat.ble y 308) (mi_308) (mi_309)) (cond (Nat.ble y 310) (mi_310) (mi_311))) (cond (Nat.ble y 313) (cond (Nat.ble y 312) (mi_312) (mi_313)) (cond (Nat.ble y 314) (mi_314) (mi_315)))) (cond (Nat.ble y 319) (cond (Nat.ble y 317) (cond (Nat.ble y 316) (mi_316) (mi_317)) (cond (Nat.ble y 318) (mi_318) (mi_319))) (cond (Nat.ble y 321) (cond (Nat.ble y 320) (mi_320) (mi_321)) (cond (Nat.ble y 322) (mi_322) (mi_323))))) (cond (Nat.ble y 331) (cond (Nat.ble y 327) (cond (Nat.ble y 325) (cond (Nat.ble y 324) (mi_324) (mi_325)) (cond (Nat.ble y 326) (mi_326) (mi_327))) (cond (Nat.ble y 329) (cond (Nat.ble y 328) (mi_328) (mi_329)) (cond (Nat.ble y 330) (mi_330) (mi_331)))) (cond (Nat.ble y 335) (cond (Nat.ble y 333) (cond (Nat.ble y 332) (mi_332) (mi_333)) (cond (Nat.ble y 334) (mi_334) (mi_335))) (cond (Nat.ble y 337) (cond (Nat.ble y 336) (mi_336) (mi_337)) (mi_338)))))) (cond (Nat.ble y 369) (cond (Nat.ble y 354) (cond (Nat.ble y 346) (cond (Nat.ble y 342) (cond (Nat.ble y 340) (cond (Nat.ble y 339) (mi_339) (mi_340)) (cond (Nat.ble y 341) (mi_341) (mi_342))) (cond (Nat.ble y 344) (cond (Nat.ble y 343) (mi_343) (mi_344)) (cond (Nat.ble y 345) (mi_345) (mi_346)))) (cond (Nat.ble y 350) (cond (Nat.ble y 348) (cond (Nat.ble y 347) (mi_347) (mi_348)) (cond (Nat.ble y 349) (mi_349) (mi_350))) (cond (Nat.ble y 352) (cond (Nat.ble y 351) (mi_351) (mi_352)) (cond (Nat.ble y 353) (mi_353) (mi_354))))) (cond (Nat.ble y 362) (cond (Nat.ble y 358) (cond (Nat.ble y 356) (cond (Nat.ble y 355) (mi_355) (mi_356)) (cond (Nat.ble y 357) (mi_357) (mi_358))) (cond (Nat.ble y 360) (cond (Nat.ble y 359) (mi_359) (mi_360)) (cond (Nat.ble y 361) (mi_361) (mi_362)))) (cond (Nat.ble y 366) (cond (Nat.ble y 364) (cond (Nat.ble y 363) (mi_363) (mi_364)) (cond (Nat.ble y 365) (mi_365) (mi_366))) (cond (Nat.ble y 368) (cond (Nat.ble y 367) (mi_367) (mi_368)) (mi_369))))) (cond (Nat.ble y 384) (cond (Nat.ble y 377) (cond (Nat.ble y 373) (cond (Nat.ble y 371) (cond (Nat.ble y 370) (mi_370) (mi_371)) (cond (Nat.ble y 372) (mi_372) (mi_373))) (cond (Nat.ble y 375) (cond (Nat.ble y 374) (mi_374) (mi_375)) (cond (Nat.ble y 376) (mi_376) (mi_377)))) (cond (Nat.ble y 381) (cond (Nat.ble y 379) (cond (Nat.ble y 378) (mi_378) (mi_379)) (cond (Nat.ble y 380) (mi_380) (mi_381))) (cond (Nat.ble y 383) (cond (Nat.ble y 382) (mi_382) (mi_383)) (mi_384)))) (cond (Nat.ble y 392) (cond (Nat.ble y 388) (cond (Nat.ble y 386) (cond (Nat.ble y 385) (mi_385) (mi_386)) (cond (Nat.ble y 387) (mi_387) (mi_388))) (cond (Nat.ble y 390) (cond (Nat.ble y 389) (mi_389) (mi_390)) (cond (Nat.ble y 391) (mi_391) (mi_392)))) (cond (Nat.ble y 396) (cond (Nat.ble y 394) (cond (Nat.ble y 393) (mi_393) (mi_394)) (cond (Nat.ble y 395) (mi_395) (mi_396))) (cond (Nat.ble y 398) (cond (Nat.ble y 397) (mi_397) (mi_398)) (mi_399)))))))
abbrev am_law : Nat := 399
/-- the places of two words of a method -/
def am_w2 (y j : Nat) : Bool := cond (Nat.beq y 348) (Nat.beq j 4 || Nat.beq j 9) (cond (Nat.beq y 393) (Nat.beq j 1) false)
def am_dbl (y : Nat) : Bool := Nat.beq y 348 || Nat.beq y 393
theorem am_dbl_no {y : Nat} (h : am_dbl y = false) (j : Nat) : am_w2 y j = false := by
  unfold am_dbl at h
  rw [Bool.or_eq_false_iff] at h
  unfold am_w2
  rw [h.1, h.2]
  rfl
def am_okw (w : Nat → Bool) (i : Nat) : Bool := match i with
  | 0 => true
  | i + 1 => !(w i)
abbrev am_ok2 (y i : Nat) : Bool := am_okw (am_w2 y) i
def am_T0 : u_T := fun k => match k with
  | 0 => ("SmokeRelay", "row", "LSmokeRelay$Row;", true)
  | 1 => ("SmokeRelay", "before", "LSmokeRelay$Row;", true)
  | 2 => ("SmokeRelay", "saved", "LSmokeRelay$Row;", true)
  | 3 => ("SmokeRelay", "history", "LSmokeRelay$History;", true)
  | 4 => ("SmokeRelay", "sight", "LSmokeRelay$Sight;", true)
  | 5 => ("SmokeRelay", "relays", "LSmokeRelay$Relays;", true)
  | 6 => ("SmokeRelay", "smokes", "LSmokeRelay$Smokes;", true)
  | 7 => ("SmokeRelay", "codes", "LSmokeRelay$Codes;", true)
  | 8 => ("SmokeRelay", "input", "LSmokeRelay$Input;", true)
  | 9 => ("SmokeRelay", "output", "LSmokeRelay$Output;", true)
  | 10 => ("SmokeRelay", "isSaved", "Z", false)
  | 11 => ("SmokeRelay", "keptReason", "I", false)
  | 12 => ("SmokeRelay", "keptDetail", "I", false)
  | 13 => ("SmokeRelay", "keptErrorPosition", "I", false)
  | _ => ("SmokeRelay", "keptFailedCommand", "I", false)
def am_ft0 : Nat → FieldType := fun k => match k with
  | 0 => (.object "SmokeRelay$Row")
  | 1 => (.object "SmokeRelay$Row")
  | 2 => (.object "SmokeRelay$Row")
  | 3 => (.object "SmokeRelay$History")
  | 4 => (.object "SmokeRelay$Sight")
  | 5 => (.object "SmokeRelay$Relays")
  | 6 => (.object "SmokeRelay$Smokes")
  | 7 => (.object "SmokeRelay$Codes")
  | 8 => (.object "SmokeRelay$Input")
  | 9 => (.object "SmokeRelay$Output")
  | 10 => .boolean
  | 11 => .int
  | 12 => .int
  | 13 => .int
  | _ => .int
def am_T1 : u_T := fun k => match k with
  | 0 => ("SmokeRelay$Row", "ground", "[I", true)
  | 1 => ("SmokeRelay$Row", "positions", "[I", true)
  | 2 => ("SmokeRelay$Row", "heights", "[I", true)
  | 3 => ("SmokeRelay$Row", "moods", "[I", true)
  | 4 => ("SmokeRelay$Row", "counts", "[I", true)
  | 5 => ("SmokeRelay$Row", "logLengths", "[I", true)
  | 6 => ("SmokeRelay$Row", "logs", "[I", true)
  | 7 => ("SmokeRelay$Row", "sendings", "[I", true)
  | 8 => ("SmokeRelay$Row", "towers", "I", false)
  | _ => ("SmokeRelay$Row", "wind", "I", false)
def am_ft1 : Nat → FieldType := fun k => match k with
  | 0 => (.array .int)
  | 1 => (.array .int)
  | 2 => (.array .int)
  | 3 => (.array .int)
  | 4 => (.array .int)
  | 5 => (.array .int)
  | 6 => (.array .int)
  | 7 => (.array .int)
  | 8 => .int
  | _ => .int
def am_T2 : u_T := fun k => match k with
  | 0 => ("SmokeRelay$History", "rows", "[LSmokeRelay$Row;", true)
  | 1 => ("SmokeRelay$History", "next", "I", false)
  | _ => ("SmokeRelay$History", "size", "I", false)
def am_ft2 : Nat → FieldType := fun k => match k with
  | 0 => (.array (.object "SmokeRelay$Row"))
  | 1 => .int
  | _ => .int
def am_T3 : u_T := fun k => match k with
  | 0 => ("SmokeRelay$Sight", "row", "LSmokeRelay$Row;", true)
  | _ => ("SmokeRelay$Sight", "seen", "[I", true)
def am_ft3 : Nat → FieldType := fun k => match k with
  | 0 => (.object "SmokeRelay$Row")
  | _ => (.array .int)
def am_T4 : u_T := fun k => match k with
  | 0 => ("SmokeRelay$Relays", "row", "LSmokeRelay$Row;", true)
  | 1 => ("SmokeRelay$Relays", "sight", "LSmokeRelay$Sight;", true)
  | 2 => ("SmokeRelay$Relays", "steps", "[[I", true)
  | 3 => ("SmokeRelay$Relays", "table", "[[I", true)
  | 4 => ("SmokeRelay$Relays", "costs", "[I", true)
  | 5 => ("SmokeRelay$Relays", "relay", "[I", true)
  | 6 => ("SmokeRelay$Relays", "length", "I", false)
  | _ => ("SmokeRelay$Relays", "delay", "I", false)
def am_ft4 : Nat → FieldType := fun k => match k with
  | 0 => (.object "SmokeRelay$Row")
  | 1 => (.object "SmokeRelay$Sight")
  | 2 => (.array (.array .int))
  | 3 => (.array (.array .int))
  | 4 => (.array .int)
  | 5 => (.array .int)
  | 6 => .int
  | _ => .int
def am_T5 : u_T := fun k => match k with
  | _ => ("SmokeRelay$Smokes", "patterns", "[I", true)
def am_ft5 : Nat → FieldType := fun k => match k with
  | _ => (.array .int)
def am_T6 : u_T := fun k => match k with
  | 0 => ("SmokeRelay$Codes", "row", "LSmokeRelay$Row;", true)
  | 1 => ("SmokeRelay$Codes", "groups", "[I", true)
  | 2 => ("SmokeRelay$Codes", "joined", "[I", true)
  | 3 => ("SmokeRelay$Codes", "letters", "I", false)
  | 4 => ("SmokeRelay$Codes", "nextLetter", "I", false)
  | 5 => ("SmokeRelay$Codes", "nextJoined", "I", false)
  | _ => ("SmokeRelay$Codes", "lastJoined", "I", false)
def am_ft6 : Nat → FieldType := fun k => match k with
  | 0 => (.object "SmokeRelay$Row")
  | 1 => (.array .int)
  | 2 => (.array .int)
  | 3 => .int
  | 4 => .int
  | 5 => .int
  | _ => .int
def am_T7 : u_T := fun k => match k with
  | 0 => ("SmokeRelay$Input", "text", "[C", true)
  | 1 => ("SmokeRelay$Input", "kinds", "[LSmokeRelay$Kind;", true)
  | 2 => ("SmokeRelay$Input", "values", "[I", true)
  | 3 => ("SmokeRelay$Input", "valuesTaken", "I", false)
  | 4 => ("SmokeRelay$Input", "length", "I", false)
  | 5 => ("SmokeRelay$Input", "place", "I", false)
  | _ => ("SmokeRelay$Input", "commands", "I", false)
def am_ft7 : Nat → FieldType := fun k => match k with
  | 0 => (.array .char)
  | 1 => (.array (.object "SmokeRelay$Kind"))
  | 2 => (.array .int)
  | 3 => .int
  | 4 => .int
  | 5 => .int
  | _ => .int
def am_T8 : u_T := fun k => match k with
  | 0 => ("SmokeRelay$Output", "text", "[C", true)
  | _ => ("SmokeRelay$Output", "length", "I", false)
def am_ft8 : Nat → FieldType := fun k => match k with
  | 0 => (.array .char)
  | _ => .int
def am_T9 : u_T := fun k => match k with
  | 0 => ("java/lang/AbstractStringBuilder", "value", "[B", false)
  | 1 => ("java/lang/AbstractStringBuilder", "coder", "B", false)
  | 2 => ("java/lang/AbstractStringBuilder", "maybeLatin1", "Z", false)
  | _ => ("java/lang/AbstractStringBuilder", "count", "I", false)
def am_ft9 : Nat → FieldType := fun k => match k with
  | 0 => (.array .byte)
  | 1 => .byte
  | 2 => .boolean
  | _ => .int
def am_T10 : u_T := fun k => match k with
  | 0 => ("java/lang/String", "value", "[B", true)
  | 1 => ("java/lang/String", "coder", "B", true)
  | 2 => ("java/lang/String", "hash", "I", false)
  | _ => ("java/lang/String", "hashIsZero", "Z", false)
def am_ft10 : Nat → FieldType := fun k => match k with
  | 0 => (.array .byte)
  | 1 => .byte
  | 2 => .int
  | _ => .boolean
def am_cl : List vw_C := [("SmokeRelay", am_T0, 15), ("SmokeRelay$Row", am_T1, 10), ("SmokeRelay$History", am_T2, 3), ("SmokeRelay$Sight", am_T3, 2), ("SmokeRelay$Relays", am_T4, 8), ("SmokeRelay$Smokes", am_T5, 1), ("SmokeRelay$Codes", am_T6, 7), ("SmokeRelay$Input", am_T7, 7), ("SmokeRelay$Output", am_T8, 2), ("java/lang/StringBuilder", am_T9, 4), ("java/lang/String", am_T10, 4)]
def am_ty (t : Nat) : FieldType := match t with
  | 0 => .int
  | 1 => .char
  | 2 => .long
  | 3 => .byte
  | 4 => .object "SmokeRelay$Row"
  | 5 => .array .int
  | 7 => .byte
  | _ => .object "SmokeRelay$Kind"
def am_exn (x : Nat) : String := match x with
  | 0 => "java/lang/IllegalArgumentException"
  | 1 => "java/lang/IllegalStateException"
  | 2 => "java/lang/IndexOutOfBoundsException"
  | 3 => "java/util/NoSuchElementException"
  | 4 => "java/lang/UnsupportedOperationException"
  | _ => "java/lang/ArithmeticException"
def am_alL : List (Nat × Nat) := [(1, 0), (2, 0), (3, 0), (4, 0), (5, 0), (6, 0), (7, 0), (8, 0), (9, 0), (10, 0), (2, 1), (3, 1), (4, 1), (5, 1), (6, 1), (7, 1), (8, 1), (9, 1), (10, 1), (2, 2), (3, 2), (4, 2), (5, 2), (6, 2), (7, 2), (8, 2), (9, 2), (10, 2), (11, 0), (12, 0), (2, 3), (3, 3), (4, 3), (5, 3), (6, 3), (7, 3), (8, 3), (9, 3), (10, 3), (2, 4), (3, 4), (4, 4), (5, 4), (6, 4), (7, 4), (8, 4), (9, 4), (10, 4), (2, 5), (3, 5), (4, 5), (5, 5), (6, 5), (7, 5), (8, 5), (9, 5), (10, 5), (2, 6), (3, 6), (4, 6), (5, 6), (6, 6), (7, 6), (8, 6), (9, 6), (10, 6), (2, 7), (3, 7), (4, 7), (5, 7), (6, 7), (7, 7), (8, 7), (9, 7), (10, 7), (2, 8), (3, 8), (4, 8), (5, 8), (6, 8), (7, 8), (8, 8), (9, 8), (10, 8), (2, 9), (3, 9), (4, 9), (5, 9), (6, 9), (7, 9), (8, 9), (9, 9), (10, 9), (2, 10), (3, 10), (4, 10), (5, 10), (6, 10), (7, 10), (8, 10), (9, 10), (10, 10), (13, 0), (14, 0), (15, 0), (16, 0), (17, 0), (17, 1), (17, 2), (17, 3), (17, 4), (17, 5), (17, 6), (17, 7), (18, 0), (19, 0), (19, 1), (19, 2), (19, 3), (19, 4), (19, 5), (19, 6), (19, 7), (20, 0), (21, 0), (22, 0), (23, 0), (24, 0), (25, 0), (26, 0), (27, 0), (28, 0), (29, 0), (30, 0), (31, 0), (32, 0)]
abbrev am_n0 : Nat := 136
def am_al (n : Nat) : Nat × Nat := cond (Nat.ble 136 n) (46, n) (am_alL.getD n (46, n))
def am_ix (a b : Nat) : Nat := cond (Nat.beq a 46) b (am_alL.findIdx (fun q => Nat.beq q.1 a && Nat.beq q.2 b))
theorem am_ix_al (n : Nat) : am_ix (am_al n).1 (am_al n).2 = n := by
  by_cases h : 136 ≤ n
  · have e : am_al n = (46, n) := by unfold am_al; rw [show Nat.ble 136 n = true from Nat.ble_eq.mpr h]; rfl
    rw [e]; rfl
  · have key : ∀ j, j < 136 → am_ix (am_al j).1 (am_al j).2 = j := by decide +kernel
    exact key n (by omega)
/-- the pre-made objects: 0 the script, 1 the switch map, 2 the kinds, 3 to 7 the kinds' constants, 8 to 24 strings, then their bytes -/
def am_PS (L : Nat) (xs : Nat → Int32) (b : Nat) : SC := match b with
  | 0 => some (Sum.inl (9, L, fun j => aI (xs j)))
  | 1 => some (Sum.inl (9, 5, fun j => aI (nI (cond (Nat.beq j 4) 0 (j + 1)))))
  | 2 => some (Sum.inl (8, 5, fun j => aR 0 (3 + j)))
  | 3 => some (Sum.inr (90, [aI 0, aR 0 8]))
  | 4 => some (Sum.inr (90, [aI 1, aR 0 9]))
  | 5 => some (Sum.inr (90, [aI 2, aR 0 10]))
  | 6 => some (Sum.inr (90, [aI 3, aR 0 11]))
  | 7 => some (Sum.inr (90, [aI 4, aR 0 12]))
  | 8 => some (Sum.inr (91, [aR 0 25, aI 0]))
  | 9 => some (Sum.inr (91, [aR 0 26, aI 0]))
  | 10 => some (Sum.inr (91, [aR 0 27, aI 0]))
  | 11 => some (Sum.inr (91, [aR 0 28, aI 0]))
  | 12 => some (Sum.inr (91, [aR 0 29, aI 0]))
  | 13 => some (Sum.inr (91, [aR 0 30, aI 0]))
  | 14 => some (Sum.inr (91, [aR 0 31, aI 0]))
  | 15 => some (Sum.inr (91, [aR 0 32, aI 0]))
  | 16 => some (Sum.inr (91, [aR 0 33, aI 0]))
  | 17 => some (Sum.inr (91, [aR 0 34, aI 0]))
  | 18 => some (Sum.inr (91, [aR 0 35, aI 0]))
  | 19 => some (Sum.inr (91, [aR 0 36, aI 0]))
  | 20 => some (Sum.inr (91, [aR 0 37, aI 0]))
  | 21 => some (Sum.inr (91, [aR 0 38, aI 0]))
  | 22 => some (Sum.inr (91, [aR 0 39, aI 0]))
  | 23 => some (Sum.inr (91, [aR 0 40, aI 0]))
  | 24 => some (Sum.inr (91, [aR 0 41, aI 0]))
  | 25 => some (Sum.inl (10, 10, fun j => aI ([103, 114, 111, 117, 110, 100, 32, 78, 42, 68].getD j 0)))
  | 26 => some (Sum.inl (10, 11, fun j => aI ([116, 111, 119, 101, 114, 32, 78, 43, 68, 33, 68].getD j 0)))
  | 27 => some (Sum.inl (10, 8, fun j => aI ([109, 111, 111, 100, 32, 68, 33, 68].getD j 0)))
  | 28 => some (Sum.inl (10, 6, fun j => aI ([119, 105, 110, 100, 32, 87].getD j 0)))
  | 29 => some (Sum.inl (10, 10, fun j => aI ([115, 101, 110, 100, 32, 68, 62, 68, 58, 76].getD j 0)))
  | 30 => some (Sum.inl (10, 0, fun j => aI ([].getD j 0)))
  | 31 => some (Sum.inl (10, 1, fun j => aI ([43].getD j 0)))
  | 32 => some (Sum.inl (10, 1, fun j => aI ([33].getD j 0)))
  | 33 => some (Sum.inl (10, 1, fun j => aI ([58].getD j 0)))
  | 34 => some (Sum.inl (10, 1, fun j => aI ([48].getD j 0)))
  | 35 => some (Sum.inl (10, 1, fun j => aI ([62].getD j 0)))
  | 36 => some (Sum.inl (10, 1, fun j => aI ([61].getD j 0)))
  | 37 => some (Sum.inl (10, 8, fun j => aI ([42, 46, 42, 46, 42, 46, 46, 42].getD j 0)))
  | 38 => some (Sum.inl (10, 6, fun j => aI ([119, 105, 110, 100, 32, 45].getD j 0)))
  | 39 => some (Sum.inl (10, 8, fun j => aI ([59, 103, 114, 111, 117, 110, 100, 32].getD j 0)))
  | 40 => some (Sum.inl (10, 1, fun j => aI ([42].getD j 0)))
  | 41 => some (Sum.inl (10, 6, fun j => aI ([59, 115, 101, 110, 100, 32].getD j 0)))
  | 42 => some (Sum.inl (10, 100, fun j => aI (nI (48 + j % 10))))
  | 43 => some (Sum.inl (10, 100, fun j => aI (nI (48 + j / 10))))
  | _ => none
def am_wF (c f : Nat) : String × String × String := match c, f with
  | 90, 0 => ("java/lang/Enum", "ordinal", "I")
  | 90, _ => ("SmokeRelay$Kind", "form", "Ljava/lang/String;")
  | _, 0 => ("java/lang/String", "value", "[B")
  | _, _ => ("java/lang/String", "coder", "B")
def am_wC (c : Nat) : String := match c with
  | 90 => "SmokeRelay$Kind"
  | _ => "java/lang/String"
def am_wT (t : Nat) : FieldType := match t with
  | 9 => .int
  | 8 => .object "SmokeRelay$Kind"
  | _ => .byte
def am_st (j : Nat) : String × String × String × AV := match j with
  | 0 => ("SmokeRelay$Input", "KINDS", "[LSmokeRelay$Kind;", aR 0 2)
  | 1 => ("SmokeRelay$1", "$SwitchMap$SmokeRelay$Kind", "[I", aR 0 1)
  | 2 => ("java/lang/String", "COMPACT_STRINGS", "Z", aI 1)
  | 3 => ("java/lang/Integer", "DigitOnes", "[B", aR 0 42)
  | 4 => ("java/lang/Integer", "DigitTens", "[B", aR 0 43)
  | _ => ("jdk/internal/util/Preconditions", "SIOOBE_FORMATTER", "Ljava/util/function/BiFunction;", aZ)
def am_str : List (String × Nat × String × Nat) := [("SmokeRelayLaw", 335, "", 13), ("SmokeRelayLaw", 354, "+", 14), ("SmokeRelayLaw", 356, "!", 15), ("SmokeRelayLaw", 358, ":", 16), ("SmokeRelayLaw", 366, "0", 17), ("SmokeRelayLaw", 368, ">", 18), ("SmokeRelayLaw", 372, "=", 19), ("SmokeRelayLaw", 384, "*.*.*..*", 20), ("SmokeRelayLaw", 406, "wind -", 21), ("SmokeRelayLaw", 408, ";ground ", 22), ("SmokeRelayLaw", 410, "*", 23), ("SmokeRelayLaw", 412, ";send ", 24)]
def am_txt : List (String × Nat × String) := [("SmokeRelay", 98, "no such position or height"), ("SmokeRelay", 114, "no such position, height or mood"), ("SmokeRelay", 122, "no room for a tower"), ("SmokeRelay", 136, "no such mood"), ("SmokeRelay", 159, "no tower stands there"), ("SmokeRelay", 165, "no such rank"), ("SmokeRelay", 198, "no such wind"), ("SmokeRelay", 203, "they do not see each other"), ("SmokeRelay", 218, "there is no relay"), ("SmokeRelay", 223, "no such place in the relay"), ("SmokeRelay", 245, "the pattern cannot be read"), ("SmokeRelay", 266, "the sending is refused"), ("SmokeRelay", 281, "no such letter in the log"), ("SmokeRelay", 300, "there are no towers"), ("SmokeRelay", 318, "no such character"), ("SmokeRelay", 334, "the input buffer is full"), ("SmokeRelay", 344, "the text is malformed"), ("SmokeRelay", 352, "a command fails"), ("SmokeRelay", 362, "no change can be undone"), ("SmokeRelay", 373, "no such position"), ("SmokeRelay", 375, "no such letter"), ("SmokeRelay", 377, "no such pattern"), ("SmokeRelay", 382, "no such tower")]
def am_WA : List Cond := lw_tbl.filter goodWord
theorem am_inWA {w : Cond} (h : w ∈ lw_tbl) (g : goodWord w = true) : w ∈ am_WA := List.mem_filter.mpr ⟨h, g⟩
theorem am_goodWA : GoodIn am_WA am_WA := fun w h => ⟨h, good_of_word (List.mem_filter.mp h).2⟩
def am_cw (q : MI) : Cond := cond q.2.2.2.2.2 (.codeWith q.1 q.2.1 q.2.2.1 q.2.2.2.1 q.2.2.2.2.1) (.code q.1 q.2.1 q.2.2.1 q.2.2.2.1)
