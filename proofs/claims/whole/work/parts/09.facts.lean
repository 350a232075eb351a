/-! what the sites rest on -/
abbrev ac_r0 : ac_R := (yX0_init, cX0_init, 1, .none)
theorem mk_0 : ac_M 0 = some ac_r0 := rfl
abbrev ac_r1 : ac_R := (yX0_isClause, cX0_isClause, 2, (.some .boolean))
theorem mk_1 : ac_M 1 = some ac_r1 := rfl
abbrev ac_r2 : ac_R := (yX0_clauses, cX0_clauses, 1, (.some .int))
theorem mk_2 : ac_M 2 = some ac_r2 := rfl
abbrev ac_r3 : ac_R := (yX0_addClause, cX0_addClause, 3, (.some .int))
theorem mk_3 : ac_M 3 = some ac_r3 := rfl
abbrev ac_r4 : ac_R := (yX0_part, cX0_part, 4, (.some .boolean))
theorem mk_4 : ac_M 4 = some ac_r4 := rfl
abbrev ac_r5 : ac_R := (yX0_bestSet, cX0_bestSet, 6, (.some .int))
theorem mk_5 : ac_M 5 = some ac_r5 := rfl
abbrev ac_r6 : ac_R := (yX0_isBetter, cX0_isBetter, 4, (.some .boolean))
theorem mk_6 : ac_M 6 = some ac_r6 := rfl
abbrev ac_r7 : ac_R := (yX0_goesTogether, cX0_goesTogether, 3, (.some .boolean))
theorem mk_7 : ac_M 7 = some ac_r7 := rfl
abbrev ac_r8 : ac_R := (yX0_worth, cX0_worth, 5, (.some .int))
theorem mk_8 : ac_M 8 = some ac_r8 := rfl
abbrev ac_r9 : ac_R := (yX1_init, cX1_init, 1, .none)
theorem mk_9 : ac_M 9 = some ac_r9 := rfl
abbrev ac_r10 : ac_R := (yX1_meetings, cX1_meetings, 1, (.some .int))
theorem mk_10 : ac_M 10 = some ac_r10 := rfl
abbrev ac_r11 : ac_R := (yX1_addMeeting, cX1_addMeeting, 6, (.some .int))
theorem mk_11 : ac_M 11 = some ac_r11 := rfl
abbrev ac_r12 : ac_R := (yX1_tellTaker, cX1_tellTaker, 4, (.some .int))
theorem mk_12 : ac_M 12 = some ac_r12 := rfl
abbrev ac_r13 : ac_R := (yX1_swornFrom, cX1_swornFrom, 6, (.some .int))
theorem mk_13 : ac_M 13 = some ac_r13 := rfl
abbrev ac_r14 : ac_R := (yX1_fewestFirst, cX1_fewestFirst, 6, (.some .int))
theorem mk_14 : ac_M 14 = some ac_r14 := rfl
abbrev ac_r15 : ac_R := (yX1_takersReachedFrom, cX1_takersReachedFrom, 5, (.some .int))
theorem mk_15 : ac_M 15 = some ac_r15 := rfl
abbrev ac_r16 : ac_R := (yX1_takersReachedBySet, cX1_takersReachedBySet, 5, (.some .int))
theorem mk_16 : ac_M 16 = some ac_r16 := rfl
abbrev ac_r17 : ac_R := (yX2_init, cX2_init, 2, .none)
theorem mk_17 : ac_M 17 = some ac_r17 := rfl
abbrev ac_r18 : ac_R := (yX2_isRaid, cX2_isRaid, 2, (.some .boolean))
theorem mk_18 : ac_M 18 = some ac_r18 := rfl
abbrev ac_r19 : ac_R := (yX2_all, cX2_all, 1, (.some .int))
theorem mk_19 : ac_M 19 = some ac_r19 := rfl
abbrev ac_r20 : ac_R := (yX2_add, cX2_add, 4, (.some .int))
theorem mk_20 : ac_M 20 = some ac_r20 := rfl
abbrev ac_r21 : ac_R := (yX2_villageOf, cX2_villageOf, 2, (.some .int))
theorem mk_21 : ac_M 21 = some ac_r21 := rfl
abbrev ac_r22 : ac_R := (yX2_nightOf, cX2_nightOf, 2, (.some .int))
theorem mk_22 : ac_M 22 = some ac_r22 := rfl
abbrev ac_r23 : ac_R := (yX2_hourOf, cX2_hourOf, 2, (.some .int))
theorem mk_23 : ac_M 23 = some ac_r23 := rfl
abbrev ac_r24 : ac_R := (yX3_init, cX3_init, 1, .none)
theorem mk_24 : ac_M 24 = some ac_r24 := rfl
abbrev ac_r25 : ac_R := (yX3_bytes, cX3_bytes, 1, (.some .int))
theorem mk_25 : ac_M 25 = some ac_r25 := rfl
abbrev ac_r26 : ac_R := (yX3_put, cX3_put, 3, .none)
theorem mk_26 : ac_M 26 = some ac_r26 := rfl
abbrev ac_r27 : ac_R := (yX3_append, cX3_append, 5, (.some .int))
theorem mk_27 : ac_M 27 = some ac_r27 := rfl
abbrev ac_r28 : ac_R := (yX3_readInto, cX3_readInto, 2, (.some .int))
theorem mk_28 : ac_M 28 = some ac_r28 := rfl
abbrev ac_r29 : ac_R := (yX3_cutIntoTokens, cX3_cutIntoTokens, 5, .none)
theorem mk_29 : ac_M 29 = some ac_r29 := rfl
abbrev ac_r30 : ac_R := (yX3_stretchEnd, cX3_stretchEnd, 5, (.some .int))
theorem mk_30 : ac_M 30 = some ac_r30 := rfl
abbrev ac_r31 : ac_R := (yX3_sortOf, cX3_sortOf, 1, (.some .int))
theorem mk_31 : ac_M 31 = some ac_r31 := rfl
abbrev ac_r32 : ac_R := (yX3_tokenOf, cX3_tokenOf, 3, (.some .int))
theorem mk_32 : ac_M 32 = some ac_r32 := rfl
abbrev ac_r33 : ac_R := (yX3_numberOf, cX3_numberOf, 5, (.some .int))
theorem mk_33 : ac_M 33 = some ac_r33 := rfl
abbrev ac_r34 : ac_R := (yX3_wordOf, cX3_wordOf, 4, (.some .int))
theorem mk_34 : ac_M 34 = some ac_r34 := rfl
abbrev ac_r35 : ac_R := (yX3_stands, cX3_stands, 5, (.some .boolean))
theorem mk_35 : ac_M 35 = some ac_r35 := rfl
abbrev ac_r36 : ac_R := (yX3_lettersOf, cX3_lettersOf, 1, (.some (.object "java/lang/String")))
theorem mk_36 : ac_M 36 = some ac_r36 := rfl
abbrev ac_r37 : ac_R := (yX3_token, cX3_token, 1, (.some .int))
theorem mk_37 : ac_M 37 = some ac_r37 := rfl
abbrev ac_r38 : ac_R := (yX3_fail, cX3_fail, 1, .none)
theorem mk_38 : ac_M 38 = some ac_r38 := rfl
abbrev ac_r39 : ac_R := (yX3_expect, cX3_expect, 2, .none)
theorem mk_39 : ac_M 39 = some ac_r39 := rfl
abbrev ac_r40 : ac_R := (yX3_readOr, cX3_readOr, 3, .none)
theorem mk_40 : ac_M 40 = some ac_r40 := rfl
abbrev ac_r41 : ac_R := (yX3_readAnd, cX3_readAnd, 3, .none)
theorem mk_41 : ac_M 41 = some ac_r41 := rfl
abbrev ac_r42 : ac_R := (yX3_readNot, cX3_readNot, 3, .none)
theorem mk_42 : ac_M 42 = some ac_r42 := rfl
abbrev ac_r43 : ac_R := (yX3_readSum, cX3_readSum, 4, .none)
theorem mk_43 : ac_M 43 = some ac_r43 := rfl
abbrev ac_r44 : ac_R := (yX3_readTerm, cX3_readTerm, 3, .none)
theorem mk_44 : ac_M 44 = some ac_r44 := rfl
abbrev ac_r45 : ac_R := (yX3_readOne, cX3_readOne, 3, .none)
theorem mk_45 : ac_M 45 = some ac_r45 := rfl
abbrev ac_r46 : ac_R := (yX3_mayOpen, cX3_mayOpen, 2, (.some .boolean))
theorem mk_46 : ac_M 46 = some ac_r46 := rfl
abbrev ac_r47 : ac_R := (yX4_init, cX4_init, 2, .none)
theorem mk_47 : ac_M 47 = some ac_r47 := rfl
abbrev ac_r48 : ac_R := (yX4_isVillage, cX4_isVillage, 1, (.some .boolean))
theorem mk_48 : ac_M 48 = some ac_r48 := rfl
abbrev ac_r49 : ac_R := (yX4_canTake, cX4_canTake, 1, (.some .boolean))
theorem mk_49 : ac_M 49 = some ac_r49 := rfl
abbrev ac_r50 : ac_R := (yX4_lay, cX4_lay, 5, (.some .int))
theorem mk_50 : ac_M 50 = some ac_r50 := rfl
abbrev ac_r51 : ac_R := (yX4_distance, cX4_distance, 5, (.some .int))
theorem mk_51 : ac_M 51 = some ac_r51 := rfl
abbrev ac_r52 : ac_R := (yX4_isReached, cX4_isReached, 6, (.some .boolean))
theorem mk_52 : ac_M 52 = some ac_r52 := rfl
abbrev ac_r53 : ac_R := (yX4_isReachedFromOne, cX4_isReachedFromOne, 6, (.some .boolean))
theorem mk_53 : ac_M 53 = some ac_r53 := rfl
abbrev ac_r54 : ac_R := (yX4_measure, cX4_measure, 6, .none)
theorem mk_54 : ac_M 54 = some ac_r54 := rfl
abbrev ac_r55 : ac_R := (yX5_init, cX5_init, 1, .none)
theorem mk_55 : ac_M 55 = some ac_r55 := rfl
abbrev ac_r56 : ac_R := (yX5_isSheet, cX5_isSheet, 1, (.some .boolean))
theorem mk_56 : ac_M 56 = some ac_r56 := rfl
abbrev ac_r57 : ac_R := (yX5_isSort, cX5_isSort, 1, (.some .boolean))
theorem mk_57 : ac_M 57 = some ac_r57 := rfl
abbrev ac_r58 : ac_R := (yX5_isMissing, cX5_isMissing, 2, (.some .boolean))
theorem mk_58 : ac_M 58 = some ac_r58 := rfl
abbrev ac_r59 : ac_R := (yX5_sortOf, cX5_sortOf, 2, (.some .int))
theorem mk_59 : ac_M 59 = some ac_r59 := rfl
abbrev ac_r60 : ac_R := (yX5_isPlace, cX5_isPlace, 3, (.some .boolean))
theorem mk_60 : ac_M 60 = some ac_r60 := rfl
abbrev ac_r61 : ac_R := (yX5_isStretch, cX5_isStretch, 4, (.some .boolean))
theorem mk_61 : ac_M 61 = some ac_r61 := rfl
abbrev ac_r62 : ac_R := (yX5_drop, cX5_drop, 2, .none)
theorem mk_62 : ac_M 62 = some ac_r62 := rfl
abbrev ac_r63 : ac_R := (yX5_lay, cX5_lay, 4, .none)
theorem mk_63 : ac_M 63 = some ac_r63 := rfl
abbrev ac_r64 : ac_R := (yX5_put, cX5_put, 4, .none)
theorem mk_64 : ac_M 64 = some ac_r64 := rfl
abbrev ac_r65 : ac_R := (yX5_itemAt, cX5_itemAt, 3, (.some .int))
theorem mk_65 : ac_M 65 = some ac_r65 := rfl
abbrev ac_r66 : ac_R := (yX5_move, cX5_move, 6, .none)
theorem mk_66 : ac_M 66 = some ac_r66 := rfl
abbrev ac_r67 : ac_R := (yX6_init, cX6_init, 1, .none)
theorem mk_67 : ac_M 67 = some ac_r67 := rfl
abbrev ac_r68 : ac_R := (yX6_clear, cX6_clear, 1, .none)
theorem mk_68 : ac_M 68 = some ac_r68 := rfl
abbrev ac_r69 : ac_R := (yX6_endPrice, cX6_endPrice, 1, .none)
theorem mk_69 : ac_M 69 = some ac_r69 := rfl
abbrev ac_r70 : ac_R := (yX6_add, cX6_add, 2, .none)
theorem mk_70 : ac_M 70 = some ac_r70 := rfl
abbrev ac_r71 : ac_R := (yX6_addName, cX6_addName, 2, .none)
theorem mk_71 : ac_M 71 = some ac_r71 := rfl
abbrev ac_r72 : ac_R := (yX6_priceBy, cX6_priceBy, 2, (.some .int))
theorem mk_72 : ac_M 72 = some ac_r72 := rfl
abbrev ac_r73 : ac_R := (yX6_holdBy, cX6_holdBy, 2, (.some .int))
theorem mk_73 : ac_M 73 = some ac_r73 := rfl
abbrev ac_r74 : ac_R := (yX6_work, cX6_work, 8, (.some .int))
theorem mk_74 : ac_M 74 = some ac_r74 := rfl
abbrev ac_r75 : ac_R := (yX6_valueOf, cX6_valueOf, 3, (.some .int))
theorem mk_75 : ac_M 75 = some ac_r75 := rfl
abbrev ac_r76 : ac_R := (yX6_ofOne, cX6_ofOne, 2, (.some .int))
theorem mk_76 : ac_M 76 = some ac_r76 := rfl
abbrev ac_r77 : ac_R := (yX6_ofTwo, cX6_ofTwo, 3, (.some .int))
theorem mk_77 : ac_M 77 = some ac_r77 := rfl
abbrev ac_r78 : ac_R := (yX6_bit, cX6_bit, 1, (.some .int))
theorem mk_78 : ac_M 78 = some ac_r78 := rfl
abbrev ac_r79 : ac_R := (yX7_init, cX7_init, 3, .none)
theorem mk_79 : ac_M 79 = some ac_r79 := rfl
abbrev ac_r80 : ac_R := (yX7_isPerson, cX7_isPerson, 2, (.some .boolean))
theorem mk_80 : ac_M 80 = some ac_r80 := rfl
abbrev ac_r81 : ac_R := (yX7_persons, cX7_persons, 1, (.some .int))
theorem mk_81 : ac_M 81 = some ac_r81 := rfl
abbrev ac_r82 : ac_R := (yX7_allSeen, cX7_allSeen, 1, (.some .int))
theorem mk_82 : ac_M 82 = some ac_r82 := rfl
abbrev ac_r83 : ac_R := (yX7_allWords, cX7_allWords, 1, (.some .int))
theorem mk_83 : ac_M 83 = some ac_r83 := rfl
abbrev ac_r84 : ac_R := (yX7_addPerson, cX7_addPerson, 2, (.some .int))
theorem mk_84 : ac_M 84 = some ac_r84 := rfl
abbrev ac_r85 : ac_R := (yX7_addSeen, cX7_addSeen, 6, (.some .int))
theorem mk_85 : ac_M 85 = some ac_r85 := rfl
abbrev ac_r86 : ac_R := (yX7_addWord, cX7_addWord, 6, (.some .int))
theorem mk_86 : ac_M 86 = some ac_r86 := rfl
abbrev ac_r87 : ac_R := (yX7_isPossible, cX7_isPossible, 9, (.some .boolean))
theorem mk_87 : ac_M 87 = some ac_r87 := rfl
abbrev ac_r88 : ac_R := (yX7_isPossibleAt, cX7_isPossibleAt, 4, (.some .boolean))
theorem mk_88 : ac_M 88 = some ac_r88 := rfl
abbrev ac_r89 : ac_R := (yX7_couldRaid, cX7_couldRaid, 5, (.some .int))
theorem mk_89 : ac_M 89 = some ac_r89 := rfl
abbrev ac_r90 : ac_R := (yX7_lies, cX7_lies, 4, (.some .int))
theorem mk_90 : ac_M 90 = some ac_r90 := rfl
abbrev ac_r91 : ac_R := (yX7_wordsOf, cX7_wordsOf, 5, (.some .int))
theorem mk_91 : ac_M 91 = some ac_r91 := rfl
abbrev ac_r92 : ac_R := (yX7_wordsOn, cX7_wordsOn, 5, (.some .int))
theorem mk_92 : ac_M 92 = some ac_r92 := rfl
abbrev ac_r93 : ac_R := (yX7_paidFor, cX7_paidFor, 4, (.some .int))
theorem mk_93 : ac_M 93 = some ac_r93 := rfl
abbrev ac_r94 : ac_R := (yX8_init, cX8_init, 1, .none)
theorem mk_94 : ac_M 94 = some ac_r94 := rfl
abbrev ac_r95 : ac_R := (yX8_isRow, cX8_isRow, 2, (.some .boolean))
theorem mk_95 : ac_M 95 = some ac_r95 := rfl
abbrev ac_r96 : ac_R := (yX8_rows, cX8_rows, 1, (.some .int))
theorem mk_96 : ac_M 96 = some ac_r96 := rfl
abbrev ac_r97 : ac_R := (yX8_addRow, cX8_addRow, 6, (.some .int))
theorem mk_97 : ac_M 97 = some ac_r97 := rfl
abbrev ac_r98 : ac_R := (yX8_doneIn, cX8_doneIn, 3, (.some .int))
theorem mk_98 : ac_M 98 = some ac_r98 := rfl
abbrev ac_r99 : ac_R := (yX8_bestPlan, cX8_bestPlan, 8, (.some .int))
theorem mk_99 : ac_M 99 = some ac_r99 := rfl
abbrev ac_r100 : ac_R := (yX8_mostBroken, cX8_mostBroken, 5, (.some .int))
theorem mk_100 : ac_M 100 = some ac_r100 := rfl
abbrev ac_r101 : ac_R := (yX8_broken, cX8_broken, 9, (.some .int))
theorem mk_101 : ac_M 101 = some ac_r101 := rfl
abbrev ac_r102 : ac_R := (yX8_weeksWithSoldiers, cX8_weeksWithSoldiers, 4, (.some .int))
theorem mk_102 : ac_M 102 = some ac_r102 := rfl
abbrev ac_r103 : ac_R := (yX9_init, cX9_init, 1, .none)
theorem mk_103 : ac_M 103 = some ac_r103 := rfl
abbrev ac_r104 : ac_R := (yX9_canPay, cX9_canPay, 1, (.some .boolean))
theorem mk_104 : ac_M 104 = some ac_r104 := rfl
abbrev ac_r105 : ac_R := (yX9_isKind, cX9_isKind, 1, (.some .boolean))
theorem mk_105 : ac_M 105 = some ac_r105 := rfl
abbrev ac_r106 : ac_R := (yX9_canBeWide, cX9_canBeWide, 1, (.some .boolean))
theorem mk_106 : ac_M 106 = some ac_r106 := rfl
abbrev ac_r107 : ac_R := (yX9_isShop, cX9_isShop, 2, (.some .boolean))
theorem mk_107 : ac_M 107 = some ac_r107 := rfl
abbrev ac_r108 : ac_R := (yX9_isFrame, cX9_isFrame, 2, (.some .boolean))
theorem mk_108 : ac_M 108 = some ac_r108 := rfl
abbrev ac_r109 : ac_R := (yX9_shops, cX9_shops, 1, (.some .int))
theorem mk_109 : ac_M 109 = some ac_r109 := rfl
abbrev ac_r110 : ac_R := (yX9_frames, cX9_frames, 1, (.some .int))
theorem mk_110 : ac_M 110 = some ac_r110 := rfl
abbrev ac_r111 : ac_R := (yX9_villageOf, cX9_villageOf, 2, (.some .int))
theorem mk_111 : ac_M 111 = some ac_r111 := rfl
abbrev ac_r112 : ac_R := (yX9_paysOf, cX9_paysOf, 2, (.some .int))
theorem mk_112 : ac_M 112 = some ac_r112 := rfl
abbrev ac_r113 : ac_R := (yX9_kindOf, cX9_kindOf, 2, (.some .int))
theorem mk_113 : ac_M 113 = some ac_r113 := rfl
abbrev ac_r114 : ac_R := (yX9_shopOf, cX9_shopOf, 2, (.some .int))
theorem mk_114 : ac_M 114 = some ac_r114 := rfl
abbrev ac_r115 : ac_R := (yX9_widthOf, cX9_widthOf, 2, (.some .int))
theorem mk_115 : ac_M 115 = some ac_r115 := rfl
abbrev ac_r116 : ac_R := (yX9_isWhole, cX9_isWhole, 2, (.some .boolean))
theorem mk_116 : ac_M 116 = some ac_r116 := rfl
abbrev ac_r117 : ac_R := (yX9_addShop, cX9_addShop, 3, (.some .int))
theorem mk_117 : ac_M 117 = some ac_r117 := rfl
abbrev ac_r118 : ac_R := (yX9_tellPays, cX9_tellPays, 4, (.some .int))
theorem mk_118 : ac_M 118 = some ac_r118 := rfl
abbrev ac_r119 : ac_R := (yX9_addFrame, cX9_addFrame, 5, (.some .int))
theorem mk_119 : ac_M 119 = some ac_r119 := rfl
abbrev ac_r120 : ac_R := (yX9_tellOf, cX9_tellOf, 3, (.some .long))
theorem mk_120 : ac_M 120 = some ac_r120 := rfl
abbrev ac_r121 : ac_R := (yX9_change, cX9_change, 4, (.some .boolean))
theorem mk_121 : ac_M 121 = some ac_r121 := rfl
abbrev ac_r122 : ac_R := (yX9_breakDown, cX9_breakDown, 3, .none)
theorem mk_122 : ac_M 122 = some ac_r122 := rfl
abbrev ac_r123 : ac_R := (yX9_framesThatAre, cX9_framesThatAre, 4, (.some .int))
theorem mk_123 : ac_M 123 = some ac_r123 := rfl
abbrev ac_r124 : ac_R := (yX9_isOfKind, cX9_isOfKind, 5, (.some .boolean))
theorem mk_124 : ac_M 124 = some ac_r124 := rfl
abbrev ac_r125 : ac_R := (yX9_rentPaid, cX9_rentPaid, 2, (.some .int))
theorem mk_125 : ac_M 125 = some ac_r125 := rfl
abbrev ac_r126 : ac_R := (yX9_makes, cX9_makes, 3, (.some .int))
theorem mk_126 : ac_M 126 = some ac_r126 := rfl
abbrev ac_r127 : ac_R := (yX9_earned, cX9_earned, 3, (.some .int))
theorem mk_127 : ac_M 127 = some ac_r127 := rfl
abbrev ac_r128 : ac_R := (yX9_earnedBy, cX9_earnedBy, 4, (.some .int))
theorem mk_128 : ac_M 128 = some ac_r128 := rfl
abbrev ac_r129 : ac_R := (yX9_struckIn, cX9_struckIn, 4, (.some .int))
theorem mk_129 : ac_M 129 = some ac_r129 := rfl
abbrev ac_r130 : ac_R := (yX9_sparedBy, cX9_sparedBy, 5, (.some .int))
theorem mk_130 : ac_M 130 = some ac_r130 := rfl
abbrev ac_r131 : ac_R := (yX9_shopsWith, cX9_shopsWith, 4, (.some .int))
theorem mk_131 : ac_M 131 = some ac_r131 := rfl
abbrev ac_r132 : ac_R := (yX9_fits, cX9_fits, 5, (.some .boolean))
theorem mk_132 : ac_M 132 = some ac_r132 := rfl
abbrev ac_r133 : ac_R := (yX9_fieldOf, cX9_fieldOf, 3, (.some .int))
theorem mk_133 : ac_M 133 = some ac_r133 := rfl
abbrev ac_r134 : ac_R := (yX9_parts, cX9_parts, 7, (.some .boolean))
theorem mk_134 : ac_M 134 = some ac_r134 := rfl
abbrev ac_r135 : ac_R := (yX9_nextShop, cX9_nextShop, 8, (.some .int))
theorem mk_135 : ac_M 135 = some ac_r135 := rfl
abbrev ac_r136 : ac_R := (yX9_wholeThatFit, cX9_wholeThatFit, 5, (.some .int))
theorem mk_136 : ac_M 136 = some ac_r136 := rfl
abbrev ac_r137 : ac_R := (yX10_init, cX10_init, 2, .none)
theorem mk_137 : ac_M 137 = some ac_r137 := rfl
abbrev ac_r138 : ac_R := (yX10_pass, cX10_pass, 2, (.some .int))
theorem mk_138 : ac_M 138 = some ac_r138 := rfl
abbrev ac_r139 : ac_R := (yX10_road, cX10_road, 4, (.some .int))
theorem mk_139 : ac_M 139 = some ac_r139 := rfl
abbrev ac_r140 : ac_R := (yX10_far, cX10_far, 4, (.some .int))
theorem mk_140 : ac_M 140 = some ac_r140 := rfl
abbrev ac_r141 : ac_R := (yX10_shop, cX10_shop, 3, (.some .int))
theorem mk_141 : ac_M 141 = some ac_r141 := rfl
abbrev ac_r142 : ac_R := (yX10_pays, cX10_pays, 3, (.some .int))
theorem mk_142 : ac_M 142 = some ac_r142 := rfl
abbrev ac_r143 : ac_R := (yX10_frame, cX10_frame, 5, (.some .int))
theorem mk_143 : ac_M 143 = some ac_r143 := rfl
abbrev ac_r144 : ac_R := (yX10_frameTold, cX10_frameTold, 3, (.some .long))
theorem mk_144 : ac_M 144 = some ac_r144 := rfl
abbrev ac_r145 : ac_R := (yX10_mend, cX10_mend, 3, (.some .int))
theorem mk_145 : ac_M 145 = some ac_r145 := rfl
abbrev ac_r146 : ac_R := (yX10_keeps, cX10_keeps, 3, (.some .int))
theorem mk_146 : ac_M 146 = some ac_r146 := rfl
abbrev ac_r147 : ac_R := (yX10_earns, cX10_earns, 2, (.some .long))
theorem mk_147 : ac_M 147 = some ac_r147 := rfl
abbrev ac_r148 : ac_R := (yX10_feed, cX10_feed, 4, (.some .int))
theorem mk_148 : ac_M 148 = some ac_r148 := rfl
abbrev ac_r149 : ac_R := (yX10_text, cX10_text, 2, (.some .int))
theorem mk_149 : ac_M 149 = some ac_r149 := rfl
abbrev ac_r150 : ac_R := (yX10_force, cX10_force, 3, (.some .int))
theorem mk_150 : ac_M 150 = some ac_r150 := rfl
abbrev ac_r151 : ac_R := (yX10_says, cX10_says, 3, (.some .long))
theorem mk_151 : ac_M 151 = some ac_r151 := rfl
abbrev ac_r152 : ac_R := (yX10_raid, cX10_raid, 3, (.some .int))
theorem mk_152 : ac_M 152 = some ac_r152 := rfl
abbrev ac_r153 : ac_R := (yX10_pattern, cX10_pattern, 3, (.some .int))
theorem mk_153 : ac_M 153 = some ac_r153 := rfl
abbrev ac_r154 : ac_R := (yX10_left, cX10_left, 5, (.some .int))
theorem mk_154 : ac_M 154 = some ac_r154 := rfl
abbrev ac_r155 : ac_R := (yX10_form, cX10_form, 6, (.some .int))
theorem mk_155 : ac_M 155 = some ac_r155 := rfl
abbrev ac_r156 : ac_R := (yX10_sends, cX10_sends, 2, (.some .int))
theorem mk_156 : ac_M 156 = some ac_r156 := rfl
abbrev ac_r157 : ac_R := (yX10_person, cX10_person, 2, (.some .int))
theorem mk_157 : ac_M 157 = some ac_r157 := rfl
abbrev ac_r158 : ac_R := (yX10_seen, cX10_seen, 5, (.some .int))
theorem mk_158 : ac_M 158 = some ac_r158 := rfl
abbrev ac_r159 : ac_R := (yX10_canBe, cX10_canBe, 7, (.some .int))
theorem mk_159 : ac_M 159 = some ac_r159 := rfl
abbrev ac_r160 : ac_R := (yX10_suspects, cX10_suspects, 3, (.some .int))
theorem mk_160 : ac_M 160 = some ac_r160 := rfl
abbrev ac_r161 : ac_R := (yX10_word, cX10_word, 5, (.some .int))
theorem mk_161 : ac_M 161 = some ac_r161 := rfl
abbrev ac_r162 : ac_R := (yX10_falseWords, cX10_falseWords, 2, (.some .int))
theorem mk_162 : ac_M 162 = some ac_r162 := rfl
abbrev ac_r163 : ac_R := (yX10_paid, cX10_paid, 5, (.some .long))
theorem mk_163 : ac_M 163 = some ac_r163 := rfl
abbrev ac_r164 : ac_R := (yX10_held, cX10_held, 2, (.some .int))
theorem mk_164 : ac_M 164 = some ac_r164 := rfl
abbrev ac_r165 : ac_R := (yX10_hangs, cX10_hangs, 3, (.some .int))
theorem mk_165 : ac_M 165 = some ac_r165 := rfl
abbrev ac_r166 : ac_R := (yX10_meeting, cX10_meeting, 4, (.some .int))
theorem mk_166 : ac_M 166 = some ac_r166 := rfl
abbrev ac_r167 : ac_R := (yX10_taker, cX10_taker, 3, (.some .int))
theorem mk_167 : ac_M 167 = some ac_r167 := rfl
abbrev ac_r168 : ac_R := (yX10_sworn, cX10_sworn, 3, (.some .int))
theorem mk_168 : ac_M 168 = some ac_r168 := rfl
abbrev ac_r169 : ac_R := (yX10_began, cX10_began, 1, (.some .int))
theorem mk_169 : ac_M 169 = some ac_r169 := rfl
abbrev ac_r170 : ac_R := (yX10_parties, cX10_parties, 9, (.some .int))
theorem mk_170 : ac_M 170 = some ac_r170 := rfl
abbrev ac_r171 : ac_R := (yX10_clause, cX10_clause, 3, (.some .int))
theorem mk_171 : ac_M 171 = some ac_r171 := rfl
abbrev ac_r172 : ac_R := (yX10_against, cX10_against, 3, (.some .int))
theorem mk_172 : ac_M 172 = some ac_r172 := rfl
abbrev ac_r173 : ac_R := (yX10_offer, cX10_offer, 3, (.some .int))
theorem mk_173 : ac_M 173 = some ac_r173 := rfl
abbrev ac_r174 : ac_R := (yX10_row, cX10_row, 3, (.some .int))
theorem mk_174 : ac_M 174 = some ac_r174 := rfl
abbrev ac_r175 : ac_R := (yX10_plan, cX10_plan, 4, (.some .int))
theorem mk_175 : ac_M 175 = some ac_r175 := rfl
abbrev ac_r176 : ac_R := (yX10_count, cX10_count, 2, (.some .int))
theorem mk_176 : ac_M 176 = some ac_r176 := rfl
abbrev ac_r177 : ac_R := (yX10_sheet, cX10_sheet, 4, (.some .int))
theorem mk_177 : ac_M 177 = some ac_r177 := rfl
abbrev ac_r178 : ac_R := (yX10_cell, cX10_cell, 4, (.some .int))
theorem mk_178 : ac_M 178 = some ac_r178 := rfl
abbrev ac_r179 : ac_R := (yX10_copy, cX10_copy, 6, (.some .int))
theorem mk_179 : ac_M 179 = some ac_r179 := rfl
abbrev ac_r180 : ac_R := (yX10_paysRow, cX10_paysRow, 9, (.some .int))
theorem mk_180 : ac_M 180 = some ac_r180 := rfl
abbrev ac_r181 : ac_R := (yX10_taken, cX10_taken, 3, (.some .int))
theorem mk_181 : ac_M 181 = some ac_r181 := rfl
abbrev ac_r182 : ac_R := (yX10_isWithin, cX10_isWithin, 3, (.some .boolean))
theorem mk_182 : ac_M 182 = some ac_r182 := rfl
abbrev ac_r183 : ac_R := (yX10_isNight, cX10_isNight, 1, (.some .boolean))
theorem mk_183 : ac_M 183 = some ac_r183 := rfl
abbrev ac_r184 : ac_R := (yX10_isHour, cX10_isHour, 1, (.some .boolean))
theorem mk_184 : ac_M 184 = some ac_r184 := rfl
abbrev ac_r185 : ac_R := (yX10_isInformer, cX10_isInformer, 1, (.some .boolean))
theorem mk_185 : ac_M 185 = some ac_r185 := rfl
abbrev ac_r186 : ac_R := (yX10_isPast, cX10_isPast, 2, (.some .boolean))
theorem mk_186 : ac_M 186 = some ac_r186 := rfl
abbrev ac_r187 : ac_R := (yX10_priceOf, cX10_priceOf, 2, (.some .int))
theorem mk_187 : ac_M 187 = some ac_r187 := rfl
abbrev ac_r188 : ac_R := (yX10_holdOf, cX10_holdOf, 6, (.some .int))
theorem mk_188 : ac_M 188 = some ac_r188 := rfl
abbrev ac_r189 : ac_R := (yX10_heldWithout, cX10_heldWithout, 6, (.some .int))
theorem mk_189 : ac_M 189 = some ac_r189 := rfl
abbrev ac_r190 : ac_R := (yX10_shopsReached, cX10_shopsReached, 6, (.some .int))
theorem mk_190 : ac_M 190 = some ac_r190 := rfl
abbrev ac_r191 : ac_R := (yX11_init, cX11_init, 2, .none)
theorem mk_191 : ac_M 191 = some ac_r191 := rfl
abbrev ac_r192 : ac_R := (yX11_isIn, cX11_isIn, 6, (.some .boolean))
theorem mk_192 : ac_M 192 = some ac_r192 := rfl
abbrev ac_r193 : ac_R := (yX11_isVillage, cX11_isVillage, 1, (.some .boolean))
theorem mk_193 : ac_M 193 = some ac_r193 := rfl
abbrev ac_r194 : ac_R := (yX11_isNight, cX11_isNight, 1, (.some .boolean))
theorem mk_194 : ac_M 194 = some ac_r194 := rfl
abbrev ac_r195 : ac_R := (yX11_pass, cX11_pass, 2, (.some .int))
theorem mk_195 : ac_M 195 = some ac_r195 := rfl
abbrev ac_r196 : ac_R := (yX11_road, cX11_road, 5, (.some .int))
theorem mk_196 : ac_M 196 = some ac_r196 := rfl
abbrev ac_r197 : ac_R := (yX11_findFar, cX11_findFar, 7, .none)
theorem mk_197 : ac_M 197 = some ac_r197 := rfl
abbrev ac_r198 : ac_R := (yX11_far, cX11_far, 4, (.some .int))
theorem mk_198 : ac_M 198 = some ac_r198 := rfl
abbrev ac_r199 : ac_R := (yX11_isShop, cX11_isShop, 2, (.some .boolean))
theorem mk_199 : ac_M 199 = some ac_r199 := rfl
abbrev ac_r200 : ac_R := (yX11_isFrame, cX11_isFrame, 2, (.some .boolean))
theorem mk_200 : ac_M 200 = some ac_r200 := rfl
abbrev ac_r201 : ac_R := (yX11_shop, cX11_shop, 3, (.some .int))
theorem mk_201 : ac_M 201 = some ac_r201 := rfl
abbrev ac_r202 : ac_R := (yX11_pays, cX11_pays, 4, (.some .int))
theorem mk_202 : ac_M 202 = some ac_r202 := rfl
abbrev ac_r203 : ac_R := (yX11_frame, cX11_frame, 5, (.some .int))
theorem mk_203 : ac_M 203 = some ac_r203 := rfl
abbrev ac_r204 : ac_R := (yX11_makes, cX11_makes, 3, (.some .int))
theorem mk_204 : ac_M 204 = some ac_r204 := rfl
abbrev ac_r205 : ac_R := (yX11_paidRent, cX11_paidRent, 2, (.some .int))
theorem mk_205 : ac_M 205 = some ac_r205 := rfl
abbrev ac_r206 : ac_R := (yX11_earned, cX11_earned, 2, (.some .int))
theorem mk_206 : ac_M 206 = some ac_r206 := rfl
abbrev ac_r207 : ac_R := (yX11_frameTold, cX11_frameTold, 3, (.some .long))
theorem mk_207 : ac_M 207 = some ac_r207 := rfl
abbrev ac_r208 : ac_R := (yX11_mend, cX11_mend, 4, (.some .int))
theorem mk_208 : ac_M 208 = some ac_r208 := rfl
abbrev ac_r209 : ac_R := (yX11_keeps, cX11_keeps, 4, (.some .int))
theorem mk_209 : ac_M 209 = some ac_r209 := rfl
abbrev ac_r210 : ac_R := (yX11_earns, cX11_earns, 5, (.some .long))
theorem mk_210 : ac_M 210 = some ac_r210 := rfl
abbrev ac_r211 : ac_R := (yX11_puts, cX11_puts, 3, .none)
theorem mk_211 : ac_M 211 = some ac_r211 := rfl
abbrev ac_r212 : ac_R := (yX11_list0, cX11_list0, 1, .none)
theorem mk_212 : ac_M 212 = some ac_r212 := rfl
abbrev ac_r213 : ac_R := (yX11_feed, cX11_feed, 5, (.some .int))
theorem mk_213 : ac_M 213 = some ac_r213 := rfl
abbrev ac_r214 : ac_R := (yX11_isLetter, cX11_isLetter, 1, (.some .boolean))
theorem mk_214 : ac_M 214 = some ac_r214 := rfl
abbrev ac_r215 : ac_R := (yX11_isDigit, cX11_isDigit, 1, (.some .boolean))
theorem mk_215 : ac_M 215 = some ac_r215 := rfl
abbrev ac_r216 : ac_R := (yX11_isWord, cX11_isWord, 5, (.some .boolean))
theorem mk_216 : ac_M 216 = some ac_r216 := rfl
abbrev ac_r217 : ac_R := (yX11_reads, cX11_reads, 2, .none)
theorem mk_217 : ac_M 217 = some ac_r217 := rfl
abbrev ac_r218 : ac_R := (yX11_word, cX11_word, 2, (.some .int))
theorem mk_218 : ac_M 218 = some ac_r218 := rfl
abbrev ac_r219 : ac_R := (yX11_waits, cX11_waits, 2, .none)
theorem mk_219 : ac_M 219 = some ac_r219 := rfl
abbrev ac_r220 : ac_R := (yX11_works, cX11_works, 2, .none)
theorem mk_220 : ac_M 220 = some ac_r220 := rfl
abbrev ac_r221 : ac_R := (yX11_parses, cX11_parses, 3, (.some .boolean))
theorem mk_221 : ac_M 221 = some ac_r221 := rfl
abbrev ac_r222 : ac_R := (yX11_isText, cX11_isText, 2, (.some .boolean))
theorem mk_222 : ac_M 222 = some ac_r222 := rfl
abbrev ac_r223 : ac_R := (yX11_text, cX11_text, 3, (.some .int))
theorem mk_223 : ac_M 223 = some ac_r223 := rfl
abbrev ac_r224 : ac_R := (yX11_force, cX11_force, 3, (.some .int))
theorem mk_224 : ac_M 224 = some ac_r224 := rfl
abbrev ac_r225 : ac_R := (yX11_comesTo, cX11_comesTo, 4, (.some .int))
theorem mk_225 : ac_M 225 = some ac_r225 := rfl
abbrev ac_r226 : ac_R := (yX11_worked, cX11_worked, 3, (.some .int))
theorem mk_226 : ac_M 226 = some ac_r226 := rfl
abbrev ac_r227 : ac_R := (yX11_price, cX11_price, 2, (.some .int))
theorem mk_227 : ac_M 227 = some ac_r227 := rfl
abbrev ac_r228 : ac_R := (yX11_says, cX11_says, 3, (.some .long))
theorem mk_228 : ac_M 228 = some ac_r228 := rfl
abbrev ac_r229 : ac_R := (yX11_raid, cX11_raid, 3, (.some .int))
theorem mk_229 : ac_M 229 = some ac_r229 := rfl
abbrev ac_r230 : ac_R := (yX11_isStruck, cX11_isStruck, 2, (.some .boolean))
theorem mk_230 : ac_M 230 = some ac_r230 := rfl
abbrev ac_r231 : ac_R := (yX11_hasStruck, cX11_hasStruck, 4, (.some .boolean))
theorem mk_231 : ac_M 231 = some ac_r231 := rfl
abbrev ac_r232 : ac_R := (yX11_struck, cX11_struck, 3, (.some .int))
theorem mk_232 : ac_M 232 = some ac_r232 := rfl
abbrev ac_r233 : ac_R := (yX11_spared, cX11_spared, 3, (.some .int))
theorem mk_233 : ac_M 233 = some ac_r233 := rfl
abbrev ac_r234 : ac_R := (yX11_pattern, cX11_pattern, 2, (.some .int))
theorem mk_234 : ac_M 234 = some ac_r234 := rfl
abbrev ac_r235 : ac_R := (yX11_fits, cX11_fits, 5, (.some .boolean))
theorem mk_235 : ac_M 235 = some ac_r235 := rfl
abbrev ac_r236 : ac_R := (yX11_isLeft, cX11_isLeft, 5, (.some .boolean))
theorem mk_236 : ac_M 236 = some ac_r236 := rfl
abbrev ac_r237 : ac_R := (yX11_left, cX11_left, 5, (.some .int))
theorem mk_237 : ac_M 237 = some ac_r237 := rfl
abbrev ac_r238 : ac_R := (yX11_form, cX11_form, 6, (.some .int))
theorem mk_238 : ac_M 238 = some ac_r238 := rfl
abbrev ac_r239 : ac_R := (yX11_sends, cX11_sends, 7, (.some .int))
theorem mk_239 : ac_M 239 = some ac_r239 := rfl
abbrev ac_r240 : ac_R := (yX11_isPerson, cX11_isPerson, 2, (.some .boolean))
theorem mk_240 : ac_M 240 = some ac_r240 := rfl
abbrev ac_r241 : ac_R := (yX11_person, cX11_person, 2, (.some .int))
theorem mk_241 : ac_M 241 = some ac_r241 := rfl
abbrev ac_r242 : ac_R := (yX11_seen, cX11_seen, 5, (.some .int))
theorem mk_242 : ac_M 242 = some ac_r242 := rfl
abbrev ac_r243 : ac_R := (yX11_away, cX11_away, 1, (.some .int))
theorem mk_243 : ac_M 243 = some ac_r243 := rfl
abbrev ac_r244 : ac_R := (yX11_could, cX11_could, 7, (.some .boolean))
theorem mk_244 : ac_M 244 = some ac_r244 := rfl
abbrev ac_r245 : ac_R := (yX11_isKnown, cX11_isKnown, 2, (.some .boolean))
theorem mk_245 : ac_M 245 = some ac_r245 := rfl
abbrev ac_r246 : ac_R := (yX11_canBe, cX11_canBe, 5, (.some .int))
theorem mk_246 : ac_M 246 = some ac_r246 := rfl
abbrev ac_r247 : ac_R := (yX11_couldRaid, cX11_couldRaid, 4, (.some .boolean))
theorem mk_247 : ac_M 247 = some ac_r247 := rfl
abbrev ac_r248 : ac_R := (yX11_suspects, cX11_suspects, 5, (.some .int))
theorem mk_248 : ac_M 248 = some ac_r248 := rfl
abbrev ac_r249 : ac_R := (yX11_word_, cX11_word_, 5, (.some .int))
theorem mk_249 : ac_M 249 = some ac_r249 := rfl
abbrev ac_r250 : ac_R := (yX11_isFalse, cX11_isFalse, 3, (.some .boolean))
theorem mk_250 : ac_M 250 = some ac_r250 := rfl
abbrev ac_r251 : ac_R := (yX11_falseWords, cX11_falseWords, 4, (.some .int))
theorem mk_251 : ac_M 251 = some ac_r251 := rfl
abbrev ac_r252 : ac_R := (yX11_paid, cX11_paid, 7, (.some .long))
theorem mk_252 : ac_M 252 = some ac_r252 := rfl
abbrev ac_r253 : ac_R := (yX11_hold, cX11_hold, 7, (.some .int))
theorem mk_253 : ac_M 253 = some ac_r253 := rfl
abbrev ac_r254 : ac_R := (yX11_heldWithout, cX11_heldWithout, 5, (.some .int))
theorem mk_254 : ac_M 254 = some ac_r254 := rfl
abbrev ac_r255 : ac_R := (yX11_held, cX11_held, 2, (.some .int))
theorem mk_255 : ac_M 255 = some ac_r255 := rfl
abbrev ac_r256 : ac_R := (yX11_hangs, cX11_hangs, 3, (.some .int))
theorem mk_256 : ac_M 256 = some ac_r256 := rfl
abbrev ac_r257 : ac_R := (yX11_meeting, cX11_meeting, 6, (.some .int))
theorem mk_257 : ac_M 257 = some ac_r257 := rfl
abbrev ac_r258 : ac_R := (yX11_taker, cX11_taker, 4, (.some .int))
theorem mk_258 : ac_M 258 = some ac_r258 := rfl
abbrev ac_r259 : ac_R := (yX11_swornBy, cX11_swornBy, 6, (.some .int))
theorem mk_259 : ac_M 259 = some ac_r259 := rfl
abbrev ac_r260 : ac_R := (yX11_sworn, cX11_sworn, 3, (.some .int))
theorem mk_260 : ac_M 260 = some ac_r260 := rfl
abbrev ac_r261 : ac_R := (yX11_bits, cX11_bits, 3, (.some .int))
theorem mk_261 : ac_M 261 = some ac_r261 := rfl
abbrev ac_r262 : ac_R := (yX11_swears, cX11_swears, 3, (.some .boolean))
theorem mk_262 : ac_M 262 = some ac_r262 := rfl
abbrev ac_r263 : ac_R := (yX11_began, cX11_began, 3, (.some .int))
theorem mk_263 : ac_M 263 = some ac_r263 := rfl
abbrev ac_r264 : ac_R := (yX11_parties, cX11_parties, 10, (.some .int))
theorem mk_264 : ac_M 264 = some ac_r264 := rfl
abbrev ac_r265 : ac_R := (yX11_isReached, cX11_isReached, 5, (.some .boolean))
theorem mk_265 : ac_M 265 = some ac_r265 := rfl
abbrev ac_r266 : ac_R := (yX11_clause, cX11_clause, 3, (.some .int))
theorem mk_266 : ac_M 266 = some ac_r266 := rfl
abbrev ac_r267 : ac_R := (yX11_against, cX11_against, 4, (.some .int))
theorem mk_267 : ac_M 267 = some ac_r267 := rfl
abbrev ac_r268 : ac_R := (yX11_offer, cX11_offer, 11, (.some .int))
theorem mk_268 : ac_M 268 = some ac_r268 := rfl
abbrev ac_r269 : ac_R := (yX11_row, cX11_row, 6, (.some .int))
theorem mk_269 : ac_M 269 = some ac_r269 := rfl
abbrev ac_r270 : ac_R := (yX11_three, cX11_three, 3, (.some .int))
theorem mk_270 : ac_M 270 = some ac_r270 := rfl
abbrev ac_r271 : ac_R := (yX11_deed, cX11_deed, 3, (.some .int))
theorem mk_271 : ac_M 271 = some ac_r271 := rfl
abbrev ac_r272 : ac_R := (yX11_broken, cX11_broken, 9, (.some .int))
theorem mk_272 : ac_M 272 = some ac_r272 := rfl
abbrev ac_r273 : ac_R := (yX11_findPlan, cX11_findPlan, 7, .none)
theorem mk_273 : ac_M 273 = some ac_r273 := rfl
abbrev ac_r274 : ac_R := (yX11_plan, cX11_plan, 3, (.some .int))
theorem mk_274 : ac_M 274 = some ac_r274 := rfl
abbrev ac_r275 : ac_R := (yX11_thatAre, cX11_thatAre, 4, (.some .int))
theorem mk_275 : ac_M 275 = some ac_r275 := rfl
abbrev ac_r276 : ac_R := (yX11_count, cX11_count, 2, (.some .int))
theorem mk_276 : ac_M 276 = some ac_r276 := rfl
abbrev ac_r277 : ac_R := (yX11_isSheet, cX11_isSheet, 1, (.some .boolean))
theorem mk_277 : ac_M 277 = some ac_r277 := rfl
abbrev ac_r278 : ac_R := (yX11_sheet, cX11_sheet, 5, (.some .int))
theorem mk_278 : ac_M 278 = some ac_r278 := rfl
abbrev ac_r279 : ac_R := (yX11_narrow, cX11_narrow, 2, (.some .int))
theorem mk_279 : ac_M 279 = some ac_r279 := rfl
abbrev ac_r280 : ac_R := (yX11_cell, cX11_cell, 4, (.some .int))
theorem mk_280 : ac_M 280 = some ac_r280 := rfl
abbrev ac_r281 : ac_R := (yX11_copy, cX11_copy, 7, (.some .int))
theorem mk_281 : ac_M 281 = some ac_r281 := rfl
abbrev ac_r282 : ac_R := (yX11_paysRow, cX11_paysRow, 10, (.some .int))
theorem mk_282 : ac_M 282 = some ac_r282 := rfl
abbrev ac_r283 : ac_R := (yX11_parent, cX11_parent, 1, (.some .int))
theorem mk_283 : ac_M 283 = some ac_r283 := rfl
abbrev ac_r284 : ac_R := (yX11_taken, cX11_taken, 4, (.some .int))
theorem mk_284 : ac_M 284 = some ac_r284 := rfl
abbrev ac_r285 : ac_R := (yJ6_bitCount_0f7a4, cJ6_bitCount_0f7a4, 1, (.some .int))
theorem mk_285 : ac_M 285 = some ac_r285 := rfl
abbrev ac_r286 : ac_R := (yJ9_abs_0f7a4, cJ9_abs_0f7a4, 1, (.some .int))
theorem mk_286 : ac_M 286 = some ac_r286 := rfl
abbrev ac_r287 : ac_R := (yJ9_max_7cf53, cJ9_max_7cf53, 2, (.some .int))
theorem mk_287 : ac_M 287 = some ac_r287 := rfl
abbrev ac_r288 : ac_R := (yJ9_min_7cf53, cJ9_min_7cf53, 2, (.some .int))
theorem mk_288 : ac_M 288 = some ac_r288 := rfl
abbrev ac_r289 : ac_R := (yJ0_length_8abf5, cJ0_length_8abf5, 1, (.some .int))
theorem mk_289 : ac_M 289 = some ac_r289 := rfl
abbrev ac_r290 : ac_R := (yJ0_charAt_5068e, cJ0_charAt_5068e, 2, (.some .char))
theorem mk_290 : ac_M 290 = some ac_r290 := rfl
abbrev ac_r291 : ac_R := (yJ0_coder_7d493, cJ0_coder_7d493, 1, (.some .byte))
theorem mk_291 : ac_M 291 = some ac_r291 := rfl
abbrev ac_r292 : ac_R := (yJ0_isLatin1_aae02, cJ0_isLatin1_aae02, 1, (.some .boolean))
theorem mk_292 : ac_M 292 = some ac_r292 := rfl
abbrev ac_r293 : ac_R := (yJ0_checkIndex_df160, cJ0_checkIndex_df160, 2, .none)
theorem mk_293 : ac_M 293 = some ac_r293 := rfl
abbrev ac_r294 : ac_R := (yJ1_charAt_3b067, cJ1_charAt_3b067, 2, (.some .char))
theorem mk_294 : ac_M 294 = some ac_r294 := rfl
abbrev ac_r295 : ac_R := (yJ2_getChar_3b067, cJ2_getChar_3b067, 2, (.some .char))
theorem mk_295 : ac_M 295 = some ac_r295 := rfl
abbrev ac_r296 : ac_R := (yJ2_length_9d52b, cJ2_length_9d52b, 1, (.some .int))
theorem mk_296 : ac_M 296 = some ac_r296 := rfl
abbrev ac_r297 : ac_R := (yJ2_charAt_3b067, cJ2_charAt_3b067, 2, (.some .char))
theorem mk_297 : ac_M 297 = some ac_r297 := rfl
abbrev ac_r298 : ac_R := (yJ2_checkIndex_2214a, cJ2_checkIndex_2214a, 2, .none)
theorem mk_298 : ac_M 298 = some ac_r298 := rfl
abbrev ac_r299 : ac_R := (yJ7_fill_53178, cJ7_fill_53178, 4, .none)
theorem mk_299 : ac_M 299 = some ac_r299 := rfl
abbrev ac_r300 : ac_R := (yJ3_checkIndex_8e157, cJ3_checkIndex_8e157, 3, (.some .int))
theorem mk_300 : ac_M 300 = some ac_r300 := rfl
abbrev ac_r301 : ac_R := (yL_law, cL_law, 4, (.some .boolean))
theorem mk_301 : ac_M 301 = some ac_r301 := rfl
theorem fd_RX0_21 {M : ac_R} (h : M.1.cls = RX0) : ac_fd M 21 0 0 0 := by
  refine ac_fd.of (RX0, TX0, 4) rfl (by decide) aa_inW0 276 ?_ rfl rfl (by decide)
  rw [h]
  decide +kernel
theorem ce_182 : ac_ce 182 3 ac_r182 := ⟨mk_182, by decide +kernel, aa_bw 447 (by decide +kernel) rfl, aa_bw 73 (by decide +kernel) rfl, ⟨by decide +kernel, by decide +kernel⟩, by decide +kernel⟩
theorem cs_182 : Cond.static (ac_r182).1 ∈ aa_BW := aa_bw 446 (by decide +kernel) rfl
theorem lk_RX0_25 : ac_lk RX0 25 (ac_r182).1 := Or.inr ⟨"FrameCounty", List.mem_of_getElem? (i := 11) rfl⟩
theorem fd_RX0_9 {M : ac_R} (h : M.1.cls = RX0) : ac_fd M 9 0 1 1 := by
  refine ac_fd.of (RX0, TX0, 4) rfl (by decide) aa_inW0 277 ?_ rfl rfl (by decide)
  rw [h]
  decide +kernel
theorem fd_RX0_15 {M : ac_R} (h : M.1.cls = RX0) : ac_fd M 15 0 2 1 := by
  refine ac_fd.of (RX0, TX0, 4) rfl (by decide) aa_inW0 278 ?_ rfl rfl (by decide)
  rw [h]
  decide +kernel
theorem pt_0_0 : ac_pt 0 0 .int := ⟨(RX0, TX0, 4), tyX0, rfl, tyX0_ok, nmX0, rfl, by decide +kernel⟩
theorem fd_RX0_18 {M : ac_R} (h : M.1.cls = RX0) : ac_fd M 18 0 3 1 := by
  refine ac_fd.of (RX0, TX0, 4) rfl (by decide) aa_inW0 279 ?_ rfl rfl (by decide)
  rw [h]
  decide +kernel
theorem ce_7 : ac_ce 7 1 ac_r7 := ⟨mk_7, by decide +kernel, aa_bw 1060 (by decide +kernel) rfl, aa_bw 81 (by decide +kernel) rfl, ⟨by decide +kernel, by decide +kernel⟩, by decide +kernel⟩
theorem ci_7 : Cond.instanceMethod (ac_r7).1 ∈ aa_BW := aa_bw 1059 (by decide +kernel) rfl
theorem cv_7 : Cond.selects (ac_r7).1.cls (ac_r7).1 (ac_r7).1 ∈ aa_BW := aa_bw 32 (by decide +kernel) rfl
theorem lk_RX0_29 : ac_lk RX0 29 (ac_r7).1 := Or.inl (aa_bw 1057 (by decide +kernel) rfl)
theorem cx_RX0_29 {M : ac_R} (h : M.1.cls = RX0) : ac_cv M 29 7 1 3 0 ac_r7 := ⟨ce_7, by rw [h]; exact lk_RX0_29, ci_7, cv_7, rfl, by decide, (RX0, TX0, 4), rfl, rfl, by decide⟩
theorem ce_8 : ac_ce 8 2 ac_r8 := ⟨mk_8, by decide +kernel, aa_bw 1064 (by decide +kernel) rfl, aa_bw 81 (by decide +kernel) rfl, ⟨by decide +kernel, by decide +kernel⟩, by decide +kernel⟩
theorem ci_8 : Cond.instanceMethod (ac_r8).1 ∈ aa_BW := aa_bw 1063 (by decide +kernel) rfl
theorem cv_8 : Cond.selects (ac_r8).1.cls (ac_r8).1 (ac_r8).1 ∈ aa_BW := aa_bw 33 (by decide +kernel) rfl
theorem lk_RX0_33 : ac_lk RX0 33 (ac_r8).1 := Or.inl (aa_bw 1061 (by decide +kernel) rfl)
theorem cx_RX0_33 {M : ac_R} (h : M.1.cls = RX0) : ac_cv M 33 8 2 5 0 ac_r8 := ⟨ce_8, by rw [h]; exact lk_RX0_33, ci_8, cv_8, rfl, by decide, (RX0, TX0, 4), rfl, rfl, by decide⟩
theorem ce_6 : ac_ce 6 2 ac_r6 := ⟨mk_6, by decide +kernel, aa_bw 1068 (by decide +kernel) rfl, aa_bw 81 (by decide +kernel) rfl, ⟨by decide +kernel, by decide +kernel⟩, by decide +kernel⟩
theorem ci_6 : Cond.instanceMethod (ac_r6).1 ∈ aa_BW := aa_bw 1067 (by decide +kernel) rfl
theorem cv_6 : Cond.selects (ac_r6).1.cls (ac_r6).1 (ac_r6).1 ∈ aa_BW := aa_bw 34 (by decide +kernel) rfl
theorem lk_RX0_37 : ac_lk RX0 37 (ac_r6).1 := Or.inl (aa_bw 1065 (by decide +kernel) rfl)
theorem cx_RX0_37 {M : ac_R} (h : M.1.cls = RX0) : ac_cv M 37 6 2 4 0 ac_r6 := ⟨ce_6, by rw [h]; exact lk_RX0_37, ci_6, cv_6, rfl, by decide, (RX0, TX0, 4), rfl, rfl, by decide⟩
theorem ce_285 : ac_ce 285 1 ac_r285 := ⟨mk_285, by decide +kernel, aa_bw 820 (by decide +kernel) rfl, aa_bw 91 (by decide +kernel) rfl, ⟨by decide +kernel, by decide +kernel⟩, by decide +kernel⟩
theorem cs_285 : Cond.static (ac_r285).1 ∈ aa_BW := aa_bw 819 (by decide +kernel) rfl
theorem lk_RX0_41 : ac_lk RX0 41 (ac_r285).1 := Or.inl (aa_bw 1069 (by decide +kernel) rfl)
theorem fd_RX1_33 {M : ac_R} (h : M.1.cls = RX1) : ac_fd M 33 1 0 0 := by
  refine ac_fd.of (RX1, TX1, 6) rfl (by decide) aa_inW1 251 ?_ rfl rfl (by decide)
  rw [h]
  decide +kernel
theorem fd_RX1_18 {M : ac_R} (h : M.1.cls = RX1) : ac_fd M 18 1 3 1 := by
  refine ac_fd.of (RX1, TX1, 6) rfl (by decide) aa_inW1 254 ?_ rfl rfl (by decide)
  rw [h]
  decide +kernel
theorem fd_RX1_9 {M : ac_R} (h : M.1.cls = RX1) : ac_fd M 9 1 1 1 := by
  refine ac_fd.of (RX1, TX1, 6) rfl (by decide) aa_inW1 252 ?_ rfl rfl (by decide)
  rw [h]
  decide +kernel
theorem fd_RX1_15 {M : ac_R} (h : M.1.cls = RX1) : ac_fd M 15 1 2 1 := by
  refine ac_fd.of (RX1, TX1, 6) rfl (by decide) aa_inW1 253 ?_ rfl rfl (by decide)
  rw [h]
  decide +kernel
theorem pt_1_0 : ac_pt 1 0 .int := ⟨(RX1, TX1, 6), tyX1, rfl, tyX1_ok, nmX1, rfl, by decide +kernel⟩
theorem fd_RX1_21 {M : ac_R} (h : M.1.cls = RX1) : ac_fd M 21 1 4 1 := by
  refine ac_fd.of (RX1, TX1, 6) rfl (by decide) aa_inW1 255 ?_ rfl rfl (by decide)
  rw [h]
  decide +kernel
theorem fd_RX1_24 {M : ac_R} (h : M.1.cls = RX1) : ac_fd M 24 1 5 1 := by
  refine ac_fd.of (RX1, TX1, 6) rfl (by decide) aa_inW1 256 ?_ rfl rfl (by decide)
  rw [h]
  decide +kernel
theorem ce_15 : ac_ce 15 2 ac_r15 := ⟨mk_15, by decide +kernel, aa_bw 1003 (by decide +kernel) rfl, aa_bw 80 (by decide +kernel) rfl, ⟨by decide +kernel, by decide +kernel⟩, by decide +kernel⟩
theorem ci_15 : Cond.instanceMethod (ac_r15).1 ∈ aa_BW := aa_bw 1002 (by decide +kernel) rfl
theorem cv_15 : Cond.selects (ac_r15).1.cls (ac_r15).1 (ac_r15).1 ∈ aa_BW := aa_bw 29 (by decide +kernel) rfl
theorem lk_RX1_37 : ac_lk RX1 37 (ac_r15).1 := Or.inl (aa_bw 1000 (by decide +kernel) rfl)
theorem cx_RX1_37 {M : ac_R} (h : M.1.cls = RX1) : ac_cv M 37 15 2 5 1 ac_r15 := ⟨ce_15, by rw [h]; exact lk_RX1_37, ci_15, cv_15, rfl, by decide, (RX1, TX1, 6), rfl, rfl, by decide⟩
theorem lk_RX1_41 : ac_lk RX1 41 (ac_r285).1 := Or.inl (aa_bw 1005 (by decide +kernel) rfl)
theorem ce_16 : ac_ce 16 2 ac_r16 := ⟨mk_16, by decide +kernel, aa_bw 1009 (by decide +kernel) rfl, aa_bw 80 (by decide +kernel) rfl, ⟨by decide +kernel, by decide +kernel⟩, by decide +kernel⟩
theorem ci_16 : Cond.instanceMethod (ac_r16).1 ∈ aa_BW := aa_bw 1008 (by decide +kernel) rfl
theorem cv_16 : Cond.selects (ac_r16).1.cls (ac_r16).1 (ac_r16).1 ∈ aa_BW := aa_bw 30 (by decide +kernel) rfl
theorem lk_RX1_47 : ac_lk RX1 47 (ac_r16).1 := Or.inl (aa_bw 1006 (by decide +kernel) rfl)
theorem cx_RX1_47 {M : ac_R} (h : M.1.cls = RX1) : ac_cv M 47 16 2 5 1 ac_r16 := ⟨ce_16, by rw [h]; exact lk_RX1_47, ci_16, cv_16, rfl, by decide, (RX1, TX1, 6), rfl, rfl, by decide⟩
theorem ce_13 : ac_ce 13 2 ac_r13 := ⟨mk_13, by decide +kernel, aa_bw 991 (by decide +kernel) rfl, aa_bw 80 (by decide +kernel) rfl, ⟨by decide +kernel, by decide +kernel⟩, by decide +kernel⟩
theorem ci_13 : Cond.instanceMethod (ac_r13).1 ∈ aa_BW := aa_bw 989 (by decide +kernel) rfl
theorem cv_13 : Cond.selects (ac_r13).1.cls (ac_r13).1 (ac_r13).1 ∈ aa_BW := aa_bw 990 (by decide +kernel) rfl
theorem lk_RX1_50 : ac_lk RX1 50 (ac_r13).1 := Or.inl (aa_bw 1004 (by decide +kernel) rfl)
theorem cx_RX1_50 {M : ac_R} (h : M.1.cls = RX1) : ac_cv M 50 13 2 6 1 ac_r13 := ⟨ce_13, by rw [h]; exact lk_RX1_50, ci_13, cv_13, rfl, by decide, (RX1, TX1, 6), rfl, rfl, by decide⟩
theorem fd_RX2_25 {M : ac_R} (h : M.1.cls = RX2) : ac_fd M 25 2 1 0 := by
  refine ac_fd.of (RX2, TX2, 5) rfl (by decide) aa_inW2 174 ?_ rfl rfl (by decide)
  rw [h]
  decide +kernel
theorem lk_RX2_29 : ac_lk RX2 29 (ac_r182).1 := Or.inr ⟨"FrameCounty", List.mem_of_getElem? (i := 10) rfl⟩
theorem fd_RX2_21 {M : ac_R} (h : M.1.cls = RX2) : ac_fd M 21 2 0 1 := by
  refine ac_fd.of (RX2, TX2, 5) rfl (by decide) aa_inW2 173 ?_ rfl rfl (by decide)
  rw [h]
  decide +kernel
theorem ce_122 : ac_ce 122 2 ac_r122 := ⟨mk_122, by decide +kernel, aa_bw 846 (by decide +kernel) rfl, aa_bw 77 (by decide +kernel) rfl, ⟨by decide +kernel, by decide +kernel⟩, by decide +kernel⟩
theorem ci_122 : Cond.instanceMethod (ac_r122).1 ∈ aa_BW := aa_bw 844 (by decide +kernel) rfl
theorem cv_122 : Cond.selects (ac_r122).1.cls (ac_r122).1 (ac_r122).1 ∈ aa_BW := aa_bw 845 (by decide +kernel) rfl
theorem lk_RX2_33 : ac_lk RX2 33 (ac_r122).1 := Or.inl (aa_bw 843 (by decide +kernel) rfl)
theorem cx_RX2_33 {M : ac_R} (h : M.1.cls = RX2) : ac_cv M 33 122 2 3 9 ac_r122 := ⟨ce_122, by rw [h]; exact lk_RX2_33, ci_122, cv_122, rfl, by decide, (RX9, TX9, 10), rfl, rfl, by decide⟩
theorem fd_RX2_9 {M : ac_R} (h : M.1.cls = RX2) : ac_fd M 9 2 2 1 := by
  refine ac_fd.of (RX2, TX2, 5) rfl (by decide) aa_inW2 175 ?_ rfl rfl (by decide)
  rw [h]
  decide +kernel
theorem fd_RX2_15 {M : ac_R} (h : M.1.cls = RX2) : ac_fd M 15 2 3 1 := by
  refine ac_fd.of (RX2, TX2, 5) rfl (by decide) aa_inW2 176 ?_ rfl rfl (by decide)
  rw [h]
  decide +kernel
theorem fd_RX2_18 {M : ac_R} (h : M.1.cls = RX2) : ac_fd M 18 2 4 1 := by
  refine ac_fd.of (RX2, TX2, 5) rfl (by decide) aa_inW2 177 ?_ rfl rfl (by decide)
  rw [h]
  decide +kernel
theorem pt_2_1 : ac_pt 2 1 .int := ⟨(RX2, TX2, 5), tyX2, rfl, tyX2_ok, nmX2, rfl, by decide +kernel⟩
theorem ce_114 : ac_ce 114 1 ac_r114 := ⟨mk_114, by decide +kernel, aa_bw 692 (by decide +kernel) rfl, aa_bw 77 (by decide +kernel) rfl, ⟨by decide +kernel, by decide +kernel⟩, by decide +kernel⟩
theorem ci_114 : Cond.instanceMethod (ac_r114).1 ∈ aa_BW := aa_bw 690 (by decide +kernel) rfl
theorem cv_114 : Cond.selects (ac_r114).1.cls (ac_r114).1 (ac_r114).1 ∈ aa_BW := aa_bw 691 (by decide +kernel) rfl
theorem lk_RX2_39 : ac_lk RX2 39 (ac_r114).1 := Or.inl (aa_bw 781 (by decide +kernel) rfl)
theorem cx_RX2_39 {M : ac_R} (h : M.1.cls = RX2) : ac_cv M 39 114 1 2 9 ac_r114 := ⟨ce_114, by rw [h]; exact lk_RX2_39, ci_114, cv_114, rfl, by decide, (RX9, TX9, 10), rfl, rfl, by decide⟩
theorem ce_111 : ac_ce 111 1 ac_r111 := ⟨mk_111, by decide +kernel, aa_bw 785 (by decide +kernel) rfl, aa_bw 77 (by decide +kernel) rfl, ⟨by decide +kernel, by decide +kernel⟩, by decide +kernel⟩
theorem ci_111 : Cond.instanceMethod (ac_r111).1 ∈ aa_BW := aa_bw 783 (by decide +kernel) rfl
theorem cv_111 : Cond.selects (ac_r111).1.cls (ac_r111).1 (ac_r111).1 ∈ aa_BW := aa_bw 784 (by decide +kernel) rfl
theorem lk_RX2_43 : ac_lk RX2 43 (ac_r111).1 := Or.inl (aa_bw 782 (by decide +kernel) rfl)
theorem cx_RX2_43 {M : ac_R} (h : M.1.cls = RX2) : ac_cv M 43 111 1 2 9 ac_r111 := ⟨ce_111, by rw [h]; exact lk_RX2_43, ci_111, cv_111, rfl, by decide, (RX9, TX9, 10), rfl, rfl, by decide⟩
theorem fd_RX3_25 {M : ac_R} (h : M.1.cls = RX3) : ac_fd M 25 3 1 0 := by
  refine ac_fd.of (RX3, TX3, 9) rfl (by decide) aa_inW3 328 ?_ rfl rfl (by decide)
  rw [h]
  decide +kernel
theorem ce_289 : ac_ce 289 0 ac_r289 := ⟨mk_289, by decide +kernel, aa_bw 384 (by decide +kernel) rfl, aa_bw 86 (by decide +kernel) rfl, ⟨by decide +kernel, by decide +kernel⟩, by decide +kernel⟩
theorem ci_289 : Cond.instanceMethod (ac_r289).1 ∈ aa_BW := aa_bw 382 (by decide +kernel) rfl
theorem cv_289 : Cond.selects (ac_r289).1.cls (ac_r289).1 (ac_r289).1 ∈ aa_BW := aa_bw 383 (by decide +kernel) rfl
theorem lk_RX3_29 : ac_lk RX3 29 (ac_r289).1 := Or.inl (aa_bw 381 (by decide +kernel) rfl)
theorem fd_RX3_11 {M : ac_R} (h : M.1.cls = RX3) : ac_fd M 11 3 0 1 := by
  refine ac_fd.of (RX3, TX3, 9) rfl (by decide) aa_inW3 327 ?_ rfl rfl (by decide)
  rw [h]
  decide +kernel
theorem ce_290 : ac_ce 290 1 ac_r290 := ⟨mk_290, by decide +kernel, aa_bw 394 (by decide +kernel) rfl, aa_bw 86 (by decide +kernel) rfl, ⟨by decide +kernel, by decide +kernel⟩, by decide +kernel⟩
theorem ci_290 : Cond.instanceMethod (ac_r290).1 ∈ aa_BW := aa_bw 392 (by decide +kernel) rfl
theorem cv_290 : Cond.selects (ac_r290).1.cls (ac_r290).1 (ac_r290).1 ∈ aa_BW := aa_bw 393 (by decide +kernel) rfl
theorem lk_RX3_35 : ac_lk RX3 35 (ac_r290).1 := Or.inl (aa_bw 391 (by decide +kernel) rfl)
theorem pt_3_1 : ac_pt 3 1 .int := ⟨(RX3, TX3, 9), tyX3, rfl, tyX3_ok, nmX3, rfl, by decide +kernel⟩
theorem ce_29 : ac_ce 29 0 ac_r29 := ⟨mk_29, by decide +kernel, aa_bw 436 (by decide +kernel) rfl, aa_bw 84 (by decide +kernel) rfl, ⟨by decide +kernel, by decide +kernel⟩, by decide +kernel⟩
theorem ci_29 : Cond.instanceMethod (ac_r29).1 ∈ aa_BW := aa_bw 435 (by decide +kernel) rfl
theorem cv_29 : Cond.selects (ac_r29).1.cls (ac_r29).1 (ac_r29).1 ∈ aa_BW := aa_bw 1 (by decide +kernel) rfl
theorem lk_RX3_39 : ac_lk RX3 39 (ac_r29).1 := Or.inl (aa_bw 433 (by decide +kernel) rfl)
theorem cx_RX3_39 {M : ac_R} (h : M.1.cls = RX3) : ac_cv M 39 29 0 5 3 ac_r29 := ⟨ce_29, by rw [h]; exact lk_RX3_39, ci_29, cv_29, rfl, by decide, (RX3, TX3, 9), rfl, rfl, by decide⟩
theorem fd_RX3_42 {M : ac_R} (h : M.1.cls = RX3) : ac_fd M 42 3 6 0 := by
  refine ac_fd.of (RX3, TX3, 9) rfl (by decide) aa_inW3 333 ?_ rfl rfl (by decide)
  rw [h]
  decide +kernel
theorem pt_3_6 : ac_pt 3 6 .int := ⟨(RX3, TX3, 9), tyX3, rfl, tyX3_ok, nmX3, rfl, by decide +kernel⟩
theorem fd_RX3_45 {M : ac_R} (h : M.1.cls = RX3) : ac_fd M 45 3 7 0 := by
  refine ac_fd.of (RX3, TX3, 9) rfl (by decide) aa_inW3 334 ?_ rfl rfl (by decide)
  rw [h]
  decide +kernel
theorem pt_3_7 : ac_pt 3 7 .int := ⟨(RX3, TX3, 9), tyX3, rfl, tyX3_ok, nmX3, rfl, by decide +kernel⟩
theorem fd_RX3_48 {M : ac_R} (h : M.1.cls = RX3) : ac_fd M 48 3 8 2 := by
  refine ac_fd.of (RX3, TX3, 9) rfl (by decide) aa_inW3 335 ?_ rfl rfl (by decide)
  rw [h]
  decide +kernel
theorem pt_3_8 : ac_pt 3 8 (.object "FrameCounty$Text") := ⟨(RX3, TX3, 9), tyX3, rfl, tyX3_ok, nmX3, rfl, by decide +kernel⟩
theorem ce_68 : ac_ce 68 0 ac_r68 := ⟨mk_68, by decide +kernel, aa_bw 481 (by decide +kernel) rfl, aa_bw 85 (by decide +kernel) rfl, ⟨by decide +kernel, by decide +kernel⟩, by decide +kernel⟩
theorem ci_68 : Cond.instanceMethod (ac_r68).1 ∈ aa_BW := aa_bw 479 (by decide +kernel) rfl
theorem cv_68 : Cond.selects (ac_r68).1.cls (ac_r68).1 (ac_r68).1 ∈ aa_BW := aa_bw 480 (by decide +kernel) rfl
theorem lk_RX3_52 : ac_lk RX3 52 (ac_r68).1 := Or.inl (aa_bw 478 (by decide +kernel) rfl)
theorem cx_RX3_52 {M : ac_R} (h : M.1.cls = RX3) : ac_cv M 52 68 0 1 6 ac_r68 := ⟨ce_68, by rw [h]; exact lk_RX3_52, ci_68, cv_68, rfl, by decide, (RX6, TX6, 4), rfl, rfl, by decide⟩
theorem ce_39 : ac_ce 39 1 ac_r39 := ⟨mk_39, by decide +kernel, aa_bw 485 (by decide +kernel) rfl, aa_bw 84 (by decide +kernel) rfl, ⟨by decide +kernel, by decide +kernel⟩, by decide +kernel⟩
theorem ci_39 : Cond.instanceMethod (ac_r39).1 ∈ aa_BW := aa_bw 484 (by decide +kernel) rfl
theorem cv_39 : Cond.selects (ac_r39).1.cls (ac_r39).1 (ac_r39).1 ∈ aa_BW := aa_bw 7 (by decide +kernel) rfl
theorem lk_RX3_57 : ac_lk RX3 57 (ac_r39).1 := Or.inl (aa_bw 482 (by decide +kernel) rfl)
theorem cx_RX3_57 {M : ac_R} (h : M.1.cls = RX3) : ac_cv M 57 39 1 2 3 ac_r39 := ⟨ce_39, by rw [h]; exact lk_RX3_57, ci_39, cv_39, rfl, by decide, (RX3, TX3, 9), rfl, rfl, by decide⟩
theorem ce_40 : ac_ce 40 1 ac_r40 := ⟨mk_40, by decide +kernel, aa_bw 497 (by decide +kernel) rfl, aa_bw 84 (by decide +kernel) rfl, ⟨by decide +kernel, by decide +kernel⟩, by decide +kernel⟩
theorem ci_40 : Cond.instanceMethod (ac_r40).1 ∈ aa_BW := aa_bw 496 (by decide +kernel) rfl
theorem cv_40 : Cond.selects (ac_r40).1.cls (ac_r40).1 (ac_r40).1 ∈ aa_BW := aa_bw 10 (by decide +kernel) rfl
theorem lk_RX3_61 : ac_lk RX3 61 (ac_r40).1 := Or.inl (aa_bw 494 (by decide +kernel) rfl)
theorem cx_RX3_61 {M : ac_R} (h : M.1.cls = RX3) : ac_cv M 61 40 1 3 3 ac_r40 := ⟨ce_40, by rw [h]; exact lk_RX3_61, ci_40, cv_40, rfl, by decide, (RX3, TX3, 9), rfl, rfl, by decide⟩
theorem ce_69 : ac_ce 69 0 ac_r69 := ⟨mk_69, by decide +kernel, aa_bw 534 (by decide +kernel) rfl, aa_bw 85 (by decide +kernel) rfl, ⟨by decide +kernel, by decide +kernel⟩, by decide +kernel⟩
theorem ci_69 : Cond.instanceMethod (ac_r69).1 ∈ aa_BW := aa_bw 532 (by decide +kernel) rfl
theorem cv_69 : Cond.selects (ac_r69).1.cls (ac_r69).1 (ac_r69).1 ∈ aa_BW := aa_bw 533 (by decide +kernel) rfl
theorem lk_RX3_64 : ac_lk RX3 64 (ac_r69).1 := Or.inl (aa_bw 531 (by decide +kernel) rfl)
theorem cx_RX3_64 {M : ac_R} (h : M.1.cls = RX3) : ac_cv M 64 69 0 1 6 ac_r69 := ⟨ce_69, by rw [h]; exact lk_RX3_64, ci_69, cv_69, rfl, by decide, (RX6, TX6, 4), rfl, rfl, by decide⟩
theorem ce_37 : ac_ce 37 0 ac_r37 := ⟨mk_37, by decide +kernel, aa_bw 489 (by decide +kernel) rfl, aa_bw 84 (by decide +kernel) rfl, ⟨by decide +kernel, by decide +kernel⟩, by decide +kernel⟩
theorem ci_37 : Cond.instanceMethod (ac_r37).1 ∈ aa_BW := aa_bw 488 (by decide +kernel) rfl
theorem cv_37 : Cond.selects (ac_r37).1.cls (ac_r37).1 (ac_r37).1 ∈ aa_BW := aa_bw 8 (by decide +kernel) rfl
theorem lk_RX3_67 : ac_lk RX3 67 (ac_r37).1 := Or.inl (aa_bw 486 (by decide +kernel) rfl)
theorem cx_RX3_67 {M : ac_R} (h : M.1.cls = RX3) : ac_cv M 67 37 0 1 3 ac_r37 := ⟨ce_37, by rw [h]; exact lk_RX3_67, ci_37, cv_37, rfl, by decide, (RX3, TX3, 9), rfl, rfl, by decide⟩
theorem ce_38 : ac_ce 38 0 ac_r38 := ⟨mk_38, by decide +kernel, aa_bw 493 (by decide +kernel) rfl, aa_bw 84 (by decide +kernel) rfl, ⟨by decide +kernel, by decide +kernel⟩, by decide +kernel⟩
theorem ci_38 : Cond.instanceMethod (ac_r38).1 ∈ aa_BW := aa_bw 492 (by decide +kernel) rfl
theorem cv_38 : Cond.selects (ac_r38).1.cls (ac_r38).1 (ac_r38).1 ∈ aa_BW := aa_bw 9 (by decide +kernel) rfl
theorem lk_RX3_70 : ac_lk RX3 70 (ac_r38).1 := Or.inl (aa_bw 490 (by decide +kernel) rfl)
theorem cx_RX3_70 {M : ac_R} (h : M.1.cls = RX3) : ac_cv M 70 38 0 1 3 ac_r38 := ⟨ce_38, by rw [h]; exact lk_RX3_70, ci_38, cv_38, rfl, by decide, (RX3, TX3, 9), rfl, rfl, by decide⟩
theorem fd_RX3_73 {M : ac_R} (h : M.1.cls = RX3) : ac_fd M 73 3 5 0 := by
  refine ac_fd.of (RX3, TX3, 9) rfl (by decide) aa_inW3 332 ?_ rfl rfl (by decide)
  rw [h]
  decide +kernel
theorem pt_3_5 : ac_pt 3 5 .int := ⟨(RX3, TX3, 9), tyX3, rfl, tyX3_ok, nmX3, rfl, by decide +kernel⟩
theorem ce_30 : ac_ce 30 2 ac_r30 := ⟨mk_30, by decide +kernel, aa_bw 440 (by decide +kernel) rfl, aa_bw 84 (by decide +kernel) rfl, ⟨by decide +kernel, by decide +kernel⟩, by decide +kernel⟩
theorem ci_30 : Cond.instanceMethod (ac_r30).1 ∈ aa_BW := aa_bw 439 (by decide +kernel) rfl
theorem cv_30 : Cond.selects (ac_r30).1.cls (ac_r30).1 (ac_r30).1 ∈ aa_BW := aa_bw 2 (by decide +kernel) rfl
theorem lk_RX3_76 : ac_lk RX3 76 (ac_r30).1 := Or.inl (aa_bw 437 (by decide +kernel) rfl)
theorem cx_RX3_76 {M : ac_R} (h : M.1.cls = RX3) : ac_cv M 76 30 2 5 3 ac_r30 := ⟨ce_30, by rw [h]; exact lk_RX3_76, ci_30, cv_30, rfl, by decide, (RX3, TX3, 9), rfl, rfl, by decide⟩
theorem ce_31 : ac_ce 31 1 ac_r31 := ⟨mk_31, by decide +kernel, aa_bw 444 (by decide +kernel) rfl, aa_bw 84 (by decide +kernel) rfl, ⟨by decide +kernel, by decide +kernel⟩, by decide +kernel⟩
theorem cs_31 : Cond.static (ac_r31).1 ∈ aa_BW := aa_bw 443 (by decide +kernel) rfl
theorem lk_RX3_80 : ac_lk RX3 80 (ac_r31).1 := Or.inl (aa_bw 442 (by decide +kernel) rfl)
theorem ce_32 : ac_ce 32 2 ac_r32 := ⟨mk_32, by decide +kernel, aa_bw 451 (by decide +kernel) rfl, aa_bw 84 (by decide +kernel) rfl, ⟨by decide +kernel, by decide +kernel⟩, by decide +kernel⟩
theorem ci_32 : Cond.instanceMethod (ac_r32).1 ∈ aa_BW := aa_bw 450 (by decide +kernel) rfl
theorem cv_32 : Cond.selects (ac_r32).1.cls (ac_r32).1 (ac_r32).1 ∈ aa_BW := aa_bw 3 (by decide +kernel) rfl
theorem lk_RX3_84 : ac_lk RX3 84 (ac_r32).1 := Or.inl (aa_bw 448 (by decide +kernel) rfl)
theorem cx_RX3_84 {M : ac_R} (h : M.1.cls = RX3) : ac_cv M 84 32 2 3 3 ac_r32 := ⟨ce_32, by rw [h]; exact lk_RX3_84, ci_32, cv_32, rfl, by decide, (RX3, TX3, 9), rfl, rfl, by decide⟩
theorem fd_RX3_15 {M : ac_R} (h : M.1.cls = RX3) : ac_fd M 15 3 2 1 := by
  refine ac_fd.of (RX3, TX3, 9) rfl (by decide) aa_inW3 329 ?_ rfl rfl (by decide)
  rw [h]
  decide +kernel
theorem fd_RX3_19 {M : ac_R} (h : M.1.cls = RX3) : ac_fd M 19 3 3 1 := by
  refine ac_fd.of (RX3, TX3, 9) rfl (by decide) aa_inW3 330 ?_ rfl rfl (by decide)
  rw [h]
  decide +kernel
theorem fd_RX3_22 {M : ac_R} (h : M.1.cls = RX3) : ac_fd M 22 3 4 1 := by
  refine ac_fd.of (RX3, TX3, 9) rfl (by decide) aa_inW3 331 ?_ rfl rfl (by decide)
  rw [h]
  decide +kernel
theorem ce_33 : ac_ce 33 2 ac_r33 := ⟨mk_33, by decide +kernel, aa_bw 477 (by decide +kernel) rfl, aa_bw 84 (by decide +kernel) rfl, ⟨by decide +kernel, by decide +kernel⟩, by decide +kernel⟩
theorem ci_33 : Cond.instanceMethod (ac_r33).1 ∈ aa_BW := aa_bw 476 (by decide +kernel) rfl
theorem cv_33 : Cond.selects (ac_r33).1.cls (ac_r33).1 (ac_r33).1 ∈ aa_BW := aa_bw 6 (by decide +kernel) rfl
theorem lk_RX3_87 : ac_lk RX3 87 (ac_r33).1 := Or.inl (aa_bw 474 (by decide +kernel) rfl)
theorem cx_RX3_87 {M : ac_R} (h : M.1.cls = RX3) : ac_cv M 87 33 2 5 3 ac_r33 := ⟨ce_33, by rw [h]; exact lk_RX3_87, ci_33, cv_33, rfl, by decide, (RX3, TX3, 9), rfl, rfl, by decide⟩
theorem mw_RX3_90 : ac_mw RX3 90 Lib.Math.min.name Lib.Math.min.code 2 := ⟨aa_bw 441 (by decide +kernel) rfl, aa_bw 117 (by decide +kernel) rfl, aa_bw 76 (by decide +kernel) rfl, aa_bw 118 (by decide +kernel) rfl⟩
theorem lk_RX3_95 : ac_lk RX3 95 (ac_r182).1 := Or.inr ⟨"FrameCounty", List.mem_of_getElem? (i := 5) rfl⟩
theorem ce_34 : ac_ce 34 2 ac_r34 := ⟨mk_34, by decide +kernel, aa_bw 455 (by decide +kernel) rfl, aa_bw 84 (by decide +kernel) rfl, ⟨by decide +kernel, by decide +kernel⟩, by decide +kernel⟩
theorem ci_34 : Cond.instanceMethod (ac_r34).1 ∈ aa_BW := aa_bw 454 (by decide +kernel) rfl
theorem cv_34 : Cond.selects (ac_r34).1.cls (ac_r34).1 (ac_r34).1 ∈ aa_BW := aa_bw 4 (by decide +kernel) rfl
theorem lk_RX3_99 : ac_lk RX3 99 (ac_r34).1 := Or.inl (aa_bw 452 (by decide +kernel) rfl)
theorem cx_RX3_99 {M : ac_R} (h : M.1.cls = RX3) : ac_cv M 99 34 2 4 3 ac_r34 := ⟨ce_34, by rw [h]; exact lk_RX3_99, ci_34, cv_34, rfl, by decide, (RX3, TX3, 9), rfl, rfl, by decide⟩
theorem ce_36 : ac_ce 36 1 ac_r36 := ⟨mk_36, by decide +kernel, aa_bw 458 (by decide +kernel) rfl, aa_bw 84 (by decide +kernel) rfl, ⟨by decide +kernel, by decide +kernel⟩, by decide +kernel⟩
theorem cs_36 : Cond.static (ac_r36).1 ∈ aa_BW := aa_bw 457 (by decide +kernel) rfl
theorem lk_RX3_102 : ac_lk RX3 102 (ac_r36).1 := Or.inl (aa_bw 456 (by decide +kernel) rfl)
theorem ce_35 : ac_ce 35 3 ac_r35 := ⟨mk_35, by decide +kernel, aa_bw 473 (by decide +kernel) rfl, aa_bw 84 (by decide +kernel) rfl, ⟨by decide +kernel, by decide +kernel⟩, by decide +kernel⟩
theorem ci_35 : Cond.instanceMethod (ac_r35).1 ∈ aa_BW := aa_bw 472 (by decide +kernel) rfl
theorem cv_35 : Cond.selects (ac_r35).1.cls (ac_r35).1 (ac_r35).1 ∈ aa_BW := aa_bw 5 (by decide +kernel) rfl
theorem lk_RX3_106 : ac_lk RX3 106 (ac_r35).1 := Or.inl (aa_bw 470 (by decide +kernel) rfl)
theorem cx_RX3_106 {M : ac_R} (h : M.1.cls = RX3) : ac_cv M 106 35 3 5 3 ac_r35 := ⟨ce_35, by rw [h]; exact lk_RX3_106, ci_35, cv_35, rfl, by decide, (RX3, TX3, 9), rfl, rfl, by decide⟩
theorem ce_41 : ac_ce 41 1 ac_r41 := ⟨mk_41, by decide +kernel, aa_bw 501 (by decide +kernel) rfl, aa_bw 84 (by decide +kernel) rfl, ⟨by decide +kernel, by decide +kernel⟩, by decide +kernel⟩
theorem ci_41 : Cond.instanceMethod (ac_r41).1 ∈ aa_BW := aa_bw 500 (by decide +kernel) rfl
theorem cv_41 : Cond.selects (ac_r41).1.cls (ac_r41).1 (ac_r41).1 ∈ aa_BW := aa_bw 11 (by decide +kernel) rfl
theorem lk_RX3_132 : ac_lk RX3 132 (ac_r41).1 := Or.inl (aa_bw 498 (by decide +kernel) rfl)
theorem cx_RX3_132 {M : ac_R} (h : M.1.cls = RX3) : ac_cv M 132 41 1 3 3 ac_r41 := ⟨ce_41, by rw [h]; exact lk_RX3_132, ci_41, cv_41, rfl, by decide, (RX3, TX3, 9), rfl, rfl, by decide⟩
theorem ce_70 : ac_ce 70 1 ac_r70 := ⟨mk_70, by decide +kernel, aa_bw 513 (by decide +kernel) rfl, aa_bw 85 (by decide +kernel) rfl, ⟨by decide +kernel, by decide +kernel⟩, by decide +kernel⟩
theorem ci_70 : Cond.instanceMethod (ac_r70).1 ∈ aa_BW := aa_bw 511 (by decide +kernel) rfl
theorem cv_70 : Cond.selects (ac_r70).1.cls (ac_r70).1 (ac_r70).1 ∈ aa_BW := aa_bw 512 (by decide +kernel) rfl
theorem lk_RX3_135 : ac_lk RX3 135 (ac_r70).1 := Or.inl (aa_bw 510 (by decide +kernel) rfl)
theorem cx_RX3_135 {M : ac_R} (h : M.1.cls = RX3) : ac_cv M 135 70 1 2 6 ac_r70 := ⟨ce_70, by rw [h]; exact lk_RX3_135, ci_70, cv_70, rfl, by decide, (RX6, TX6, 4), rfl, rfl, by decide⟩
theorem ce_42 : ac_ce 42 1 ac_r42 := ⟨mk_42, by decide +kernel, aa_bw 505 (by decide +kernel) rfl, aa_bw 84 (by decide +kernel) rfl, ⟨by decide +kernel, by decide +kernel⟩, by decide +kernel⟩
theorem ci_42 : Cond.instanceMethod (ac_r42).1 ∈ aa_BW := aa_bw 504 (by decide +kernel) rfl
theorem cv_42 : Cond.selects (ac_r42).1.cls (ac_r42).1 (ac_r42).1 ∈ aa_BW := aa_bw 12 (by decide +kernel) rfl
theorem lk_RX3_138 : ac_lk RX3 138 (ac_r42).1 := Or.inl (aa_bw 502 (by decide +kernel) rfl)
theorem cx_RX3_138 {M : ac_R} (h : M.1.cls = RX3) : ac_cv M 138 42 1 3 3 ac_r42 := ⟨ce_42, by rw [h]; exact lk_RX3_138, ci_42, cv_42, rfl, by decide, (RX3, TX3, 9), rfl, rfl, by decide⟩
theorem ce_46 : ac_ce 46 1 ac_r46 := ⟨mk_46, by decide +kernel, aa_bw 509 (by decide +kernel) rfl, aa_bw 84 (by decide +kernel) rfl, ⟨by decide +kernel, by decide +kernel⟩, by decide +kernel⟩
theorem ci_46 : Cond.instanceMethod (ac_r46).1 ∈ aa_BW := aa_bw 508 (by decide +kernel) rfl
theorem cv_46 : Cond.selects (ac_r46).1.cls (ac_r46).1 (ac_r46).1 ∈ aa_BW := aa_bw 13 (by decide +kernel) rfl
theorem lk_RX3_141 : ac_lk RX3 141 (ac_r46).1 := Or.inl (aa_bw 506 (by decide +kernel) rfl)
theorem cx_RX3_141 {M : ac_R} (h : M.1.cls = RX3) : ac_cv M 141 46 1 2 3 ac_r46 := ⟨ce_46, by rw [h]; exact lk_RX3_141, ci_46, cv_46, rfl, by decide, (RX3, TX3, 9), rfl, rfl, by decide⟩
theorem ce_43 : ac_ce 43 1 ac_r43 := ⟨mk_43, by decide +kernel, aa_bw 517 (by decide +kernel) rfl, aa_bw 84 (by decide +kernel) rfl, ⟨by decide +kernel, by decide +kernel⟩, by decide +kernel⟩
theorem ci_43 : Cond.instanceMethod (ac_r43).1 ∈ aa_BW := aa_bw 516 (by decide +kernel) rfl
theorem cv_43 : Cond.selects (ac_r43).1.cls (ac_r43).1 (ac_r43).1 ∈ aa_BW := aa_bw 14 (by decide +kernel) rfl
theorem lk_RX3_145 : ac_lk RX3 145 (ac_r43).1 := Or.inl (aa_bw 514 (by decide +kernel) rfl)
theorem cx_RX3_145 {M : ac_R} (h : M.1.cls = RX3) : ac_cv M 145 43 1 4 3 ac_r43 := ⟨ce_43, by rw [h]; exact lk_RX3_145, ci_43, cv_43, rfl, by decide, (RX3, TX3, 9), rfl, rfl, by decide⟩
theorem ce_44 : ac_ce 44 1 ac_r44 := ⟨mk_44, by decide +kernel, aa_bw 521 (by decide +kernel) rfl, aa_bw 84 (by decide +kernel) rfl, ⟨by decide +kernel, by decide +kernel⟩, by decide +kernel⟩
theorem ci_44 : Cond.instanceMethod (ac_r44).1 ∈ aa_BW := aa_bw 520 (by decide +kernel) rfl
theorem cv_44 : Cond.selects (ac_r44).1.cls (ac_r44).1 (ac_r44).1 ∈ aa_BW := aa_bw 15 (by decide +kernel) rfl
theorem lk_RX3_148 : ac_lk RX3 148 (ac_r44).1 := Or.inl (aa_bw 518 (by decide +kernel) rfl)
theorem cx_RX3_148 {M : ac_R} (h : M.1.cls = RX3) : ac_cv M 148 44 1 3 3 ac_r44 := ⟨ce_44, by rw [h]; exact lk_RX3_148, ci_44, cv_44, rfl, by decide, (RX3, TX3, 9), rfl, rfl, by decide⟩
theorem ce_45 : ac_ce 45 1 ac_r45 := ⟨mk_45, by decide +kernel, aa_bw 525 (by decide +kernel) rfl, aa_bw 84 (by decide +kernel) rfl, ⟨by decide +kernel, by decide +kernel⟩, by decide +kernel⟩
theorem ci_45 : Cond.instanceMethod (ac_r45).1 ∈ aa_BW := aa_bw 524 (by decide +kernel) rfl
theorem cv_45 : Cond.selects (ac_r45).1.cls (ac_r45).1 (ac_r45).1 ∈ aa_BW := aa_bw 16 (by decide +kernel) rfl
theorem lk_RX3_151 : ac_lk RX3 151 (ac_r45).1 := Or.inl (aa_bw 522 (by decide +kernel) rfl)
theorem cx_RX3_151 {M : ac_R} (h : M.1.cls = RX3) : ac_cv M 151 45 1 3 3 ac_r45 := ⟨ce_45, by rw [h]; exact lk_RX3_151, ci_45, cv_45, rfl, by decide, (RX3, TX3, 9), rfl, rfl, by decide⟩
theorem ce_71 : ac_ce 71 1 ac_r71 := ⟨mk_71, by decide +kernel, aa_bw 529 (by decide +kernel) rfl, aa_bw 85 (by decide +kernel) rfl, ⟨by decide +kernel, by decide +kernel⟩, by decide +kernel⟩
theorem ci_71 : Cond.instanceMethod (ac_r71).1 ∈ aa_BW := aa_bw 527 (by decide +kernel) rfl
theorem cv_71 : Cond.selects (ac_r71).1.cls (ac_r71).1 (ac_r71).1 ∈ aa_BW := aa_bw 528 (by decide +kernel) rfl
theorem lk_RX3_154 : ac_lk RX3 154 (ac_r71).1 := Or.inl (aa_bw 526 (by decide +kernel) rfl)
theorem cx_RX3_154 {M : ac_R} (h : M.1.cls = RX3) : ac_cv M 154 71 1 2 6 ac_r71 := ⟨ce_71, by rw [h]; exact lk_RX3_154, ci_71, cv_71, rfl, by decide, (RX6, TX6, 4), rfl, rfl, by decide⟩
theorem lk_RX4_32 : ac_lk RX4 32 (ac_r182).1 := Or.inr ⟨"FrameCounty", List.mem_of_getElem? (i := 6) rfl⟩
theorem fd_RX4_11 {M : ac_R} (h : M.1.cls = RX4) : ac_fd M 11 4 0 1 := by
  refine ac_fd.of (RX4, TX4, 3) rfl (by decide) aa_inW4 119 ?_ rfl rfl (by decide)
  rw [h]
  decide +kernel
theorem fd_RX4_16 {M : ac_R} (h : M.1.cls = RX4) : ac_fd M 16 4 1 1 := by
  refine ac_fd.of (RX4, TX4, 3) rfl (by decide) aa_inW4 120 ?_ rfl rfl (by decide)
  rw [h]
  decide +kernel
theorem ce_54 : ac_ce 54 2 ac_r54 := ⟨mk_54, by decide +kernel, aa_bw 115 (by decide +kernel) rfl, aa_bw 74 (by decide +kernel) rfl, ⟨by decide +kernel, by decide +kernel⟩, by decide +kernel⟩
theorem ci_54 : Cond.instanceMethod (ac_r54).1 ∈ aa_BW := aa_bw 114 (by decide +kernel) rfl
theorem cv_54 : Cond.selects (ac_r54).1.cls (ac_r54).1 (ac_r54).1 ∈ aa_BW := aa_bw 0 (by decide +kernel) rfl
theorem lk_RX4_28 : ac_lk RX4 28 (ac_r54).1 := Or.inl (aa_bw 112 (by decide +kernel) rfl)
theorem cx_RX4_28 {M : ac_R} (h : M.1.cls = RX4) : ac_cv M 28 54 2 6 4 ac_r54 := ⟨ce_54, by rw [h]; exact lk_RX4_28, ci_54, cv_54, rfl, by decide, (RX4, TX4, 3), rfl, rfl, by decide⟩
theorem fd_RX4_19 {M : ac_R} (h : M.1.cls = RX4) : ac_fd M 19 4 2 1 := by
  refine ac_fd.of (RX4, TX4, 3) rfl (by decide) aa_inW4 121 ?_ rfl rfl (by decide)
  rw [h]
  decide +kernel
theorem ce_51 : ac_ce 51 3 ac_r51 := ⟨mk_51, by decide +kernel, aa_bw 608 (by decide +kernel) rfl, aa_bw 74 (by decide +kernel) rfl, ⟨by decide +kernel, by decide +kernel⟩, by decide +kernel⟩
theorem ci_51 : Cond.instanceMethod (ac_r51).1 ∈ aa_BW := aa_bw 606 (by decide +kernel) rfl
theorem cv_51 : Cond.selects (ac_r51).1.cls (ac_r51).1 (ac_r51).1 ∈ aa_BW := aa_bw 607 (by decide +kernel) rfl
theorem lk_RX4_36 : ac_lk RX4 36 (ac_r51).1 := Or.inl (aa_bw 802 (by decide +kernel) rfl)
theorem cx_RX4_36 {M : ac_R} (h : M.1.cls = RX4) : ac_cv M 36 51 3 5 4 ac_r51 := ⟨ce_51, by rw [h]; exact lk_RX4_36, ci_51, cv_51, rfl, by decide, (RX4, TX4, 3), rfl, rfl, by decide⟩
theorem ce_52 : ac_ce 52 4 ac_r52 := ⟨mk_52, by decide +kernel, aa_bw 801 (by decide +kernel) rfl, aa_bw 74 (by decide +kernel) rfl, ⟨by decide +kernel, by decide +kernel⟩, by decide +kernel⟩
theorem ci_52 : Cond.instanceMethod (ac_r52).1 ∈ aa_BW := aa_bw 799 (by decide +kernel) rfl
theorem cv_52 : Cond.selects (ac_r52).1.cls (ac_r52).1 (ac_r52).1 ∈ aa_BW := aa_bw 800 (by decide +kernel) rfl
theorem lk_RX4_40 : ac_lk RX4 40 (ac_r52).1 := Or.inl (aa_bw 1027 (by decide +kernel) rfl)
theorem cx_RX4_40 {M : ac_R} (h : M.1.cls = RX4) : ac_cv M 40 52 4 6 4 ac_r52 := ⟨ce_52, by rw [h]; exact lk_RX4_40, ci_52, cv_52, rfl, by decide, (RX4, TX4, 3), rfl, rfl, by decide⟩
theorem mw_RX4_44 : ac_mw RX4 44 Lib.Math.min.name Lib.Math.min.code 2 := ⟨aa_bw 116 (by decide +kernel) rfl, aa_bw 117 (by decide +kernel) rfl, aa_bw 76 (by decide +kernel) rfl, aa_bw 118 (by decide +kernel) rfl⟩
theorem lk_RX5_29 : ac_lk RX5 29 (ac_r182).1 := Or.inr ⟨"FrameCounty", List.mem_of_getElem? (i := 12) rfl⟩
theorem fd_RX5_9 {M : ac_R} (h : M.1.cls = RX5) : ac_fd M 9 5 0 1 := by
  refine ac_fd.of (RX5, TX5, 3) rfl (by decide) aa_inW5 311 ?_ rfl rfl (by decide)
  rw [h]
  decide +kernel
theorem fd_RX5_15 {M : ac_R} (h : M.1.cls = RX5) : ac_fd M 15 5 1 1 := by
  refine ac_fd.of (RX5, TX5, 3) rfl (by decide) aa_inW5 312 ?_ rfl rfl (by decide)
  rw [h]
  decide +kernel
theorem fd_RX5_20 {M : ac_R} (h : M.1.cls = RX5) : ac_fd M 20 5 2 1 := by
  refine ac_fd.of (RX5, TX5, 3) rfl (by decide) aa_inW5 313 ?_ rfl rfl (by decide)
  rw [h]
  decide +kernel
theorem ce_299 : ac_ce 299 2 ac_r299 := ⟨mk_299, by decide +kernel, aa_bw 111 (by decide +kernel) rfl, aa_bw 75 (by decide +kernel) rfl, ⟨by decide +kernel, by decide +kernel⟩, by decide +kernel⟩
theorem cs_299 : Cond.static (ac_r299).1 ∈ aa_BW := aa_bw 110 (by decide +kernel) rfl
theorem lk_RX5_23 : ac_lk RX5 23 (ac_r299).1 := Or.inl (aa_bw 310 (by decide +kernel) rfl)
theorem fd_RX6_18 {M : ac_R} (h : M.1.cls = RX6) : ac_fd M 18 6 2 0 := by
  refine ac_fd.of (RX6, TX6, 4) rfl (by decide) aa_inW6 365 ?_ rfl rfl (by decide)
  rw [h]
  decide +kernel
theorem pt_6_2 : ac_pt 6 2 .int := ⟨(RX6, TX6, 4), tyX6, rfl, tyX6_ok, nmX6, rfl, by decide +kernel⟩
theorem fd_RX6_22 {M : ac_R} (h : M.1.cls = RX6) : ac_fd M 22 6 3 0 := by
  refine ac_fd.of (RX6, TX6, 4) rfl (by decide) aa_inW6 366 ?_ rfl rfl (by decide)
  rw [h]
  decide +kernel
theorem pt_6_3 : ac_pt 6 3 .int := ⟨(RX6, TX6, 4), tyX6, rfl, tyX6_ok, nmX6, rfl, by decide +kernel⟩
theorem fd_RX6_11 {M : ac_R} (h : M.1.cls = RX6) : ac_fd M 11 6 0 1 := by
  refine ac_fd.of (RX6, TX6, 4) rfl (by decide) aa_inW6 363 ?_ rfl rfl (by decide)
  rw [h]
  decide +kernel
theorem lk_RX6_25 : ac_lk RX6 25 (ac_r70).1 := Or.inl (aa_bw 530 (by decide +kernel) rfl)
theorem cx_RX6_25 {M : ac_R} (h : M.1.cls = RX6) : ac_cv M 25 70 1 2 6 ac_r70 := ⟨ce_70, by rw [h]; exact lk_RX6_25, ci_70, cv_70, rfl, by decide, (RX6, TX6, 4), rfl, rfl, by decide⟩
theorem ce_74 : ac_ce 74 3 ac_r74 := ⟨mk_74, by decide +kernel, aa_bw 722 (by decide +kernel) rfl, aa_bw 85 (by decide +kernel) rfl, ⟨by decide +kernel, by decide +kernel⟩, by decide +kernel⟩
theorem ci_74 : Cond.instanceMethod (ac_r74).1 ∈ aa_BW := aa_bw 721 (by decide +kernel) rfl
theorem cv_74 : Cond.selects (ac_r74).1.cls (ac_r74).1 (ac_r74).1 ∈ aa_BW := aa_bw 20 (by decide +kernel) rfl
theorem lk_RX6_29 : ac_lk RX6 29 (ac_r74).1 := Or.inl (aa_bw 719 (by decide +kernel) rfl)
theorem cx_RX6_29 {M : ac_R} (h : M.1.cls = RX6) : ac_cv M 29 74 3 8 6 ac_r74 := ⟨ce_74, by rw [h]; exact lk_RX6_29, ci_74, cv_74, rfl, by decide, (RX6, TX6, 4), rfl, rfl, by decide⟩
theorem fd_RX6_15 {M : ac_R} (h : M.1.cls = RX6) : ac_fd M 15 6 1 1 := by
  refine ac_fd.of (RX6, TX6, 4) rfl (by decide) aa_inW6 364 ?_ rfl rfl (by decide)
  rw [h]
  decide +kernel
theorem ce_75 : ac_ce 75 2 ac_r75 := ⟨mk_75, by decide +kernel, aa_bw 725 (by decide +kernel) rfl, aa_bw 85 (by decide +kernel) rfl, ⟨by decide +kernel, by decide +kernel⟩, by decide +kernel⟩
theorem cs_75 : Cond.static (ac_r75).1 ∈ aa_BW := aa_bw 724 (by decide +kernel) rfl
theorem lk_RX6_33 : ac_lk RX6 33 (ac_r75).1 := Or.inl (aa_bw 723 (by decide +kernel) rfl)
theorem ce_76 : ac_ce 76 2 ac_r76 := ⟨mk_76, by decide +kernel, aa_bw 729 (by decide +kernel) rfl, aa_bw 85 (by decide +kernel) rfl, ⟨by decide +kernel, by decide +kernel⟩, by decide +kernel⟩
theorem cs_76 : Cond.static (ac_r76).1 ∈ aa_BW := aa_bw 728 (by decide +kernel) rfl
theorem lk_RX6_37 : ac_lk RX6 37 (ac_r76).1 := Or.inl (aa_bw 727 (by decide +kernel) rfl)
theorem ce_77 : ac_ce 77 3 ac_r77 := ⟨mk_77, by decide +kernel, aa_bw 735 (by decide +kernel) rfl, aa_bw 85 (by decide +kernel) rfl, ⟨by decide +kernel, by decide +kernel⟩, by decide +kernel⟩
theorem cs_77 : Cond.static (ac_r77).1 ∈ aa_BW := aa_bw 734 (by decide +kernel) rfl
theorem lk_RX6_41 : ac_lk RX6 41 (ac_r77).1 := Or.inl (aa_bw 733 (by decide +kernel) rfl)
theorem lk_RX6_45 : ac_lk RX6 45 (ac_r182).1 := Or.inr ⟨"FrameCounty", List.mem_of_getElem? (i := 8) rfl⟩
theorem ce_78 : ac_ce 78 1 ac_r78 := ⟨mk_78, by decide +kernel, aa_bw 732 (by decide +kernel) rfl, aa_bw 85 (by decide +kernel) rfl, ⟨by decide +kernel, by decide +kernel⟩, by decide +kernel⟩
theorem cs_78 : Cond.static (ac_r78).1 ∈ aa_BW := aa_bw 731 (by decide +kernel) rfl
theorem lk_RX6_49 : ac_lk RX6 49 (ac_r78).1 := Or.inl (aa_bw 730 (by decide +kernel) rfl)
theorem fd_RX7_53 {M : ac_R} (h : M.1.cls = RX7) : ac_fd M 53 7 2 0 := by
  refine ac_fd.of (RX7, TX7, 16) rfl (by decide) aa_inW7 197 ?_ rfl rfl (by decide)
  rw [h]
  decide +kernel
theorem lk_RX7_57 : ac_lk RX7 57 (ac_r182).1 := Or.inr ⟨"FrameCounty", List.mem_of_getElem? (i := 9) rfl⟩
theorem fd_RX7_61 {M : ac_R} (h : M.1.cls = RX7) : ac_fd M 61 7 4 0 := by
  refine ac_fd.of (RX7, TX7, 16) rfl (by decide) aa_inW7 199 ?_ rfl rfl (by decide)
  rw [h]
  decide +kernel
theorem fd_RX7_64 {M : ac_R} (h : M.1.cls = RX7) : ac_fd M 64 7 10 0 := by
  refine ac_fd.of (RX7, TX7, 16) rfl (by decide) aa_inW7 205 ?_ rfl rfl (by decide)
  rw [h]
  decide +kernel
theorem fd_RX7_9 {M : ac_R} (h : M.1.cls = RX7) : ac_fd M 9 7 3 1 := by
  refine ac_fd.of (RX7, TX7, 16) rfl (by decide) aa_inW7 198 ?_ rfl rfl (by decide)
  rw [h]
  decide +kernel
theorem pt_7_2 : ac_pt 7 2 .int := ⟨(RX7, TX7, 16), tyX7, rfl, tyX7_ok, nmX7, rfl, by decide +kernel⟩
theorem fd_RX7_15 {M : ac_R} (h : M.1.cls = RX7) : ac_fd M 15 7 5 1 := by
  refine ac_fd.of (RX7, TX7, 16) rfl (by decide) aa_inW7 200 ?_ rfl rfl (by decide)
  rw [h]
  decide +kernel
theorem fd_RX7_18 {M : ac_R} (h : M.1.cls = RX7) : ac_fd M 18 7 6 1 := by
  refine ac_fd.of (RX7, TX7, 16) rfl (by decide) aa_inW7 201 ?_ rfl rfl (by decide)
  rw [h]
  decide +kernel
theorem fd_RX7_21 {M : ac_R} (h : M.1.cls = RX7) : ac_fd M 21 7 7 1 := by
  refine ac_fd.of (RX7, TX7, 16) rfl (by decide) aa_inW7 202 ?_ rfl rfl (by decide)
  rw [h]
  decide +kernel
theorem fd_RX7_24 {M : ac_R} (h : M.1.cls = RX7) : ac_fd M 24 7 8 1 := by
  refine ac_fd.of (RX7, TX7, 16) rfl (by decide) aa_inW7 203 ?_ rfl rfl (by decide)
  rw [h]
  decide +kernel
theorem fd_RX7_27 {M : ac_R} (h : M.1.cls = RX7) : ac_fd M 27 7 9 1 := by
  refine ac_fd.of (RX7, TX7, 16) rfl (by decide) aa_inW7 204 ?_ rfl rfl (by decide)
  rw [h]
  decide +kernel
theorem pt_7_4 : ac_pt 7 4 .int := ⟨(RX7, TX7, 16), tyX7, rfl, tyX7_ok, nmX7, rfl, by decide +kernel⟩
theorem fd_RX7_30 {M : ac_R} (h : M.1.cls = RX7) : ac_fd M 30 7 11 1 := by
  refine ac_fd.of (RX7, TX7, 16) rfl (by decide) aa_inW7 206 ?_ rfl rfl (by decide)
  rw [h]
  decide +kernel
theorem fd_RX7_33 {M : ac_R} (h : M.1.cls = RX7) : ac_fd M 33 7 12 1 := by
  refine ac_fd.of (RX7, TX7, 16) rfl (by decide) aa_inW7 207 ?_ rfl rfl (by decide)
  rw [h]
  decide +kernel
theorem fd_RX7_36 {M : ac_R} (h : M.1.cls = RX7) : ac_fd M 36 7 13 1 := by
  refine ac_fd.of (RX7, TX7, 16) rfl (by decide) aa_inW7 208 ?_ rfl rfl (by decide)
  rw [h]
  decide +kernel
theorem fd_RX7_39 {M : ac_R} (h : M.1.cls = RX7) : ac_fd M 39 7 14 1 := by
  refine ac_fd.of (RX7, TX7, 16) rfl (by decide) aa_inW7 209 ?_ rfl rfl (by decide)
  rw [h]
  decide +kernel
theorem fd_RX7_42 {M : ac_R} (h : M.1.cls = RX7) : ac_fd M 42 7 15 1 := by
  refine ac_fd.of (RX7, TX7, 16) rfl (by decide) aa_inW7 210 ?_ rfl rfl (by decide)
  rw [h]
  decide +kernel
theorem pt_7_10 : ac_pt 7 10 .int := ⟨(RX7, TX7, 16), tyX7, rfl, tyX7_ok, nmX7, rfl, by decide +kernel⟩
theorem fd_RX7_45 {M : ac_R} (h : M.1.cls = RX7) : ac_fd M 45 7 0 1 := by
  refine ac_fd.of (RX7, TX7, 16) rfl (by decide) aa_inW7 195 ?_ rfl rfl (by decide)
  rw [h]
  decide +kernel
theorem lk_RX7_67 : ac_lk RX7 67 (ac_r52).1 := Or.inl (aa_bw 798 (by decide +kernel) rfl)
theorem cx_RX7_67 {M : ac_R} (h : M.1.cls = RX7) : ac_cv M 67 52 4 6 4 ac_r52 := ⟨ce_52, by rw [h]; exact lk_RX7_67, ci_52, cv_52, rfl, by decide, (RX4, TX4, 3), rfl, rfl, by decide⟩
theorem mw_RX7_73 : ac_mw RX7 73 Lib.Math.abs.name Lib.Math.abs.code 1 := ⟨aa_bw 803 (by decide +kernel) rfl, aa_bw 804 (by decide +kernel) rfl, aa_bw 76 (by decide +kernel) rfl, aa_bw 805 (by decide +kernel) rfl⟩
theorem fd_RX7_49 {M : ac_R} (h : M.1.cls = RX7) : ac_fd M 49 7 1 1 := by
  refine ac_fd.of (RX7, TX7, 16) rfl (by decide) aa_inW7 196 ?_ rfl rfl (by decide)
  rw [h]
  decide +kernel
theorem ce_21 : ac_ce 21 1 ac_r21 := ⟨mk_21, by decide +kernel, aa_bw 780 (by decide +kernel) rfl, aa_bw 78 (by decide +kernel) rfl, ⟨by decide +kernel, by decide +kernel⟩, by decide +kernel⟩
theorem ci_21 : Cond.instanceMethod (ac_r21).1 ∈ aa_BW := aa_bw 778 (by decide +kernel) rfl
theorem cv_21 : Cond.selects (ac_r21).1.cls (ac_r21).1 (ac_r21).1 ∈ aa_BW := aa_bw 779 (by decide +kernel) rfl
theorem lk_RX7_79 : ac_lk RX7 79 (ac_r21).1 := Or.inl (aa_bw 777 (by decide +kernel) rfl)
theorem cx_RX7_79 {M : ac_R} (h : M.1.cls = RX7) : ac_cv M 79 21 1 2 2 ac_r21 := ⟨ce_21, by rw [h]; exact lk_RX7_79, ci_21, cv_21, rfl, by decide, (RX2, TX2, 5), rfl, rfl, by decide⟩
theorem ce_22 : ac_ce 22 1 ac_r22 := ⟨mk_22, by decide +kernel, aa_bw 789 (by decide +kernel) rfl, aa_bw 78 (by decide +kernel) rfl, ⟨by decide +kernel, by decide +kernel⟩, by decide +kernel⟩
theorem ci_22 : Cond.instanceMethod (ac_r22).1 ∈ aa_BW := aa_bw 787 (by decide +kernel) rfl
theorem cv_22 : Cond.selects (ac_r22).1.cls (ac_r22).1 (ac_r22).1 ∈ aa_BW := aa_bw 788 (by decide +kernel) rfl
theorem lk_RX7_84 : ac_lk RX7 84 (ac_r22).1 := Or.inl (aa_bw 786 (by decide +kernel) rfl)
theorem cx_RX7_84 {M : ac_R} (h : M.1.cls = RX7) : ac_cv M 84 22 1 2 2 ac_r22 := ⟨ce_22, by rw [h]; exact lk_RX7_84, ci_22, cv_22, rfl, by decide, (RX2, TX2, 5), rfl, rfl, by decide⟩
theorem ce_23 : ac_ce 23 1 ac_r23 := ⟨mk_23, by decide +kernel, aa_bw 793 (by decide +kernel) rfl, aa_bw 78 (by decide +kernel) rfl, ⟨by decide +kernel, by decide +kernel⟩, by decide +kernel⟩
theorem ci_23 : Cond.instanceMethod (ac_r23).1 ∈ aa_BW := aa_bw 791 (by decide +kernel) rfl
theorem cv_23 : Cond.selects (ac_r23).1.cls (ac_r23).1 (ac_r23).1 ∈ aa_BW := aa_bw 792 (by decide +kernel) rfl
theorem lk_RX7_87 : ac_lk RX7 87 (ac_r23).1 := Or.inl (aa_bw 790 (by decide +kernel) rfl)
theorem cx_RX7_87 {M : ac_R} (h : M.1.cls = RX7) : ac_cv M 87 23 1 2 2 ac_r23 := ⟨ce_23, by rw [h]; exact lk_RX7_87, ci_23, cv_23, rfl, by decide, (RX2, TX2, 5), rfl, rfl, by decide⟩
theorem ce_87 : ac_ce 87 5 ac_r87 := ⟨mk_87, by decide +kernel, aa_bw 797 (by decide +kernel) rfl, aa_bw 79 (by decide +kernel) rfl, ⟨by decide +kernel, by decide +kernel⟩, by decide +kernel⟩
theorem ci_87 : Cond.instanceMethod (ac_r87).1 ∈ aa_BW := aa_bw 795 (by decide +kernel) rfl
theorem cv_87 : Cond.selects (ac_r87).1.cls (ac_r87).1 (ac_r87).1 ∈ aa_BW := aa_bw 796 (by decide +kernel) rfl
theorem lk_RX7_90 : ac_lk RX7 90 (ac_r87).1 := Or.inl (aa_bw 794 (by decide +kernel) rfl)
theorem cx_RX7_90 {M : ac_R} (h : M.1.cls = RX7) : ac_cv M 90 87 5 9 7 ac_r87 := ⟨ce_87, by rw [h]; exact lk_RX7_90, ci_87, cv_87, rfl, by decide, (RX7, TX7, 16), rfl, rfl, by decide⟩
theorem ce_88 : ac_ce 88 3 ac_r88 := ⟨mk_88, by decide +kernel, aa_bw 776 (by decide +kernel) rfl, aa_bw 79 (by decide +kernel) rfl, ⟨by decide +kernel, by decide +kernel⟩, by decide +kernel⟩
theorem ci_88 : Cond.instanceMethod (ac_r88).1 ∈ aa_BW := aa_bw 775 (by decide +kernel) rfl
theorem cv_88 : Cond.selects (ac_r88).1.cls (ac_r88).1 (ac_r88).1 ∈ aa_BW := aa_bw 21 (by decide +kernel) rfl
theorem lk_RX7_94 : ac_lk RX7 94 (ac_r88).1 := Or.inl (aa_bw 773 (by decide +kernel) rfl)
theorem cx_RX7_94 {M : ac_R} (h : M.1.cls = RX7) : ac_cv M 94 88 3 4 7 ac_r88 := ⟨ce_88, by rw [h]; exact lk_RX7_94, ci_88, cv_88, rfl, by decide, (RX7, TX7, 16), rfl, rfl, by decide⟩
theorem fd_RX8_18 {M : ac_R} (h : M.1.cls = RX8) : ac_fd M 18 8 0 0 := by
  refine ac_fd.of (RX8, TX8, 2) rfl (by decide) aa_inW8 296 ?_ rfl rfl (by decide)
  rw [h]
  decide +kernel
theorem fd_RX8_11 {M : ac_R} (h : M.1.cls = RX8) : ac_fd M 11 8 1 1 := by
  refine ac_fd.of (RX8, TX8, 2) rfl (by decide) aa_inW8 297 ?_ rfl rfl (by decide)
  rw [h]
  decide +kernel
theorem pt_8_0 : ac_pt 8 0 .int := ⟨(RX8, TX8, 2), tyX8, rfl, tyX8_ok, nmX8, rfl, by decide +kernel⟩
theorem ce_100 : ac_ce 100 2 ac_r100 := ⟨mk_100, by decide +kernel, aa_bw 1094 (by decide +kernel) rfl, aa_bw 82 (by decide +kernel) rfl, ⟨by decide +kernel, by decide +kernel⟩, by decide +kernel⟩
theorem ci_100 : Cond.instanceMethod (ac_r100).1 ∈ aa_BW := aa_bw 1092 (by decide +kernel) rfl
theorem cv_100 : Cond.selects (ac_r100).1.cls (ac_r100).1 (ac_r100).1 ∈ aa_BW := aa_bw 1093 (by decide +kernel) rfl
theorem lk_RX8_28 : ac_lk RX8 28 (ac_r100).1 := Or.inl (aa_bw 1091 (by decide +kernel) rfl)
theorem cx_RX8_28 {M : ac_R} (h : M.1.cls = RX8) : ac_cv M 28 100 2 5 8 ac_r100 := ⟨ce_100, by rw [h]; exact lk_RX8_28, ci_100, cv_100, rfl, by decide, (RX8, TX8, 2), rfl, rfl, by decide⟩
theorem ce_102 : ac_ce 102 2 ac_r102 := ⟨mk_102, by decide +kernel, aa_bw 1109 (by decide +kernel) rfl, aa_bw 82 (by decide +kernel) rfl, ⟨by decide +kernel, by decide +kernel⟩, by decide +kernel⟩
theorem cs_102 : Cond.static (ac_r102).1 ∈ aa_BW := aa_bw 1108 (by decide +kernel) rfl
theorem lk_RX8_32 : ac_lk RX8 32 (ac_r102).1 := Or.inl (aa_bw 1107 (by decide +kernel) rfl)
theorem ce_101 : ac_ce 101 3 ac_r101 := ⟨mk_101, by decide +kernel, aa_bw 1098 (by decide +kernel) rfl, aa_bw 82 (by decide +kernel) rfl, ⟨by decide +kernel, by decide +kernel⟩, by decide +kernel⟩
theorem ci_101 : Cond.instanceMethod (ac_r101).1 ∈ aa_BW := aa_bw 1097 (by decide +kernel) rfl
theorem cv_101 : Cond.selects (ac_r101).1.cls (ac_r101).1 (ac_r101).1 ∈ aa_BW := aa_bw 35 (by decide +kernel) rfl
theorem lk_RX8_35 : ac_lk RX8 35 (ac_r101).1 := Or.inl (aa_bw 1095 (by decide +kernel) rfl)
theorem cx_RX8_35 {M : ac_R} (h : M.1.cls = RX8) : ac_cv M 35 101 3 9 8 ac_r101 := ⟨ce_101, by rw [h]; exact lk_RX8_35, ci_101, cv_101, rfl, by decide, (RX8, TX8, 2), rfl, rfl, by decide⟩
theorem mw_RX8_39 : ac_mw RX8 39 Lib.Math.max.name Lib.Math.max.code 2 := ⟨aa_bw 1104 (by decide +kernel) rfl, aa_bw 1105 (by decide +kernel) rfl, aa_bw 76 (by decide +kernel) rfl, aa_bw 1106 (by decide +kernel) rfl⟩
theorem ce_98 : ac_ce 98 3 ac_r98 := ⟨mk_98, by decide +kernel, aa_bw 1101 (by decide +kernel) rfl, aa_bw 82 (by decide +kernel) rfl, ⟨by decide +kernel, by decide +kernel⟩, by decide +kernel⟩
theorem cs_98 : Cond.static (ac_r98).1 ∈ aa_BW := aa_bw 1100 (by decide +kernel) rfl
theorem lk_RX8_44 : ac_lk RX8 44 (ac_r98).1 := Or.inl (aa_bw 1099 (by decide +kernel) rfl)
theorem lk_RX9_36 : ac_lk RX9 36 (ac_r182).1 := Or.inr ⟨"FrameCounty", List.mem_of_getElem? (i := 7) rfl⟩
theorem fd_RX9_40 {M : ac_R} (h : M.1.cls = RX9) : ac_fd M 40 9 0 0 := by
  refine ac_fd.of (RX9, TX9, 10) rfl (by decide) aa_inW9 136 ?_ rfl rfl (by decide)
  rw [h]
  decide +kernel
theorem fd_RX9_44 {M : ac_R} (h : M.1.cls = RX9) : ac_fd M 44 9 3 0 := by
  refine ac_fd.of (RX9, TX9, 10) rfl (by decide) aa_inW9 139 ?_ rfl rfl (by decide)
  rw [h]
  decide +kernel
theorem fd_RX9_9 {M : ac_R} (h : M.1.cls = RX9) : ac_fd M 9 9 1 1 := by
  refine ac_fd.of (RX9, TX9, 10) rfl (by decide) aa_inW9 137 ?_ rfl rfl (by decide)
  rw [h]
  decide +kernel
theorem fd_RX9_15 {M : ac_R} (h : M.1.cls = RX9) : ac_fd M 15 9 2 1 := by
  refine ac_fd.of (RX9, TX9, 10) rfl (by decide) aa_inW9 138 ?_ rfl rfl (by decide)
  rw [h]
  decide +kernel
theorem fd_RX9_18 {M : ac_R} (h : M.1.cls = RX9) : ac_fd M 18 9 4 1 := by
  refine ac_fd.of (RX9, TX9, 10) rfl (by decide) aa_inW9 140 ?_ rfl rfl (by decide)
  rw [h]
  decide +kernel
theorem fd_RX9_21 {M : ac_R} (h : M.1.cls = RX9) : ac_fd M 21 9 5 1 := by
  refine ac_fd.of (RX9, TX9, 10) rfl (by decide) aa_inW9 141 ?_ rfl rfl (by decide)
  rw [h]
  decide +kernel
theorem fd_RX9_24 {M : ac_R} (h : M.1.cls = RX9) : ac_fd M 24 9 6 1 := by
  refine ac_fd.of (RX9, TX9, 10) rfl (by decide) aa_inW9 142 ?_ rfl rfl (by decide)
  rw [h]
  decide +kernel
theorem fd_RX9_30 {M : ac_R} (h : M.1.cls = RX9) : ac_fd M 30 9 8 1 := by
  refine ac_fd.of (RX9, TX9, 10) rfl (by decide) aa_inW9 144 ?_ rfl rfl (by decide)
  rw [h]
  decide +kernel
theorem pt_9_0 : ac_pt 9 0 .int := ⟨(RX9, TX9, 10), tyX9, rfl, tyX9_ok, nmX9, rfl, by decide +kernel⟩
theorem fd_RX9_27 {M : ac_R} (h : M.1.cls = RX9) : ac_fd M 27 9 7 1 := by
  refine ac_fd.of (RX9, TX9, 10) rfl (by decide) aa_inW9 143 ?_ rfl rfl (by decide)
  rw [h]
  decide +kernel
theorem pt_9_3 : ac_pt 9 3 .int := ⟨(RX9, TX9, 10), tyX9, rfl, tyX9_ok, nmX9, rfl, by decide +kernel⟩
theorem ce_126 : ac_ce 126 1 ac_r126 := ⟨mk_126, by decide +kernel, aa_bw 662 (by decide +kernel) rfl, aa_bw 77 (by decide +kernel) rfl, ⟨by decide +kernel, by decide +kernel⟩, by decide +kernel⟩
theorem ci_126 : Cond.instanceMethod (ac_r126).1 ∈ aa_BW := aa_bw 661 (by decide +kernel) rfl
theorem cv_126 : Cond.selects (ac_r126).1.cls (ac_r126).1 (ac_r126).1 ∈ aa_BW := aa_bw 17 (by decide +kernel) rfl
theorem lk_RX9_47 : ac_lk RX9 47 (ac_r126).1 := Or.inl (aa_bw 659 (by decide +kernel) rfl)
theorem cx_RX9_47 {M : ac_R} (h : M.1.cls = RX9) : ac_cv M 47 126 1 3 9 ac_r126 := ⟨ce_126, by rw [h]; exact lk_RX9_47, ci_126, cv_126, rfl, by decide, (RX9, TX9, 10), rfl, rfl, by decide⟩
theorem ce_125 : ac_ce 125 1 ac_r125 := ⟨mk_125, by decide +kernel, aa_bw 666 (by decide +kernel) rfl, aa_bw 77 (by decide +kernel) rfl, ⟨by decide +kernel, by decide +kernel⟩, by decide +kernel⟩
theorem ci_125 : Cond.instanceMethod (ac_r125).1 ∈ aa_BW := aa_bw 664 (by decide +kernel) rfl
theorem cv_125 : Cond.selects (ac_r125).1.cls (ac_r125).1 (ac_r125).1 ∈ aa_BW := aa_bw 665 (by decide +kernel) rfl
theorem lk_RX9_51 : ac_lk RX9 51 (ac_r125).1 := Or.inl (aa_bw 663 (by decide +kernel) rfl)
theorem cx_RX9_51 {M : ac_R} (h : M.1.cls = RX9) : ac_cv M 51 125 1 2 9 ac_r125 := ⟨ce_125, by rw [h]; exact lk_RX9_51, ci_125, cv_125, rfl, by decide, (RX9, TX9, 10), rfl, rfl, by decide⟩
theorem ce_127 : ac_ce 127 1 ac_r127 := ⟨mk_127, by decide +kernel, aa_bw 670 (by decide +kernel) rfl, aa_bw 77 (by decide +kernel) rfl, ⟨by decide +kernel, by decide +kernel⟩, by decide +kernel⟩
theorem ci_127 : Cond.instanceMethod (ac_r127).1 ∈ aa_BW := aa_bw 669 (by decide +kernel) rfl
theorem cv_127 : Cond.selects (ac_r127).1.cls (ac_r127).1 (ac_r127).1 ∈ aa_BW := aa_bw 18 (by decide +kernel) rfl
theorem lk_RX9_54 : ac_lk RX9 54 (ac_r127).1 := Or.inl (aa_bw 667 (by decide +kernel) rfl)
theorem cx_RX9_54 {M : ac_R} (h : M.1.cls = RX9) : ac_cv M 54 127 1 3 9 ac_r127 := ⟨ce_127, by rw [h]; exact lk_RX9_54, ci_127, cv_127, rfl, by decide, (RX9, TX9, 10), rfl, rfl, by decide⟩
theorem fd_RX9_33 {M : ac_R} (h : M.1.cls = RX9) : ac_fd M 33 9 9 1 := by
  refine ac_fd.of (RX9, TX9, 10) rfl (by decide) aa_inW9 145 ?_ rfl rfl (by decide)
  rw [h]
  decide +kernel
theorem ce_131 : ac_ce 131 1 ac_r131 := ⟨mk_131, by decide +kernel, aa_bw 862 (by decide +kernel) rfl, aa_bw 77 (by decide +kernel) rfl, ⟨by decide +kernel, by decide +kernel⟩, by decide +kernel⟩
theorem ci_131 : Cond.instanceMethod (ac_r131).1 ∈ aa_BW := aa_bw 861 (by decide +kernel) rfl
theorem cv_131 : Cond.selects (ac_r131).1.cls (ac_r131).1 (ac_r131).1 ∈ aa_BW := aa_bw 23 (by decide +kernel) rfl
theorem lk_RX9_62 : ac_lk RX9 62 (ac_r131).1 := Or.inl (aa_bw 859 (by decide +kernel) rfl)
theorem cx_RX9_62 {M : ac_R} (h : M.1.cls = RX9) : ac_cv M 62 131 1 4 9 ac_r131 := ⟨ce_131, by rw [h]; exact lk_RX9_62, ci_131, cv_131, rfl, by decide, (RX9, TX9, 10), rfl, rfl, by decide⟩
theorem ce_133 : ac_ce 133 2 ac_r133 := ⟨mk_133, by decide +kernel, aa_bw 878 (by decide +kernel) rfl, aa_bw 77 (by decide +kernel) rfl, ⟨by decide +kernel, by decide +kernel⟩, by decide +kernel⟩
theorem ci_133 : Cond.instanceMethod (ac_r133).1 ∈ aa_BW := aa_bw 877 (by decide +kernel) rfl
theorem cv_133 : Cond.selects (ac_r133).1.cls (ac_r133).1 (ac_r133).1 ∈ aa_BW := aa_bw 25 (by decide +kernel) rfl
theorem lk_RX9_65 : ac_lk RX9 65 (ac_r133).1 := Or.inl (aa_bw 875 (by decide +kernel) rfl)
theorem cx_RX9_65 {M : ac_R} (h : M.1.cls = RX9) : ac_cv M 65 133 2 3 9 ac_r133 := ⟨ce_133, by rw [h]; exact lk_RX9_65, ci_133, cv_133, rfl, by decide, (RX9, TX9, 10), rfl, rfl, by decide⟩
theorem ce_132 : ac_ce 132 2 ac_r132 := ⟨mk_132, by decide +kernel, aa_bw 874 (by decide +kernel) rfl, aa_bw 77 (by decide +kernel) rfl, ⟨by decide +kernel, by decide +kernel⟩, by decide +kernel⟩
theorem ci_132 : Cond.instanceMethod (ac_r132).1 ∈ aa_BW := aa_bw 873 (by decide +kernel) rfl
theorem cv_132 : Cond.selects (ac_r132).1.cls (ac_r132).1 (ac_r132).1 ∈ aa_BW := aa_bw 24 (by decide +kernel) rfl
theorem lk_RX9_69 : ac_lk RX9 69 (ac_r132).1 := Or.inl (aa_bw 871 (by decide +kernel) rfl)
theorem cx_RX9_69 {M : ac_R} (h : M.1.cls = RX9) : ac_cv M 69 132 2 5 9 ac_r132 := ⟨ce_132, by rw [h]; exact lk_RX9_69, ci_132, cv_132, rfl, by decide, (RX9, TX9, 10), rfl, rfl, by decide⟩
theorem ce_136 : ac_ce 136 2 ac_r136 := ⟨mk_136, by decide +kernel, aa_bw 894 (by decide +kernel) rfl, aa_bw 77 (by decide +kernel) rfl, ⟨by decide +kernel, by decide +kernel⟩, by decide +kernel⟩
theorem ci_136 : Cond.instanceMethod (ac_r136).1 ∈ aa_BW := aa_bw 893 (by decide +kernel) rfl
theorem cv_136 : Cond.selects (ac_r136).1.cls (ac_r136).1 (ac_r136).1 ∈ aa_BW := aa_bw 26 (by decide +kernel) rfl
theorem lk_RX9_73 : ac_lk RX9 73 (ac_r136).1 := Or.inl (aa_bw 891 (by decide +kernel) rfl)
theorem cx_RX9_73 {M : ac_R} (h : M.1.cls = RX9) : ac_cv M 73 136 2 5 9 ac_r136 := ⟨ce_136, by rw [h]; exact lk_RX9_73, ci_136, cv_136, rfl, by decide, (RX9, TX9, 10), rfl, rfl, by decide⟩
theorem lk_RX10_101 : ac_lk RX10 101 (ac_r182).1 := Or.inl (aa_bw 582 (by decide +kernel) rfl)
theorem fd_RX10_105 {M : ac_R} (h : M.1.cls = RX10) : ac_fd M 105 10 13 0 := by
  refine ac_fd.of (RX10, TX10, 14) rfl (by decide) aa_inW10 548 ?_ rfl rfl (by decide)
  rw [h]
  decide +kernel
theorem pt_10_13 : ac_pt 10 13 .int := ⟨(RX10, TX10, 14), tyX10, rfl, tyX10_ok, nmX10, rfl, by decide +kernel⟩
theorem ce_48 : ac_ce 48 1 ac_r48 := ⟨mk_48, by decide +kernel, aa_bw 589 (by decide +kernel) rfl, aa_bw 74 (by decide +kernel) rfl, ⟨by decide +kernel, by decide +kernel⟩, by decide +kernel⟩
theorem cs_48 : Cond.static (ac_r48).1 ∈ aa_BW := aa_bw 588 (by decide +kernel) rfl
theorem lk_RX10_108 : ac_lk RX10 108 (ac_r48).1 := Or.inl (aa_bw 587 (by decide +kernel) rfl)
theorem ce_49 : ac_ce 49 1 ac_r49 := ⟨mk_49, by decide +kernel, aa_bw 593 (by decide +kernel) rfl, aa_bw 74 (by decide +kernel) rfl, ⟨by decide +kernel, by decide +kernel⟩, by decide +kernel⟩
theorem cs_49 : Cond.static (ac_r49).1 ∈ aa_BW := aa_bw 592 (by decide +kernel) rfl
theorem lk_RX10_112 : ac_lk RX10 112 (ac_r49).1 := Or.inl (aa_bw 591 (by decide +kernel) rfl)
theorem fd_RX10_10 {M : ac_R} (h : M.1.cls = RX10) : ac_fd M 10 10 0 1 := by
  refine ac_fd.of (RX10, TX10, 14) rfl (by decide) aa_inW10 535 ?_ rfl rfl (by decide)
  rw [h]
  decide +kernel
theorem ce_50 : ac_ce 50 3 ac_r50 := ⟨mk_50, by decide +kernel, aa_bw 597 (by decide +kernel) rfl, aa_bw 74 (by decide +kernel) rfl, ⟨by decide +kernel, by decide +kernel⟩, by decide +kernel⟩
theorem ci_50 : Cond.instanceMethod (ac_r50).1 ∈ aa_BW := aa_bw 595 (by decide +kernel) rfl
theorem cv_50 : Cond.selects (ac_r50).1.cls (ac_r50).1 (ac_r50).1 ∈ aa_BW := aa_bw 596 (by decide +kernel) rfl
theorem lk_RX10_115 : ac_lk RX10 115 (ac_r50).1 := Or.inl (aa_bw 594 (by decide +kernel) rfl)
theorem cx_RX10_115 {M : ac_R} (h : M.1.cls = RX10) : ac_cv M 115 50 3 5 4 ac_r50 := ⟨ce_50, by rw [h]; exact lk_RX10_115, ci_50, cv_50, rfl, by decide, (RX4, TX4, 3), rfl, rfl, by decide⟩
theorem ce_183 : ac_ce 183 1 ac_r183 := ⟨mk_183, by decide +kernel, aa_bw 604 (by decide +kernel) rfl, aa_bw 73 (by decide +kernel) rfl, ⟨by decide +kernel, by decide +kernel⟩, by decide +kernel⟩
theorem cs_183 : Cond.static (ac_r183).1 ∈ aa_BW := aa_bw 603 (by decide +kernel) rfl
theorem lk_RX10_119 : ac_lk RX10 119 (ac_r183).1 := Or.inl (aa_bw 602 (by decide +kernel) rfl)
theorem lk_RX10_122 : ac_lk RX10 122 (ac_r51).1 := Or.inl (aa_bw 605 (by decide +kernel) rfl)
theorem cx_RX10_122 {M : ac_R} (h : M.1.cls = RX10) : ac_cv M 122 51 3 5 4 ac_r51 := ⟨ce_51, by rw [h]; exact lk_RX10_122, ci_51, cv_51, rfl, by decide, (RX4, TX4, 3), rfl, rfl, by decide⟩
theorem ce_104 : ac_ce 104 1 ac_r104 := ⟨mk_104, by decide +kernel, aa_bw 615 (by decide +kernel) rfl, aa_bw 77 (by decide +kernel) rfl, ⟨by decide +kernel, by decide +kernel⟩, by decide +kernel⟩
theorem cs_104 : Cond.static (ac_r104).1 ∈ aa_BW := aa_bw 614 (by decide +kernel) rfl
theorem lk_RX10_125 : ac_lk RX10 125 (ac_r104).1 := Or.inl (aa_bw 613 (by decide +kernel) rfl)
theorem fd_RX10_19 {M : ac_R} (h : M.1.cls = RX10) : ac_fd M 19 10 1 1 := by
  refine ac_fd.of (RX10, TX10, 14) rfl (by decide) aa_inW10 536 ?_ rfl rfl (by decide)
  rw [h]
  decide +kernel
theorem ce_117 : ac_ce 117 2 ac_r117 := ⟨mk_117, by decide +kernel, aa_bw 620 (by decide +kernel) rfl, aa_bw 77 (by decide +kernel) rfl, ⟨by decide +kernel, by decide +kernel⟩, by decide +kernel⟩
theorem ci_117 : Cond.instanceMethod (ac_r117).1 ∈ aa_BW := aa_bw 618 (by decide +kernel) rfl
theorem cv_117 : Cond.selects (ac_r117).1.cls (ac_r117).1 (ac_r117).1 ∈ aa_BW := aa_bw 619 (by decide +kernel) rfl
theorem lk_RX10_128 : ac_lk RX10 128 (ac_r117).1 := Or.inl (aa_bw 617 (by decide +kernel) rfl)
theorem cx_RX10_128 {M : ac_R} (h : M.1.cls = RX10) : ac_cv M 128 117 2 3 9 ac_r117 := ⟨ce_117, by rw [h]; exact lk_RX10_128, ci_117, cv_117, rfl, by decide, (RX9, TX9, 10), rfl, rfl, by decide⟩
theorem ce_107 : ac_ce 107 1 ac_r107 := ⟨mk_107, by decide +kernel, aa_bw 628 (by decide +kernel) rfl, aa_bw 77 (by decide +kernel) rfl, ⟨by decide +kernel, by decide +kernel⟩, by decide +kernel⟩
theorem ci_107 : Cond.instanceMethod (ac_r107).1 ∈ aa_BW := aa_bw 626 (by decide +kernel) rfl
theorem cv_107 : Cond.selects (ac_r107).1.cls (ac_r107).1 (ac_r107).1 ∈ aa_BW := aa_bw 627 (by decide +kernel) rfl
theorem lk_RX10_132 : ac_lk RX10 132 (ac_r107).1 := Or.inl (aa_bw 625 (by decide +kernel) rfl)
theorem cx_RX10_132 {M : ac_R} (h : M.1.cls = RX10) : ac_cv M 132 107 1 2 9 ac_r107 := ⟨ce_107, by rw [h]; exact lk_RX10_132, ci_107, cv_107, rfl, by decide, (RX9, TX9, 10), rfl, rfl, by decide⟩
theorem ce_118 : ac_ce 118 2 ac_r118 := ⟨mk_118, by decide +kernel, aa_bw 632 (by decide +kernel) rfl, aa_bw 77 (by decide +kernel) rfl, ⟨by decide +kernel, by decide +kernel⟩, by decide +kernel⟩
theorem ci_118 : Cond.instanceMethod (ac_r118).1 ∈ aa_BW := aa_bw 630 (by decide +kernel) rfl
theorem cv_118 : Cond.selects (ac_r118).1.cls (ac_r118).1 (ac_r118).1 ∈ aa_BW := aa_bw 631 (by decide +kernel) rfl
theorem lk_RX10_135 : ac_lk RX10 135 (ac_r118).1 := Or.inl (aa_bw 629 (by decide +kernel) rfl)
theorem cx_RX10_135 {M : ac_R} (h : M.1.cls = RX10) : ac_cv M 135 118 2 4 9 ac_r118 := ⟨ce_118, by rw [h]; exact lk_RX10_135, ci_118, cv_118, rfl, by decide, (RX9, TX9, 10), rfl, rfl, by decide⟩
theorem ce_105 : ac_ce 105 1 ac_r105 := ⟨mk_105, by decide +kernel, aa_bw 639 (by decide +kernel) rfl, aa_bw 77 (by decide +kernel) rfl, ⟨by decide +kernel, by decide +kernel⟩, by decide +kernel⟩
theorem cs_105 : Cond.static (ac_r105).1 ∈ aa_BW := aa_bw 638 (by decide +kernel) rfl
theorem lk_RX10_138 : ac_lk RX10 138 (ac_r105).1 := Or.inl (aa_bw 637 (by decide +kernel) rfl)
theorem ce_106 : ac_ce 106 1 ac_r106 := ⟨mk_106, by decide +kernel, aa_bw 642 (by decide +kernel) rfl, aa_bw 77 (by decide +kernel) rfl, ⟨by decide +kernel, by decide +kernel⟩, by decide +kernel⟩
theorem cs_106 : Cond.static (ac_r106).1 ∈ aa_BW := aa_bw 641 (by decide +kernel) rfl
theorem lk_RX10_141 : ac_lk RX10 141 (ac_r106).1 := Or.inl (aa_bw 640 (by decide +kernel) rfl)
theorem ce_119 : ac_ce 119 4 ac_r119 := ⟨mk_119, by decide +kernel, aa_bw 646 (by decide +kernel) rfl, aa_bw 77 (by decide +kernel) rfl, ⟨by decide +kernel, by decide +kernel⟩, by decide +kernel⟩
theorem ci_119 : Cond.instanceMethod (ac_r119).1 ∈ aa_BW := aa_bw 644 (by decide +kernel) rfl
theorem cv_119 : Cond.selects (ac_r119).1.cls (ac_r119).1 (ac_r119).1 ∈ aa_BW := aa_bw 645 (by decide +kernel) rfl
theorem lk_RX10_144 : ac_lk RX10 144 (ac_r119).1 := Or.inl (aa_bw 643 (by decide +kernel) rfl)
theorem cx_RX10_144 {M : ac_R} (h : M.1.cls = RX10) : ac_cv M 144 119 4 5 9 ac_r119 := ⟨ce_119, by rw [h]; exact lk_RX10_144, ci_119, cv_119, rfl, by decide, (RX9, TX9, 10), rfl, rfl, by decide⟩
theorem ce_108 : ac_ce 108 1 ac_r108 := ⟨mk_108, by decide +kernel, aa_bw 654 (by decide +kernel) rfl, aa_bw 77 (by decide +kernel) rfl, ⟨by decide +kernel, by decide +kernel⟩, by decide +kernel⟩
theorem ci_108 : Cond.instanceMethod (ac_r108).1 ∈ aa_BW := aa_bw 652 (by decide +kernel) rfl
theorem cv_108 : Cond.selects (ac_r108).1.cls (ac_r108).1 (ac_r108).1 ∈ aa_BW := aa_bw 653 (by decide +kernel) rfl
theorem lk_RX10_148 : ac_lk RX10 148 (ac_r108).1 := Or.inl (aa_bw 651 (by decide +kernel) rfl)
theorem cx_RX10_148 {M : ac_R} (h : M.1.cls = RX10) : ac_cv M 148 108 1 2 9 ac_r108 := ⟨ce_108, by rw [h]; exact lk_RX10_148, ci_108, cv_108, rfl, by decide, (RX9, TX9, 10), rfl, rfl, by decide⟩
theorem ce_120 : ac_ce 120 2 ac_r120 := ⟨mk_120, by decide +kernel, aa_bw 658 (by decide +kernel) rfl, aa_bw 77 (by decide +kernel) rfl, ⟨by decide +kernel, by decide +kernel⟩, by decide +kernel⟩
theorem ci_120 : Cond.instanceMethod (ac_r120).1 ∈ aa_BW := aa_bw 656 (by decide +kernel) rfl
theorem cv_120 : Cond.selects (ac_r120).1.cls (ac_r120).1 (ac_r120).1 ∈ aa_BW := aa_bw 657 (by decide +kernel) rfl
theorem lk_RX10_151 : ac_lk RX10 151 (ac_r120).1 := Or.inl (aa_bw 655 (by decide +kernel) rfl)
theorem cx_RX10_151 {M : ac_R} (h : M.1.cls = RX10) : ac_cv M 151 120 2 3 9 ac_r120 := ⟨ce_120, by rw [h]; exact lk_RX10_151, ci_120, cv_120, rfl, by decide, (RX9, TX9, 10), rfl, rfl, by decide⟩
theorem ce_121 : ac_ce 121 2 ac_r121 := ⟨mk_121, by decide +kernel, aa_bw 680 (by decide +kernel) rfl, aa_bw 77 (by decide +kernel) rfl, ⟨by decide +kernel, by decide +kernel⟩, by decide +kernel⟩
theorem ci_121 : Cond.instanceMethod (ac_r121).1 ∈ aa_BW := aa_bw 678 (by decide +kernel) rfl
theorem cv_121 : Cond.selects (ac_r121).1.cls (ac_r121).1 (ac_r121).1 ∈ aa_BW := aa_bw 679 (by decide +kernel) rfl
theorem lk_RX10_157 : ac_lk RX10 157 (ac_r121).1 := Or.inl (aa_bw 677 (by decide +kernel) rfl)
theorem cx_RX10_157 {M : ac_R} (h : M.1.cls = RX10) : ac_cv M 157 121 2 4 9 ac_r121 := ⟨ce_121, by rw [h]; exact lk_RX10_157, ci_121, cv_121, rfl, by decide, (RX9, TX9, 10), rfl, rfl, by decide⟩
theorem ce_110 : ac_ce 110 0 ac_r110 := ⟨mk_110, by decide +kernel, aa_bw 688 (by decide +kernel) rfl, aa_bw 77 (by decide +kernel) rfl, ⟨by decide +kernel, by decide +kernel⟩, by decide +kernel⟩
theorem ci_110 : Cond.instanceMethod (ac_r110).1 ∈ aa_BW := aa_bw 686 (by decide +kernel) rfl
theorem cv_110 : Cond.selects (ac_r110).1.cls (ac_r110).1 (ac_r110).1 ∈ aa_BW := aa_bw 687 (by decide +kernel) rfl
theorem lk_RX10_161 : ac_lk RX10 161 (ac_r110).1 := Or.inl (aa_bw 685 (by decide +kernel) rfl)
theorem cx_RX10_161 {M : ac_R} (h : M.1.cls = RX10) : ac_cv M 161 110 0 1 9 ac_r110 := ⟨ce_110, by rw [h]; exact lk_RX10_161, ci_110, cv_110, rfl, by decide, (RX9, TX9, 10), rfl, rfl, by decide⟩
theorem lk_RX10_165 : ac_lk RX10 165 (ac_r114).1 := Or.inl (aa_bw 689 (by decide +kernel) rfl)
theorem cx_RX10_165 {M : ac_R} (h : M.1.cls = RX10) : ac_cv M 165 114 1 2 9 ac_r114 := ⟨ce_114, by rw [h]; exact lk_RX10_165, ci_114, cv_114, rfl, by decide, (RX9, TX9, 10), rfl, rfl, by decide⟩
theorem ce_116 : ac_ce 116 1 ac_r116 := ⟨mk_116, by decide +kernel, aa_bw 696 (by decide +kernel) rfl, aa_bw 77 (by decide +kernel) rfl, ⟨by decide +kernel, by decide +kernel⟩, by decide +kernel⟩
theorem ci_116 : Cond.instanceMethod (ac_r116).1 ∈ aa_BW := aa_bw 694 (by decide +kernel) rfl
theorem cv_116 : Cond.selects (ac_r116).1.cls (ac_r116).1 (ac_r116).1 ∈ aa_BW := aa_bw 695 (by decide +kernel) rfl
theorem lk_RX10_169 : ac_lk RX10 169 (ac_r116).1 := Or.inl (aa_bw 693 (by decide +kernel) rfl)
theorem cx_RX10_169 {M : ac_R} (h : M.1.cls = RX10) : ac_cv M 169 116 1 2 9 ac_r116 := ⟨ce_116, by rw [h]; exact lk_RX10_169, ci_116, cv_116, rfl, by decide, (RX9, TX9, 10), rfl, rfl, by decide⟩
theorem ce_112 : ac_ce 112 1 ac_r112 := ⟨mk_112, by decide +kernel, aa_bw 700 (by decide +kernel) rfl, aa_bw 77 (by decide +kernel) rfl, ⟨by decide +kernel, by decide +kernel⟩, by decide +kernel⟩
theorem ci_112 : Cond.instanceMethod (ac_r112).1 ∈ aa_BW := aa_bw 698 (by decide +kernel) rfl
theorem cv_112 : Cond.selects (ac_r112).1.cls (ac_r112).1 (ac_r112).1 ∈ aa_BW := aa_bw 699 (by decide +kernel) rfl
theorem lk_RX10_172 : ac_lk RX10 172 (ac_r112).1 := Or.inl (aa_bw 697 (by decide +kernel) rfl)
theorem cx_RX10_172 {M : ac_R} (h : M.1.cls = RX10) : ac_cv M 172 112 1 2 9 ac_r112 := ⟨ce_112, by rw [h]; exact lk_RX10_172, ci_112, cv_112, rfl, by decide, (RX9, TX9, 10), rfl, rfl, by decide⟩
theorem ce_187 : ac_ce 187 1 ac_r187 := ⟨mk_187, by decide +kernel, aa_bw 704 (by decide +kernel) rfl, aa_bw 73 (by decide +kernel) rfl, ⟨by decide +kernel, by decide +kernel⟩, by decide +kernel⟩
theorem ci_187 : Cond.instanceMethod (ac_r187).1 ∈ aa_BW := aa_bw 703 (by decide +kernel) rfl
theorem cv_187 : Cond.selects (ac_r187).1.cls (ac_r187).1 (ac_r187).1 ∈ aa_BW := aa_bw 19 (by decide +kernel) rfl
theorem lk_RX10_175 : ac_lk RX10 175 (ac_r187).1 := Or.inl (aa_bw 701 (by decide +kernel) rfl)
theorem cx_RX10_175 {M : ac_R} (h : M.1.cls = RX10) : ac_cv M 175 187 1 2 10 ac_r187 := ⟨ce_187, by rw [h]; exact lk_RX10_175, ci_187, cv_187, rfl, by decide, (RX10, TX10, 14), rfl, rfl, by decide⟩
theorem ce_128 : ac_ce 128 1 ac_r128 := ⟨mk_128, by decide +kernel, aa_bw 743 (by decide +kernel) rfl, aa_bw 77 (by decide +kernel) rfl, ⟨by decide +kernel, by decide +kernel⟩, by decide +kernel⟩
theorem ci_128 : Cond.instanceMethod (ac_r128).1 ∈ aa_BW := aa_bw 741 (by decide +kernel) rfl
theorem cv_128 : Cond.selects (ac_r128).1.cls (ac_r128).1 (ac_r128).1 ∈ aa_BW := aa_bw 742 (by decide +kernel) rfl
theorem lk_RX10_178 : ac_lk RX10 178 (ac_r128).1 := Or.inl (aa_bw 740 (by decide +kernel) rfl)
theorem cx_RX10_178 {M : ac_R} (h : M.1.cls = RX10) : ac_cv M 178 128 1 4 9 ac_r128 := ⟨ce_128, by rw [h]; exact lk_RX10_178, ci_128, cv_128, rfl, by decide, (RX9, TX9, 10), rfl, rfl, by decide⟩
theorem fd_RX10_72 {M : ac_R} (h : M.1.cls = RX10) : ac_fd M 72 10 8 1 := by
  refine ac_fd.of (RX10, TX10, 14) rfl (by decide) aa_inW10 543 ?_ rfl rfl (by decide)
  rw [h]
  decide +kernel
theorem ce_27 : ac_ce 27 2 ac_r27 := ⟨mk_27, by decide +kernel, aa_bw 751 (by decide +kernel) rfl, aa_bw 84 (by decide +kernel) rfl, ⟨by decide +kernel, by decide +kernel⟩, by decide +kernel⟩
theorem ci_27 : Cond.instanceMethod (ac_r27).1 ∈ aa_BW := aa_bw 749 (by decide +kernel) rfl
theorem cv_27 : Cond.selects (ac_r27).1.cls (ac_r27).1 (ac_r27).1 ∈ aa_BW := aa_bw 750 (by decide +kernel) rfl
theorem lk_RX10_181 : ac_lk RX10 181 (ac_r27).1 := Or.inl (aa_bw 748 (by decide +kernel) rfl)
theorem cx_RX10_181 {M : ac_R} (h : M.1.cls = RX10) : ac_cv M 181 27 2 5 3 ac_r27 := ⟨ce_27, by rw [h]; exact lk_RX10_181, ci_27, cv_27, rfl, by decide, (RX3, TX3, 9), rfl, rfl, by decide⟩
theorem fd_RX10_97 {M : ac_R} (h : M.1.cls = RX10) : ac_fd M 97 10 11 0 := by
  refine ac_fd.of (RX10, TX10, 14) rfl (by decide) aa_inW10 546 ?_ rfl rfl (by decide)
  rw [h]
  decide +kernel
theorem fd_RX10_78 {M : ac_R} (h : M.1.cls = RX10) : ac_fd M 78 10 9 1 := by
  refine ac_fd.of (RX10, TX10, 14) rfl (by decide) aa_inW10 544 ?_ rfl rfl (by decide)
  rw [h]
  decide +kernel
theorem ce_28 : ac_ce 28 1 ac_r28 := ⟨mk_28, by decide +kernel, aa_bw 432 (by decide +kernel) rfl, aa_bw 84 (by decide +kernel) rfl, ⟨by decide +kernel, by decide +kernel⟩, by decide +kernel⟩
theorem ci_28 : Cond.instanceMethod (ac_r28).1 ∈ aa_BW := aa_bw 430 (by decide +kernel) rfl
theorem cv_28 : Cond.selects (ac_r28).1.cls (ac_r28).1 (ac_r28).1 ∈ aa_BW := aa_bw 431 (by decide +kernel) rfl
theorem lk_RX10_93 : ac_lk RX10 93 (ac_r28).1 := Or.inl (aa_bw 429 (by decide +kernel) rfl)
theorem cx_RX10_93 {M : ac_R} (h : M.1.cls = RX10) : ac_cv M 93 28 1 2 3 ac_r28 := ⟨ce_28, by rw [h]; exact lk_RX10_93, ci_28, cv_28, rfl, by decide, (RX3, TX3, 9), rfl, rfl, by decide⟩
theorem pt_10_11 : ac_pt 10 11 .int := ⟨(RX10, TX10, 14), tyX10, rfl, tyX10_ok, nmX10, rfl, by decide +kernel⟩
theorem fd_RX10_185 {M : ac_R} (h : M.1.cls = RX10) : ac_fd M 185 10 12 0 := by
  refine ac_fd.of (RX10, TX10, 14) rfl (by decide) aa_inW10 547 ?_ rfl rfl (by decide)
  rw [h]
  decide +kernel
theorem pt_10_12 : ac_pt 10 12 .int := ⟨(RX10, TX10, 14), tyX10, rfl, tyX10_ok, nmX10, rfl, by decide +kernel⟩
theorem fd_RX10_37 {M : ac_R} (h : M.1.cls = RX10) : ac_fd M 37 10 3 1 := by
  refine ac_fd.of (RX10, TX10, 14) rfl (by decide) aa_inW10 538 ?_ rfl rfl (by decide)
  rw [h]
  decide +kernel
theorem ce_80 : ac_ce 80 1 ac_r80 := ⟨mk_80, by decide +kernel, aa_bw 767 (by decide +kernel) rfl, aa_bw 79 (by decide +kernel) rfl, ⟨by decide +kernel, by decide +kernel⟩, by decide +kernel⟩
theorem ci_80 : Cond.instanceMethod (ac_r80).1 ∈ aa_BW := aa_bw 765 (by decide +kernel) rfl
theorem cv_80 : Cond.selects (ac_r80).1.cls (ac_r80).1 (ac_r80).1 ∈ aa_BW := aa_bw 766 (by decide +kernel) rfl
theorem lk_RX10_188 : ac_lk RX10 188 (ac_r80).1 := Or.inl (aa_bw 764 (by decide +kernel) rfl)
theorem cx_RX10_188 {M : ac_R} (h : M.1.cls = RX10) : ac_cv M 188 80 1 2 7 ac_r80 := ⟨ce_80, by rw [h]; exact lk_RX10_188, ci_80, cv_80, rfl, by decide, (RX7, TX7, 16), rfl, rfl, by decide⟩
theorem ce_90 : ac_ce 90 1 ac_r90 := ⟨mk_90, by decide +kernel, aa_bw 772 (by decide +kernel) rfl, aa_bw 79 (by decide +kernel) rfl, ⟨by decide +kernel, by decide +kernel⟩, by decide +kernel⟩
theorem ci_90 : Cond.instanceMethod (ac_r90).1 ∈ aa_BW := aa_bw 770 (by decide +kernel) rfl
theorem cv_90 : Cond.selects (ac_r90).1.cls (ac_r90).1 (ac_r90).1 ∈ aa_BW := aa_bw 771 (by decide +kernel) rfl
theorem lk_RX10_191 : ac_lk RX10 191 (ac_r90).1 := Or.inl (aa_bw 769 (by decide +kernel) rfl)
theorem cx_RX10_191 {M : ac_R} (h : M.1.cls = RX10) : ac_cv M 191 90 1 4 7 ac_r90 := ⟨ce_90, by rw [h]; exact lk_RX10_191, ci_90, cv_90, rfl, by decide, (RX7, TX7, 16), rfl, rfl, by decide⟩
theorem ce_188 : ac_ce 188 4 ac_r188 := ⟨mk_188, by decide +kernel, aa_bw 809 (by decide +kernel) rfl, aa_bw 73 (by decide +kernel) rfl, ⟨by decide +kernel, by decide +kernel⟩, by decide +kernel⟩
theorem ci_188 : Cond.instanceMethod (ac_r188).1 ∈ aa_BW := aa_bw 808 (by decide +kernel) rfl
theorem cv_188 : Cond.selects (ac_r188).1.cls (ac_r188).1 (ac_r188).1 ∈ aa_BW := aa_bw 22 (by decide +kernel) rfl
theorem lk_RX10_194 : ac_lk RX10 194 (ac_r188).1 := Or.inl (aa_bw 806 (by decide +kernel) rfl)
theorem cx_RX10_194 {M : ac_R} (h : M.1.cls = RX10) : ac_cv M 194 188 4 6 10 ac_r188 := ⟨ce_188, by rw [h]; exact lk_RX10_194, ci_188, cv_188, rfl, by decide, (RX10, TX10, 14), rfl, rfl, by decide⟩
theorem ce_184 : ac_ce 184 1 ac_r184 := ⟨mk_184, by decide +kernel, aa_bw 838 (by decide +kernel) rfl, aa_bw 73 (by decide +kernel) rfl, ⟨by decide +kernel, by decide +kernel⟩, by decide +kernel⟩
theorem cs_184 : Cond.static (ac_r184).1 ∈ aa_BW := aa_bw 837 (by decide +kernel) rfl
theorem lk_RX10_197 : ac_lk RX10 197 (ac_r184).1 := Or.inl (aa_bw 836 (by decide +kernel) rfl)
theorem fd_RX10_28 {M : ac_R} (h : M.1.cls = RX10) : ac_fd M 28 10 2 1 := by
  refine ac_fd.of (RX10, TX10, 14) rfl (by decide) aa_inW10 537 ?_ rfl rfl (by decide)
  rw [h]
  decide +kernel
theorem ce_20 : ac_ce 20 3 ac_r20 := ⟨mk_20, by decide +kernel, aa_bw 842 (by decide +kernel) rfl, aa_bw 78 (by decide +kernel) rfl, ⟨by decide +kernel, by decide +kernel⟩, by decide +kernel⟩
theorem ci_20 : Cond.instanceMethod (ac_r20).1 ∈ aa_BW := aa_bw 840 (by decide +kernel) rfl
theorem cv_20 : Cond.selects (ac_r20).1.cls (ac_r20).1 (ac_r20).1 ∈ aa_BW := aa_bw 841 (by decide +kernel) rfl
theorem lk_RX10_200 : ac_lk RX10 200 (ac_r20).1 := Or.inl (aa_bw 839 (by decide +kernel) rfl)
theorem cx_RX10_200 {M : ac_R} (h : M.1.cls = RX10) : ac_cv M 200 20 3 4 2 ac_r20 := ⟨ce_20, by rw [h]; exact lk_RX10_200, ci_20, cv_20, rfl, by decide, (RX2, TX2, 5), rfl, rfl, by decide⟩
theorem ce_129 : ac_ce 129 1 ac_r129 := ⟨mk_129, by decide +kernel, aa_bw 854 (by decide +kernel) rfl, aa_bw 77 (by decide +kernel) rfl, ⟨by decide +kernel, by decide +kernel⟩, by decide +kernel⟩
theorem ci_129 : Cond.instanceMethod (ac_r129).1 ∈ aa_BW := aa_bw 852 (by decide +kernel) rfl
theorem cv_129 : Cond.selects (ac_r129).1.cls (ac_r129).1 (ac_r129).1 ∈ aa_BW := aa_bw 853 (by decide +kernel) rfl
theorem lk_RX10_203 : ac_lk RX10 203 (ac_r129).1 := Or.inl (aa_bw 851 (by decide +kernel) rfl)
theorem cx_RX10_203 {M : ac_R} (h : M.1.cls = RX10) : ac_cv M 203 129 1 4 9 ac_r129 := ⟨ce_129, by rw [h]; exact lk_RX10_203, ci_129, cv_129, rfl, by decide, (RX9, TX9, 10), rfl, rfl, by decide⟩
theorem ce_130 : ac_ce 130 1 ac_r130 := ⟨mk_130, by decide +kernel, aa_bw 858 (by decide +kernel) rfl, aa_bw 77 (by decide +kernel) rfl, ⟨by decide +kernel, by decide +kernel⟩, by decide +kernel⟩
theorem ci_130 : Cond.instanceMethod (ac_r130).1 ∈ aa_BW := aa_bw 856 (by decide +kernel) rfl
theorem cv_130 : Cond.selects (ac_r130).1.cls (ac_r130).1 (ac_r130).1 ∈ aa_BW := aa_bw 857 (by decide +kernel) rfl
theorem lk_RX10_206 : ac_lk RX10 206 (ac_r130).1 := Or.inl (aa_bw 855 (by decide +kernel) rfl)
theorem cx_RX10_206 {M : ac_R} (h : M.1.cls = RX10) : ac_cv M 206 130 1 5 9 ac_r130 := ⟨ce_130, by rw [h]; exact lk_RX10_206, ci_130, cv_130, rfl, by decide, (RX9, TX9, 10), rfl, rfl, by decide⟩
theorem ce_134 : ac_ce 134 3 ac_r134 := ⟨mk_134, by decide +kernel, aa_bw 870 (by decide +kernel) rfl, aa_bw 77 (by decide +kernel) rfl, ⟨by decide +kernel, by decide +kernel⟩, by decide +kernel⟩
theorem ci_134 : Cond.instanceMethod (ac_r134).1 ∈ aa_BW := aa_bw 868 (by decide +kernel) rfl
theorem cv_134 : Cond.selects (ac_r134).1.cls (ac_r134).1 (ac_r134).1 ∈ aa_BW := aa_bw 869 (by decide +kernel) rfl
theorem lk_RX10_209 : ac_lk RX10 209 (ac_r134).1 := Or.inl (aa_bw 867 (by decide +kernel) rfl)
theorem cx_RX10_209 {M : ac_R} (h : M.1.cls = RX10) : ac_cv M 209 134 3 7 9 ac_r134 := ⟨ce_134, by rw [h]; exact lk_RX10_209, ci_134, cv_134, rfl, by decide, (RX9, TX9, 10), rfl, rfl, by decide⟩
theorem ce_135 : ac_ce 135 2 ac_r135 := ⟨mk_135, by decide +kernel, aa_bw 890 (by decide +kernel) rfl, aa_bw 77 (by decide +kernel) rfl, ⟨by decide +kernel, by decide +kernel⟩, by decide +kernel⟩
theorem ci_135 : Cond.instanceMethod (ac_r135).1 ∈ aa_BW := aa_bw 888 (by decide +kernel) rfl
theorem cv_135 : Cond.selects (ac_r135).1.cls (ac_r135).1 (ac_r135).1 ∈ aa_BW := aa_bw 889 (by decide +kernel) rfl
theorem lk_RX10_212 : ac_lk RX10 212 (ac_r135).1 := Or.inl (aa_bw 887 (by decide +kernel) rfl)
theorem cx_RX10_212 {M : ac_R} (h : M.1.cls = RX10) : ac_cv M 212 135 2 8 9 ac_r135 := ⟨ce_135, by rw [h]; exact lk_RX10_212, ci_135, cv_135, rfl, by decide, (RX9, TX9, 10), rfl, rfl, by decide⟩
theorem ce_84 : ac_ce 84 1 ac_r84 := ⟨mk_84, by decide +kernel, aa_bw 902 (by decide +kernel) rfl, aa_bw 79 (by decide +kernel) rfl, ⟨by decide +kernel, by decide +kernel⟩, by decide +kernel⟩
theorem ci_84 : Cond.instanceMethod (ac_r84).1 ∈ aa_BW := aa_bw 900 (by decide +kernel) rfl
theorem cv_84 : Cond.selects (ac_r84).1.cls (ac_r84).1 (ac_r84).1 ∈ aa_BW := aa_bw 901 (by decide +kernel) rfl
theorem lk_RX10_215 : ac_lk RX10 215 (ac_r84).1 := Or.inl (aa_bw 899 (by decide +kernel) rfl)
theorem cx_RX10_215 {M : ac_R} (h : M.1.cls = RX10) : ac_cv M 215 84 1 2 7 ac_r84 := ⟨ce_84, by rw [h]; exact lk_RX10_215, ci_84, cv_84, rfl, by decide, (RX7, TX7, 16), rfl, rfl, by decide⟩
theorem ce_186 : ac_ce 186 1 ac_r186 := ⟨mk_186, by decide +kernel, aa_bw 910 (by decide +kernel) rfl, aa_bw 73 (by decide +kernel) rfl, ⟨by decide +kernel, by decide +kernel⟩, by decide +kernel⟩
theorem ci_186 : Cond.instanceMethod (ac_r186).1 ∈ aa_BW := aa_bw 909 (by decide +kernel) rfl
theorem cv_186 : Cond.selects (ac_r186).1.cls (ac_r186).1 (ac_r186).1 ∈ aa_BW := aa_bw 27 (by decide +kernel) rfl
theorem lk_RX10_218 : ac_lk RX10 218 (ac_r186).1 := Or.inl (aa_bw 907 (by decide +kernel) rfl)
theorem cx_RX10_218 {M : ac_R} (h : M.1.cls = RX10) : ac_cv M 218 186 1 2 10 ac_r186 := ⟨ce_186, by rw [h]; exact lk_RX10_218, ci_186, cv_186, rfl, by decide, (RX10, TX10, 14), rfl, rfl, by decide⟩
theorem ce_85 : ac_ce 85 5 ac_r85 := ⟨mk_85, by decide +kernel, aa_bw 914 (by decide +kernel) rfl, aa_bw 79 (by decide +kernel) rfl, ⟨by decide +kernel, by decide +kernel⟩, by decide +kernel⟩
theorem ci_85 : Cond.instanceMethod (ac_r85).1 ∈ aa_BW := aa_bw 912 (by decide +kernel) rfl
theorem cv_85 : Cond.selects (ac_r85).1.cls (ac_r85).1 (ac_r85).1 ∈ aa_BW := aa_bw 913 (by decide +kernel) rfl
theorem lk_RX10_221 : ac_lk RX10 221 (ac_r85).1 := Or.inl (aa_bw 911 (by decide +kernel) rfl)
theorem cx_RX10_221 {M : ac_R} (h : M.1.cls = RX10) : ac_cv M 221 85 5 6 7 ac_r85 := ⟨ce_85, by rw [h]; exact lk_RX10_221, ci_85, cv_85, rfl, by decide, (RX7, TX7, 16), rfl, rfl, by decide⟩
theorem lk_RX10_225 : ac_lk RX10 225 (ac_r87).1 := Or.inl (aa_bw 919 (by decide +kernel) rfl)
theorem cx_RX10_225 {M : ac_R} (h : M.1.cls = RX10) : ac_cv M 225 87 5 9 7 ac_r87 := ⟨ce_87, by rw [h]; exact lk_RX10_225, ci_87, cv_87, rfl, by decide, (RX7, TX7, 16), rfl, rfl, by decide⟩
theorem ce_18 : ac_ce 18 1 ac_r18 := ⟨mk_18, by decide +kernel, aa_bw 927 (by decide +kernel) rfl, aa_bw 78 (by decide +kernel) rfl, ⟨by decide +kernel, by decide +kernel⟩, by decide +kernel⟩
theorem ci_18 : Cond.instanceMethod (ac_r18).1 ∈ aa_BW := aa_bw 925 (by decide +kernel) rfl
theorem cv_18 : Cond.selects (ac_r18).1.cls (ac_r18).1 (ac_r18).1 ∈ aa_BW := aa_bw 926 (by decide +kernel) rfl
theorem lk_RX10_229 : ac_lk RX10 229 (ac_r18).1 := Or.inl (aa_bw 924 (by decide +kernel) rfl)
theorem cx_RX10_229 {M : ac_R} (h : M.1.cls = RX10) : ac_cv M 229 18 1 2 2 ac_r18 := ⟨ce_18, by rw [h]; exact lk_RX10_229, ci_18, cv_18, rfl, by decide, (RX2, TX2, 5), rfl, rfl, by decide⟩
theorem ce_89 : ac_ce 89 2 ac_r89 := ⟨mk_89, by decide +kernel, aa_bw 932 (by decide +kernel) rfl, aa_bw 79 (by decide +kernel) rfl, ⟨by decide +kernel, by decide +kernel⟩, by decide +kernel⟩
theorem ci_89 : Cond.instanceMethod (ac_r89).1 ∈ aa_BW := aa_bw 930 (by decide +kernel) rfl
theorem cv_89 : Cond.selects (ac_r89).1.cls (ac_r89).1 (ac_r89).1 ∈ aa_BW := aa_bw 931 (by decide +kernel) rfl
theorem lk_RX10_232 : ac_lk RX10 232 (ac_r89).1 := Or.inl (aa_bw 929 (by decide +kernel) rfl)
theorem cx_RX10_232 {M : ac_R} (h : M.1.cls = RX10) : ac_cv M 232 89 2 5 7 ac_r89 := ⟨ce_89, by rw [h]; exact lk_RX10_232, ci_89, cv_89, rfl, by decide, (RX7, TX7, 16), rfl, rfl, by decide⟩
theorem ce_185 : ac_ce 185 1 ac_r185 := ⟨mk_185, by decide +kernel, aa_bw 939 (by decide +kernel) rfl, aa_bw 73 (by decide +kernel) rfl, ⟨by decide +kernel, by decide +kernel⟩, by decide +kernel⟩
theorem cs_185 : Cond.static (ac_r185).1 ∈ aa_BW := aa_bw 938 (by decide +kernel) rfl
theorem lk_RX10_235 : ac_lk RX10 235 (ac_r185).1 := Or.inl (aa_bw 937 (by decide +kernel) rfl)
theorem ce_86 : ac_ce 86 5 ac_r86 := ⟨mk_86, by decide +kernel, aa_bw 943 (by decide +kernel) rfl, aa_bw 79 (by decide +kernel) rfl, ⟨by decide +kernel, by decide +kernel⟩, by decide +kernel⟩
theorem ci_86 : Cond.instanceMethod (ac_r86).1 ∈ aa_BW := aa_bw 941 (by decide +kernel) rfl
theorem cv_86 : Cond.selects (ac_r86).1.cls (ac_r86).1 (ac_r86).1 ∈ aa_BW := aa_bw 942 (by decide +kernel) rfl
theorem lk_RX10_238 : ac_lk RX10 238 (ac_r86).1 := Or.inl (aa_bw 940 (by decide +kernel) rfl)
theorem cx_RX10_238 {M : ac_R} (h : M.1.cls = RX10) : ac_cv M 238 86 5 6 7 ac_r86 := ⟨ce_86, by rw [h]; exact lk_RX10_238, ci_86, cv_86, rfl, by decide, (RX7, TX7, 16), rfl, rfl, by decide⟩
theorem ce_91 : ac_ce 91 2 ac_r91 := ⟨mk_91, by decide +kernel, aa_bw 817 (by decide +kernel) rfl, aa_bw 79 (by decide +kernel) rfl, ⟨by decide +kernel, by decide +kernel⟩, by decide +kernel⟩
theorem ci_91 : Cond.instanceMethod (ac_r91).1 ∈ aa_BW := aa_bw 815 (by decide +kernel) rfl
theorem cv_91 : Cond.selects (ac_r91).1.cls (ac_r91).1 (ac_r91).1 ∈ aa_BW := aa_bw 816 (by decide +kernel) rfl
theorem lk_RX10_241 : ac_lk RX10 241 (ac_r91).1 := Or.inl (aa_bw 814 (by decide +kernel) rfl)
theorem cx_RX10_241 {M : ac_R} (h : M.1.cls = RX10) : ac_cv M 241 91 2 5 7 ac_r91 := ⟨ce_91, by rw [h]; exact lk_RX10_241, ci_91, cv_91, rfl, by decide, (RX7, TX7, 16), rfl, rfl, by decide⟩
theorem ce_93 : ac_ce 93 1 ac_r93 := ⟨mk_93, by decide +kernel, aa_bw 827 (by decide +kernel) rfl, aa_bw 79 (by decide +kernel) rfl, ⟨by decide +kernel, by decide +kernel⟩, by decide +kernel⟩
theorem ci_93 : Cond.instanceMethod (ac_r93).1 ∈ aa_BW := aa_bw 825 (by decide +kernel) rfl
theorem cv_93 : Cond.selects (ac_r93).1.cls (ac_r93).1 (ac_r93).1 ∈ aa_BW := aa_bw 826 (by decide +kernel) rfl
theorem lk_RX10_244 : ac_lk RX10 244 (ac_r93).1 := Or.inl (aa_bw 824 (by decide +kernel) rfl)
theorem cx_RX10_244 {M : ac_R} (h : M.1.cls = RX10) : ac_cv M 244 93 1 4 7 ac_r93 := ⟨ce_93, by rw [h]; exact lk_RX10_244, ci_93, cv_93, rfl, by decide, (RX7, TX7, 16), rfl, rfl, by decide⟩
theorem ce_189 : ac_ce 189 2 ac_r189 := ⟨mk_189, by decide +kernel, aa_bw 959 (by decide +kernel) rfl, aa_bw 73 (by decide +kernel) rfl, ⟨by decide +kernel, by decide +kernel⟩, by decide +kernel⟩
theorem ci_189 : Cond.instanceMethod (ac_r189).1 ∈ aa_BW := aa_bw 958 (by decide +kernel) rfl
theorem cv_189 : Cond.selects (ac_r189).1.cls (ac_r189).1 (ac_r189).1 ∈ aa_BW := aa_bw 28 (by decide +kernel) rfl
theorem lk_RX10_247 : ac_lk RX10 247 (ac_r189).1 := Or.inl (aa_bw 956 (by decide +kernel) rfl)
theorem cx_RX10_247 {M : ac_R} (h : M.1.cls = RX10) : ac_cv M 247 189 2 6 10 ac_r189 := ⟨ce_189, by rw [h]; exact lk_RX10_247, ci_189, cv_189, rfl, by decide, (RX10, TX10, 14), rfl, rfl, by decide⟩
theorem fd_RX10_44 {M : ac_R} (h : M.1.cls = RX10) : ac_fd M 44 10 4 1 := by
  refine ac_fd.of (RX10, TX10, 14) rfl (by decide) aa_inW10 539 ?_ rfl rfl (by decide)
  rw [h]
  decide +kernel
theorem ce_11 : ac_ce 11 3 ac_r11 := ⟨mk_11, by decide +kernel, aa_bw 975 (by decide +kernel) rfl, aa_bw 80 (by decide +kernel) rfl, ⟨by decide +kernel, by decide +kernel⟩, by decide +kernel⟩
theorem ci_11 : Cond.instanceMethod (ac_r11).1 ∈ aa_BW := aa_bw 973 (by decide +kernel) rfl
theorem cv_11 : Cond.selects (ac_r11).1.cls (ac_r11).1 (ac_r11).1 ∈ aa_BW := aa_bw 974 (by decide +kernel) rfl
theorem lk_RX10_250 : ac_lk RX10 250 (ac_r11).1 := Or.inl (aa_bw 972 (by decide +kernel) rfl)
theorem cx_RX10_250 {M : ac_R} (h : M.1.cls = RX10) : ac_cv M 250 11 3 6 1 ac_r11 := ⟨ce_11, by rw [h]; exact lk_RX10_250, ci_11, cv_11, rfl, by decide, (RX1, TX1, 6), rfl, rfl, by decide⟩
theorem ce_12 : ac_ce 12 2 ac_r12 := ⟨mk_12, by decide +kernel, aa_bw 983 (by decide +kernel) rfl, aa_bw 80 (by decide +kernel) rfl, ⟨by decide +kernel, by decide +kernel⟩, by decide +kernel⟩
theorem ci_12 : Cond.instanceMethod (ac_r12).1 ∈ aa_BW := aa_bw 981 (by decide +kernel) rfl
theorem cv_12 : Cond.selects (ac_r12).1.cls (ac_r12).1 (ac_r12).1 ∈ aa_BW := aa_bw 982 (by decide +kernel) rfl
theorem lk_RX10_253 : ac_lk RX10 253 (ac_r12).1 := Or.inl (aa_bw 980 (by decide +kernel) rfl)
theorem cx_RX10_253 {M : ac_R} (h : M.1.cls = RX10) : ac_cv M 253 12 2 4 1 ac_r12 := ⟨ce_12, by rw [h]; exact lk_RX10_253, ci_12, cv_12, rfl, by decide, (RX1, TX1, 6), rfl, rfl, by decide⟩
theorem ce_81 : ac_ce 81 0 ac_r81 := ⟨mk_81, by decide +kernel, aa_bw 963 (by decide +kernel) rfl, aa_bw 79 (by decide +kernel) rfl, ⟨by decide +kernel, by decide +kernel⟩, by decide +kernel⟩
theorem ci_81 : Cond.instanceMethod (ac_r81).1 ∈ aa_BW := aa_bw 961 (by decide +kernel) rfl
theorem cv_81 : Cond.selects (ac_r81).1.cls (ac_r81).1 (ac_r81).1 ∈ aa_BW := aa_bw 962 (by decide +kernel) rfl
theorem lk_RX10_256 : ac_lk RX10 256 (ac_r81).1 := Or.inl (aa_bw 960 (by decide +kernel) rfl)
theorem cx_RX10_256 {M : ac_R} (h : M.1.cls = RX10) : ac_cv M 256 81 0 1 7 ac_r81 := ⟨ce_81, by rw [h]; exact lk_RX10_256, ci_81, cv_81, rfl, by decide, (RX7, TX7, 16), rfl, rfl, by decide⟩
theorem lk_RX10_259 : ac_lk RX10 259 (ac_r13).1 := Or.inl (aa_bw 988 (by decide +kernel) rfl)
theorem cx_RX10_259 {M : ac_R} (h : M.1.cls = RX10) : ac_cv M 259 13 2 6 1 ac_r13 := ⟨ce_13, by rw [h]; exact lk_RX10_259, ci_13, cv_13, rfl, by decide, (RX1, TX1, 6), rfl, rfl, by decide⟩
theorem ce_14 : ac_ce 14 1 ac_r14 := ⟨mk_14, by decide +kernel, aa_bw 999 (by decide +kernel) rfl, aa_bw 80 (by decide +kernel) rfl, ⟨by decide +kernel, by decide +kernel⟩, by decide +kernel⟩
theorem ci_14 : Cond.instanceMethod (ac_r14).1 ∈ aa_BW := aa_bw 997 (by decide +kernel) rfl
theorem cv_14 : Cond.selects (ac_r14).1.cls (ac_r14).1 (ac_r14).1 ∈ aa_BW := aa_bw 998 (by decide +kernel) rfl
theorem lk_RX10_262 : ac_lk RX10 262 (ac_r14).1 := Or.inl (aa_bw 996 (by decide +kernel) rfl)
theorem cx_RX10_262 {M : ac_R} (h : M.1.cls = RX10) : ac_cv M 262 14 1 6 1 ac_r14 := ⟨ce_14, by rw [h]; exact lk_RX10_262, ci_14, cv_14, rfl, by decide, (RX1, TX1, 6), rfl, rfl, by decide⟩
theorem lk_RX10_265 : ac_lk RX10 265 (ac_r285).1 := Or.inl (aa_bw 818 (by decide +kernel) rfl)
theorem ce_190 : ac_ce 190 3 ac_r190 := ⟨mk_190, by decide +kernel, aa_bw 1017 (by decide +kernel) rfl, aa_bw 73 (by decide +kernel) rfl, ⟨by decide +kernel, by decide +kernel⟩, by decide +kernel⟩
theorem ci_190 : Cond.instanceMethod (ac_r190).1 ∈ aa_BW := aa_bw 1016 (by decide +kernel) rfl
theorem cv_190 : Cond.selects (ac_r190).1.cls (ac_r190).1 (ac_r190).1 ∈ aa_BW := aa_bw 31 (by decide +kernel) rfl
theorem lk_RX10_270 : ac_lk RX10 270 (ac_r190).1 := Or.inl (aa_bw 1014 (by decide +kernel) rfl)
theorem cx_RX10_270 {M : ac_R} (h : M.1.cls = RX10) : ac_cv M 270 190 3 6 10 ac_r190 := ⟨ce_190, by rw [h]; exact lk_RX10_270, ci_190, cv_190, rfl, by decide, (RX10, TX10, 14), rfl, rfl, by decide⟩
theorem fd_RX10_51 {M : ac_R} (h : M.1.cls = RX10) : ac_fd M 51 10 5 1 := by
  refine ac_fd.of (RX10, TX10, 14) rfl (by decide) aa_inW10 540 ?_ rfl rfl (by decide)
  rw [h]
  decide +kernel
theorem ce_3 : ac_ce 3 2 ac_r3 := ⟨mk_3, by decide +kernel, aa_bw 1035 (by decide +kernel) rfl, aa_bw 81 (by decide +kernel) rfl, ⟨by decide +kernel, by decide +kernel⟩, by decide +kernel⟩
theorem ci_3 : Cond.instanceMethod (ac_r3).1 ∈ aa_BW := aa_bw 1033 (by decide +kernel) rfl
theorem cv_3 : Cond.selects (ac_r3).1.cls (ac_r3).1 (ac_r3).1 ∈ aa_BW := aa_bw 1034 (by decide +kernel) rfl
theorem lk_RX10_273 : ac_lk RX10 273 (ac_r3).1 := Or.inl (aa_bw 1032 (by decide +kernel) rfl)
theorem cx_RX10_273 {M : ac_R} (h : M.1.cls = RX10) : ac_cv M 273 3 2 3 0 ac_r3 := ⟨ce_3, by rw [h]; exact lk_RX10_273, ci_3, cv_3, rfl, by decide, (RX0, TX0, 4), rfl, rfl, by decide⟩
theorem ce_1 : ac_ce 1 1 ac_r1 := ⟨mk_1, by decide +kernel, aa_bw 1043 (by decide +kernel) rfl, aa_bw 81 (by decide +kernel) rfl, ⟨by decide +kernel, by decide +kernel⟩, by decide +kernel⟩
theorem ci_1 : Cond.instanceMethod (ac_r1).1 ∈ aa_BW := aa_bw 1041 (by decide +kernel) rfl
theorem cv_1 : Cond.selects (ac_r1).1.cls (ac_r1).1 (ac_r1).1 ∈ aa_BW := aa_bw 1042 (by decide +kernel) rfl
theorem lk_RX10_276 : ac_lk RX10 276 (ac_r1).1 := Or.inl (aa_bw 1040 (by decide +kernel) rfl)
theorem cx_RX10_276 {M : ac_R} (h : M.1.cls = RX10) : ac_cv M 276 1 1 2 0 ac_r1 := ⟨ce_1, by rw [h]; exact lk_RX10_276, ci_1, cv_1, rfl, by decide, (RX0, TX0, 4), rfl, rfl, by decide⟩
theorem ce_4 : ac_ce 4 2 ac_r4 := ⟨mk_4, by decide +kernel, aa_bw 1048 (by decide +kernel) rfl, aa_bw 81 (by decide +kernel) rfl, ⟨by decide +kernel, by decide +kernel⟩, by decide +kernel⟩
theorem ci_4 : Cond.instanceMethod (ac_r4).1 ∈ aa_BW := aa_bw 1046 (by decide +kernel) rfl
theorem cv_4 : Cond.selects (ac_r4).1.cls (ac_r4).1 (ac_r4).1 ∈ aa_BW := aa_bw 1047 (by decide +kernel) rfl
theorem lk_RX10_279 : ac_lk RX10 279 (ac_r4).1 := Or.inl (aa_bw 1045 (by decide +kernel) rfl)
theorem cx_RX10_279 {M : ac_R} (h : M.1.cls = RX10) : ac_cv M 279 4 2 4 0 ac_r4 := ⟨ce_4, by rw [h]; exact lk_RX10_279, ci_4, cv_4, rfl, by decide, (RX0, TX0, 4), rfl, rfl, by decide⟩
theorem ce_5 : ac_ce 5 2 ac_r5 := ⟨mk_5, by decide +kernel, aa_bw 1056 (by decide +kernel) rfl, aa_bw 81 (by decide +kernel) rfl, ⟨by decide +kernel, by decide +kernel⟩, by decide +kernel⟩
theorem ci_5 : Cond.instanceMethod (ac_r5).1 ∈ aa_BW := aa_bw 1054 (by decide +kernel) rfl
theorem cv_5 : Cond.selects (ac_r5).1.cls (ac_r5).1 (ac_r5).1 ∈ aa_BW := aa_bw 1055 (by decide +kernel) rfl
theorem lk_RX10_282 : ac_lk RX10 282 (ac_r5).1 := Or.inl (aa_bw 1053 (by decide +kernel) rfl)
theorem cx_RX10_282 {M : ac_R} (h : M.1.cls = RX10) : ac_cv M 282 5 2 6 0 ac_r5 := ⟨ce_5, by rw [h]; exact lk_RX10_282, ci_5, cv_5, rfl, by decide, (RX0, TX0, 4), rfl, rfl, by decide⟩
theorem ce_95 : ac_ce 95 1 ac_r95 := ⟨mk_95, by decide +kernel, aa_bw 1076 (by decide +kernel) rfl, aa_bw 82 (by decide +kernel) rfl, ⟨by decide +kernel, by decide +kernel⟩, by decide +kernel⟩
theorem cs_95 : Cond.static (ac_r95).1 ∈ aa_BW := aa_bw 1075 (by decide +kernel) rfl
theorem lk_RX10_285 : ac_lk RX10 285 (ac_r95).1 := Or.inl (aa_bw 1074 (by decide +kernel) rfl)
theorem fd_RX10_58 {M : ac_R} (h : M.1.cls = RX10) : ac_fd M 58 10 6 1 := by
  refine ac_fd.of (RX10, TX10, 14) rfl (by decide) aa_inW10 541 ?_ rfl rfl (by decide)
  rw [h]
  decide +kernel
theorem ce_97 : ac_ce 97 1 ac_r97 := ⟨mk_97, by decide +kernel, aa_bw 1081 (by decide +kernel) rfl, aa_bw 82 (by decide +kernel) rfl, ⟨by decide +kernel, by decide +kernel⟩, by decide +kernel⟩
theorem ci_97 : Cond.instanceMethod (ac_r97).1 ∈ aa_BW := aa_bw 1079 (by decide +kernel) rfl
theorem cv_97 : Cond.selects (ac_r97).1.cls (ac_r97).1 (ac_r97).1 ∈ aa_BW := aa_bw 1080 (by decide +kernel) rfl
theorem lk_RX10_289 : ac_lk RX10 289 (ac_r97).1 := Or.inl (aa_bw 1078 (by decide +kernel) rfl)
theorem cx_RX10_289 {M : ac_R} (h : M.1.cls = RX10) : ac_cv M 289 97 1 6 8 ac_r97 := ⟨ce_97, by rw [h]; exact lk_RX10_289, ci_97, cv_97, rfl, by decide, (RX8, TX8, 2), rfl, rfl, by decide⟩
theorem ce_99 : ac_ce 99 1 ac_r99 := ⟨mk_99, by decide +kernel, aa_bw 1090 (by decide +kernel) rfl, aa_bw 82 (by decide +kernel) rfl, ⟨by decide +kernel, by decide +kernel⟩, by decide +kernel⟩
theorem ci_99 : Cond.instanceMethod (ac_r99).1 ∈ aa_BW := aa_bw 1088 (by decide +kernel) rfl
theorem cv_99 : Cond.selects (ac_r99).1.cls (ac_r99).1 (ac_r99).1 ∈ aa_BW := aa_bw 1089 (by decide +kernel) rfl
theorem lk_RX10_293 : ac_lk RX10 293 (ac_r99).1 := Or.inl (aa_bw 1087 (by decide +kernel) rfl)
theorem cx_RX10_293 {M : ac_R} (h : M.1.cls = RX10) : ac_cv M 293 99 1 8 8 ac_r99 := ⟨ce_99, by rw [h]; exact lk_RX10_293, ci_99, cv_99, rfl, by decide, (RX8, TX8, 2), rfl, rfl, by decide⟩
theorem lk_RX10_296 : ac_lk RX10 296 (ac_r100).1 := Or.inl (aa_bw 1110 (by decide +kernel) rfl)
theorem cx_RX10_296 {M : ac_R} (h : M.1.cls = RX10) : ac_cv M 296 100 2 5 8 ac_r100 := ⟨ce_100, by rw [h]; exact lk_RX10_296, ci_100, cv_100, rfl, by decide, (RX8, TX8, 2), rfl, rfl, by decide⟩
theorem lk_RX10_299 : ac_lk RX10 299 (ac_r98).1 := Or.inl (aa_bw 1111 (by decide +kernel) rfl)
theorem ce_109 : ac_ce 109 0 ac_r109 := ⟨mk_109, by decide +kernel, aa_bw 1021 (by decide +kernel) rfl, aa_bw 77 (by decide +kernel) rfl, ⟨by decide +kernel, by decide +kernel⟩, by decide +kernel⟩
theorem ci_109 : Cond.instanceMethod (ac_r109).1 ∈ aa_BW := aa_bw 1019 (by decide +kernel) rfl
theorem cv_109 : Cond.selects (ac_r109).1.cls (ac_r109).1 (ac_r109).1 ∈ aa_BW := aa_bw 1020 (by decide +kernel) rfl
theorem lk_RX10_302 : ac_lk RX10 302 (ac_r109).1 := Or.inl (aa_bw 1018 (by decide +kernel) rfl)
theorem cx_RX10_302 {M : ac_R} (h : M.1.cls = RX10) : ac_cv M 302 109 0 1 9 ac_r109 := ⟨ce_109, by rw [h]; exact lk_RX10_302, ci_109, cv_109, rfl, by decide, (RX9, TX9, 10), rfl, rfl, by decide⟩
theorem ce_19 : ac_ce 19 0 ac_r19 := ⟨mk_19, by decide +kernel, aa_bw 1119 (by decide +kernel) rfl, aa_bw 78 (by decide +kernel) rfl, ⟨by decide +kernel, by decide +kernel⟩, by decide +kernel⟩
theorem ci_19 : Cond.instanceMethod (ac_r19).1 ∈ aa_BW := aa_bw 1117 (by decide +kernel) rfl
theorem cv_19 : Cond.selects (ac_r19).1.cls (ac_r19).1 (ac_r19).1 ∈ aa_BW := aa_bw 1118 (by decide +kernel) rfl
theorem lk_RX10_305 : ac_lk RX10 305 (ac_r19).1 := Or.inl (aa_bw 1116 (by decide +kernel) rfl)
theorem cx_RX10_305 {M : ac_R} (h : M.1.cls = RX10) : ac_cv M 305 19 0 1 2 ac_r19 := ⟨ce_19, by rw [h]; exact lk_RX10_305, ci_19, cv_19, rfl, by decide, (RX2, TX2, 5), rfl, rfl, by decide⟩
theorem ce_82 : ac_ce 82 0 ac_r82 := ⟨mk_82, by decide +kernel, aa_bw 1123 (by decide +kernel) rfl, aa_bw 79 (by decide +kernel) rfl, ⟨by decide +kernel, by decide +kernel⟩, by decide +kernel⟩
theorem ci_82 : Cond.instanceMethod (ac_r82).1 ∈ aa_BW := aa_bw 1121 (by decide +kernel) rfl
theorem cv_82 : Cond.selects (ac_r82).1.cls (ac_r82).1 (ac_r82).1 ∈ aa_BW := aa_bw 1122 (by decide +kernel) rfl
theorem lk_RX10_308 : ac_lk RX10 308 (ac_r82).1 := Or.inl (aa_bw 1120 (by decide +kernel) rfl)
theorem cx_RX10_308 {M : ac_R} (h : M.1.cls = RX10) : ac_cv M 308 82 0 1 7 ac_r82 := ⟨ce_82, by rw [h]; exact lk_RX10_308, ci_82, cv_82, rfl, by decide, (RX7, TX7, 16), rfl, rfl, by decide⟩
theorem ce_83 : ac_ce 83 0 ac_r83 := ⟨mk_83, by decide +kernel, aa_bw 1127 (by decide +kernel) rfl, aa_bw 79 (by decide +kernel) rfl, ⟨by decide +kernel, by decide +kernel⟩, by decide +kernel⟩
theorem ci_83 : Cond.instanceMethod (ac_r83).1 ∈ aa_BW := aa_bw 1125 (by decide +kernel) rfl
theorem cv_83 : Cond.selects (ac_r83).1.cls (ac_r83).1 (ac_r83).1 ∈ aa_BW := aa_bw 1126 (by decide +kernel) rfl
theorem lk_RX10_311 : ac_lk RX10 311 (ac_r83).1 := Or.inl (aa_bw 1124 (by decide +kernel) rfl)
theorem cx_RX10_311 {M : ac_R} (h : M.1.cls = RX10) : ac_cv M 311 83 0 1 7 ac_r83 := ⟨ce_83, by rw [h]; exact lk_RX10_311, ci_83, cv_83, rfl, by decide, (RX7, TX7, 16), rfl, rfl, by decide⟩
theorem ce_10 : ac_ce 10 0 ac_r10 := ⟨mk_10, by decide +kernel, aa_bw 1131 (by decide +kernel) rfl, aa_bw 80 (by decide +kernel) rfl, ⟨by decide +kernel, by decide +kernel⟩, by decide +kernel⟩
theorem ci_10 : Cond.instanceMethod (ac_r10).1 ∈ aa_BW := aa_bw 1129 (by decide +kernel) rfl
theorem cv_10 : Cond.selects (ac_r10).1.cls (ac_r10).1 (ac_r10).1 ∈ aa_BW := aa_bw 1130 (by decide +kernel) rfl
theorem lk_RX10_314 : ac_lk RX10 314 (ac_r10).1 := Or.inl (aa_bw 1128 (by decide +kernel) rfl)
theorem cx_RX10_314 {M : ac_R} (h : M.1.cls = RX10) : ac_cv M 314 10 0 1 1 ac_r10 := ⟨ce_10, by rw [h]; exact lk_RX10_314, ci_10, cv_10, rfl, by decide, (RX1, TX1, 6), rfl, rfl, by decide⟩
theorem ce_2 : ac_ce 2 0 ac_r2 := ⟨mk_2, by decide +kernel, aa_bw 1135 (by decide +kernel) rfl, aa_bw 81 (by decide +kernel) rfl, ⟨by decide +kernel, by decide +kernel⟩, by decide +kernel⟩
theorem ci_2 : Cond.instanceMethod (ac_r2).1 ∈ aa_BW := aa_bw 1133 (by decide +kernel) rfl
theorem cv_2 : Cond.selects (ac_r2).1.cls (ac_r2).1 (ac_r2).1 ∈ aa_BW := aa_bw 1134 (by decide +kernel) rfl
theorem lk_RX10_317 : ac_lk RX10 317 (ac_r2).1 := Or.inl (aa_bw 1132 (by decide +kernel) rfl)
theorem cx_RX10_317 {M : ac_R} (h : M.1.cls = RX10) : ac_cv M 317 2 0 1 0 ac_r2 := ⟨ce_2, by rw [h]; exact lk_RX10_317, ci_2, cv_2, rfl, by decide, (RX0, TX0, 4), rfl, rfl, by decide⟩
theorem ce_96 : ac_ce 96 0 ac_r96 := ⟨mk_96, by decide +kernel, aa_bw 1139 (by decide +kernel) rfl, aa_bw 82 (by decide +kernel) rfl, ⟨by decide +kernel, by decide +kernel⟩, by decide +kernel⟩
theorem ci_96 : Cond.instanceMethod (ac_r96).1 ∈ aa_BW := aa_bw 1137 (by decide +kernel) rfl
theorem cv_96 : Cond.selects (ac_r96).1.cls (ac_r96).1 (ac_r96).1 ∈ aa_BW := aa_bw 1138 (by decide +kernel) rfl
theorem lk_RX10_320 : ac_lk RX10 320 (ac_r96).1 := Or.inl (aa_bw 1136 (by decide +kernel) rfl)
theorem cx_RX10_320 {M : ac_R} (h : M.1.cls = RX10) : ac_cv M 320 96 0 1 8 ac_r96 := ⟨ce_96, by rw [h]; exact lk_RX10_320, ci_96, cv_96, rfl, by decide, (RX8, TX8, 2), rfl, rfl, by decide⟩
theorem ce_25 : ac_ce 25 0 ac_r25 := ⟨mk_25, by decide +kernel, aa_bw 1143 (by decide +kernel) rfl, aa_bw 84 (by decide +kernel) rfl, ⟨by decide +kernel, by decide +kernel⟩, by decide +kernel⟩
theorem ci_25 : Cond.instanceMethod (ac_r25).1 ∈ aa_BW := aa_bw 1141 (by decide +kernel) rfl
theorem cv_25 : Cond.selects (ac_r25).1.cls (ac_r25).1 (ac_r25).1 ∈ aa_BW := aa_bw 1142 (by decide +kernel) rfl
theorem lk_RX10_323 : ac_lk RX10 323 (ac_r25).1 := Or.inl (aa_bw 1140 (by decide +kernel) rfl)
theorem cx_RX10_323 {M : ac_R} (h : M.1.cls = RX10) : ac_cv M 323 25 0 1 3 ac_r25 := ⟨ce_25, by rw [h]; exact lk_RX10_323, ci_25, cv_25, rfl, by decide, (RX3, TX3, 9), rfl, rfl, by decide⟩
theorem ce_123 : ac_ce 123 1 ac_r123 := ⟨mk_123, by decide +kernel, aa_bw 1147 (by decide +kernel) rfl, aa_bw 77 (by decide +kernel) rfl, ⟨by decide +kernel, by decide +kernel⟩, by decide +kernel⟩
theorem ci_123 : Cond.instanceMethod (ac_r123).1 ∈ aa_BW := aa_bw 1145 (by decide +kernel) rfl
theorem cv_123 : Cond.selects (ac_r123).1.cls (ac_r123).1 (ac_r123).1 ∈ aa_BW := aa_bw 1146 (by decide +kernel) rfl
theorem lk_RX10_326 : ac_lk RX10 326 (ac_r123).1 := Or.inl (aa_bw 1144 (by decide +kernel) rfl)
theorem cx_RX10_326 {M : ac_R} (h : M.1.cls = RX10) : ac_cv M 326 123 1 4 9 ac_r123 := ⟨ce_123, by rw [h]; exact lk_RX10_326, ci_123, cv_123, rfl, by decide, (RX9, TX9, 10), rfl, rfl, by decide⟩
theorem ce_56 : ac_ce 56 1 ac_r56 := ⟨mk_56, by decide +kernel, aa_bw 1154 (by decide +kernel) rfl, aa_bw 83 (by decide +kernel) rfl, ⟨by decide +kernel, by decide +kernel⟩, by decide +kernel⟩
theorem cs_56 : Cond.static (ac_r56).1 ∈ aa_BW := aa_bw 1153 (by decide +kernel) rfl
theorem lk_RX10_329 : ac_lk RX10 329 (ac_r56).1 := Or.inl (aa_bw 1152 (by decide +kernel) rfl)
theorem ce_57 : ac_ce 57 1 ac_r57 := ⟨mk_57, by decide +kernel, aa_bw 1158 (by decide +kernel) rfl, aa_bw 83 (by decide +kernel) rfl, ⟨by decide +kernel, by decide +kernel⟩, by decide +kernel⟩
theorem cs_57 : Cond.static (ac_r57).1 ∈ aa_BW := aa_bw 1157 (by decide +kernel) rfl
theorem lk_RX10_332 : ac_lk RX10 332 (ac_r57).1 := Or.inl (aa_bw 1156 (by decide +kernel) rfl)
theorem fd_RX10_65 {M : ac_R} (h : M.1.cls = RX10) : ac_fd M 65 10 7 1 := by
  refine ac_fd.of (RX10, TX10, 14) rfl (by decide) aa_inW10 542 ?_ rfl rfl (by decide)
  rw [h]
  decide +kernel
theorem ce_62 : ac_ce 62 1 ac_r62 := ⟨mk_62, by decide +kernel, aa_bw 1162 (by decide +kernel) rfl, aa_bw 83 (by decide +kernel) rfl, ⟨by decide +kernel, by decide +kernel⟩, by decide +kernel⟩
theorem ci_62 : Cond.instanceMethod (ac_r62).1 ∈ aa_BW := aa_bw 1160 (by decide +kernel) rfl
theorem cv_62 : Cond.selects (ac_r62).1.cls (ac_r62).1 (ac_r62).1 ∈ aa_BW := aa_bw 1161 (by decide +kernel) rfl
theorem lk_RX10_335 : ac_lk RX10 335 (ac_r62).1 := Or.inl (aa_bw 1159 (by decide +kernel) rfl)
theorem cx_RX10_335 {M : ac_R} (h : M.1.cls = RX10) : ac_cv M 335 62 1 2 5 ac_r62 := ⟨ce_62, by rw [h]; exact lk_RX10_335, ci_62, cv_62, rfl, by decide, (RX5, TX5, 3), rfl, rfl, by decide⟩
theorem ce_63 : ac_ce 63 3 ac_r63 := ⟨mk_63, by decide +kernel, aa_bw 1166 (by decide +kernel) rfl, aa_bw 83 (by decide +kernel) rfl, ⟨by decide +kernel, by decide +kernel⟩, by decide +kernel⟩
theorem ci_63 : Cond.instanceMethod (ac_r63).1 ∈ aa_BW := aa_bw 1164 (by decide +kernel) rfl
theorem cv_63 : Cond.selects (ac_r63).1.cls (ac_r63).1 (ac_r63).1 ∈ aa_BW := aa_bw 1165 (by decide +kernel) rfl
theorem lk_RX10_339 : ac_lk RX10 339 (ac_r63).1 := Or.inl (aa_bw 1163 (by decide +kernel) rfl)
theorem cx_RX10_339 {M : ac_R} (h : M.1.cls = RX10) : ac_cv M 339 63 3 4 5 ac_r63 := ⟨ce_63, by rw [h]; exact lk_RX10_339, ci_63, cv_63, rfl, by decide, (RX5, TX5, 3), rfl, rfl, by decide⟩
theorem ce_58 : ac_ce 58 1 ac_r58 := ⟨mk_58, by decide +kernel, aa_bw 1174 (by decide +kernel) rfl, aa_bw 83 (by decide +kernel) rfl, ⟨by decide +kernel, by decide +kernel⟩, by decide +kernel⟩
theorem ci_58 : Cond.instanceMethod (ac_r58).1 ∈ aa_BW := aa_bw 1172 (by decide +kernel) rfl
theorem cv_58 : Cond.selects (ac_r58).1.cls (ac_r58).1 (ac_r58).1 ∈ aa_BW := aa_bw 1173 (by decide +kernel) rfl
theorem lk_RX10_342 : ac_lk RX10 342 (ac_r58).1 := Or.inl (aa_bw 1171 (by decide +kernel) rfl)
theorem cx_RX10_342 {M : ac_R} (h : M.1.cls = RX10) : ac_cv M 342 58 1 2 5 ac_r58 := ⟨ce_58, by rw [h]; exact lk_RX10_342, ci_58, cv_58, rfl, by decide, (RX5, TX5, 3), rfl, rfl, by decide⟩
theorem ce_60 : ac_ce 60 2 ac_r60 := ⟨mk_60, by decide +kernel, aa_bw 1178 (by decide +kernel) rfl, aa_bw 83 (by decide +kernel) rfl, ⟨by decide +kernel, by decide +kernel⟩, by decide +kernel⟩
theorem ci_60 : Cond.instanceMethod (ac_r60).1 ∈ aa_BW := aa_bw 1176 (by decide +kernel) rfl
theorem cv_60 : Cond.selects (ac_r60).1.cls (ac_r60).1 (ac_r60).1 ∈ aa_BW := aa_bw 1177 (by decide +kernel) rfl
theorem lk_RX10_345 : ac_lk RX10 345 (ac_r60).1 := Or.inl (aa_bw 1175 (by decide +kernel) rfl)
theorem cx_RX10_345 {M : ac_R} (h : M.1.cls = RX10) : ac_cv M 345 60 2 3 5 ac_r60 := ⟨ce_60, by rw [h]; exact lk_RX10_345, ci_60, cv_60, rfl, by decide, (RX5, TX5, 3), rfl, rfl, by decide⟩
theorem ce_64 : ac_ce 64 3 ac_r64 := ⟨mk_64, by decide +kernel, aa_bw 1182 (by decide +kernel) rfl, aa_bw 83 (by decide +kernel) rfl, ⟨by decide +kernel, by decide +kernel⟩, by decide +kernel⟩
theorem ci_64 : Cond.instanceMethod (ac_r64).1 ∈ aa_BW := aa_bw 1180 (by decide +kernel) rfl
theorem cv_64 : Cond.selects (ac_r64).1.cls (ac_r64).1 (ac_r64).1 ∈ aa_BW := aa_bw 1181 (by decide +kernel) rfl
theorem lk_RX10_348 : ac_lk RX10 348 (ac_r64).1 := Or.inl (aa_bw 1179 (by decide +kernel) rfl)
theorem cx_RX10_348 {M : ac_R} (h : M.1.cls = RX10) : ac_cv M 348 64 3 4 5 ac_r64 := ⟨ce_64, by rw [h]; exact lk_RX10_348, ci_64, cv_64, rfl, by decide, (RX5, TX5, 3), rfl, rfl, by decide⟩
theorem ce_59 : ac_ce 59 1 ac_r59 := ⟨mk_59, by decide +kernel, aa_bw 1190 (by decide +kernel) rfl, aa_bw 83 (by decide +kernel) rfl, ⟨by decide +kernel, by decide +kernel⟩, by decide +kernel⟩
theorem ci_59 : Cond.instanceMethod (ac_r59).1 ∈ aa_BW := aa_bw 1188 (by decide +kernel) rfl
theorem cv_59 : Cond.selects (ac_r59).1.cls (ac_r59).1 (ac_r59).1 ∈ aa_BW := aa_bw 1189 (by decide +kernel) rfl
theorem lk_RX10_350 : ac_lk RX10 350 (ac_r59).1 := Or.inl (aa_bw 1187 (by decide +kernel) rfl)
theorem cx_RX10_350 {M : ac_R} (h : M.1.cls = RX10) : ac_cv M 350 59 1 2 5 ac_r59 := ⟨ce_59, by rw [h]; exact lk_RX10_350, ci_59, cv_59, rfl, by decide, (RX5, TX5, 3), rfl, rfl, by decide⟩
theorem ce_61 : ac_ce 61 3 ac_r61 := ⟨mk_61, by decide +kernel, aa_bw 1194 (by decide +kernel) rfl, aa_bw 83 (by decide +kernel) rfl, ⟨by decide +kernel, by decide +kernel⟩, by decide +kernel⟩
theorem ci_61 : Cond.instanceMethod (ac_r61).1 ∈ aa_BW := aa_bw 1192 (by decide +kernel) rfl
theorem cv_61 : Cond.selects (ac_r61).1.cls (ac_r61).1 (ac_r61).1 ∈ aa_BW := aa_bw 1193 (by decide +kernel) rfl
theorem lk_RX10_353 : ac_lk RX10 353 (ac_r61).1 := Or.inl (aa_bw 1191 (by decide +kernel) rfl)
theorem cx_RX10_353 {M : ac_R} (h : M.1.cls = RX10) : ac_cv M 353 61 3 4 5 ac_r61 := ⟨ce_61, by rw [h]; exact lk_RX10_353, ci_61, cv_61, rfl, by decide, (RX5, TX5, 3), rfl, rfl, by decide⟩
theorem ce_66 : ac_ce 66 5 ac_r66 := ⟨mk_66, by decide +kernel, aa_bw 1198 (by decide +kernel) rfl, aa_bw 83 (by decide +kernel) rfl, ⟨by decide +kernel, by decide +kernel⟩, by decide +kernel⟩
theorem ci_66 : Cond.instanceMethod (ac_r66).1 ∈ aa_BW := aa_bw 1196 (by decide +kernel) rfl
theorem cv_66 : Cond.selects (ac_r66).1.cls (ac_r66).1 (ac_r66).1 ∈ aa_BW := aa_bw 1197 (by decide +kernel) rfl
theorem lk_RX10_356 : ac_lk RX10 356 (ac_r66).1 := Or.inl (aa_bw 1195 (by decide +kernel) rfl)
theorem cx_RX10_356 {M : ac_R} (h : M.1.cls = RX10) : ac_cv M 356 66 5 6 5 ac_r66 := ⟨ce_66, by rw [h]; exact lk_RX10_356, ci_66, cv_66, rfl, by decide, (RX5, TX5, 3), rfl, rfl, by decide⟩
theorem ce_65 : ac_ce 65 2 ac_r65 := ⟨mk_65, by decide +kernel, aa_bw 1209 (by decide +kernel) rfl, aa_bw 83 (by decide +kernel) rfl, ⟨by decide +kernel, by decide +kernel⟩, by decide +kernel⟩
theorem ci_65 : Cond.instanceMethod (ac_r65).1 ∈ aa_BW := aa_bw 1207 (by decide +kernel) rfl
theorem cv_65 : Cond.selects (ac_r65).1.cls (ac_r65).1 (ac_r65).1 ∈ aa_BW := aa_bw 1208 (by decide +kernel) rfl
theorem lk_RX10_360 : ac_lk RX10 360 (ac_r65).1 := Or.inl (aa_bw 1206 (by decide +kernel) rfl)
theorem cx_RX10_360 {M : ac_R} (h : M.1.cls = RX10) : ac_cv M 360 65 2 3 5 ac_r65 := ⟨ce_65, by rw [h]; exact lk_RX10_360, ci_65, cv_65, rfl, by decide, (RX5, TX5, 3), rfl, rfl, by decide⟩
theorem ce_124 : ac_ce 124 2 ac_r124 := ⟨mk_124, by decide +kernel, aa_bw 1217 (by decide +kernel) rfl, aa_bw 77 (by decide +kernel) rfl, ⟨by decide +kernel, by decide +kernel⟩, by decide +kernel⟩
theorem ci_124 : Cond.instanceMethod (ac_r124).1 ∈ aa_BW := aa_bw 1215 (by decide +kernel) rfl
theorem cv_124 : Cond.selects (ac_r124).1.cls (ac_r124).1 (ac_r124).1 ∈ aa_BW := aa_bw 1216 (by decide +kernel) rfl
theorem lk_RX10_363 : ac_lk RX10 363 (ac_r124).1 := Or.inl (aa_bw 1214 (by decide +kernel) rfl)
theorem cx_RX10_363 {M : ac_R} (h : M.1.cls = RX10) : ac_cv M 363 124 2 5 9 ac_r124 := ⟨ce_124, by rw [h]; exact lk_RX10_363, ci_124, cv_124, rfl, by decide, (RX9, TX9, 10), rfl, rfl, by decide⟩
theorem ce_115 : ac_ce 115 1 ac_r115 := ⟨mk_115, by decide +kernel, aa_bw 713 (by decide +kernel) rfl, aa_bw 77 (by decide +kernel) rfl, ⟨by decide +kernel, by decide +kernel⟩, by decide +kernel⟩
theorem ci_115 : Cond.instanceMethod (ac_r115).1 ∈ aa_BW := aa_bw 711 (by decide +kernel) rfl
theorem cv_115 : Cond.selects (ac_r115).1.cls (ac_r115).1 (ac_r115).1 ∈ aa_BW := aa_bw 712 (by decide +kernel) rfl
theorem lk_RX10_366 : ac_lk RX10 366 (ac_r115).1 := Or.inl (aa_bw 710 (by decide +kernel) rfl)
theorem cx_RX10_366 {M : ac_R} (h : M.1.cls = RX10) : ac_cv M 366 115 1 2 9 ac_r115 := ⟨ce_115, by rw [h]; exact lk_RX10_366, ci_115, cv_115, rfl, by decide, (RX9, TX9, 10), rfl, rfl, by decide⟩
theorem fd_RX10_82 {M : ac_R} (h : M.1.cls = RX10) : ac_fd M 82 10 10 1 := by
  refine ac_fd.of (RX10, TX10, 14) rfl (by decide) aa_inW10 545 ?_ rfl rfl (by decide)
  rw [h]
  decide +kernel
theorem lk_RX10_369 : ac_lk RX10 369 (ac_r299).1 := Or.inl (aa_bw 705 (by decide +kernel) rfl)
theorem ce_113 : ac_ce 113 1 ac_r113 := ⟨mk_113, by decide +kernel, aa_bw 709 (by decide +kernel) rfl, aa_bw 77 (by decide +kernel) rfl, ⟨by decide +kernel, by decide +kernel⟩, by decide +kernel⟩
theorem ci_113 : Cond.instanceMethod (ac_r113).1 ∈ aa_BW := aa_bw 707 (by decide +kernel) rfl
theorem cv_113 : Cond.selects (ac_r113).1.cls (ac_r113).1 (ac_r113).1 ∈ aa_BW := aa_bw 708 (by decide +kernel) rfl
theorem lk_RX10_375 : ac_lk RX10 375 (ac_r113).1 := Or.inl (aa_bw 706 (by decide +kernel) rfl)
theorem cx_RX10_375 {M : ac_R} (h : M.1.cls = RX10) : ac_cv M 375 113 1 2 9 ac_r113 := ⟨ce_113, by rw [h]; exact lk_RX10_375, ci_113, cv_113, rfl, by decide, (RX9, TX9, 10), rfl, rfl, by decide⟩
theorem lk_RX10_378 : ac_lk RX10 378 (ac_r125).1 := Or.inl (aa_bw 714 (by decide +kernel) rfl)
theorem cx_RX10_378 {M : ac_R} (h : M.1.cls = RX10) : ac_cv M 378 125 1 2 9 ac_r125 := ⟨ce_125, by rw [h]; exact lk_RX10_378, ci_125, cv_125, rfl, by decide, (RX9, TX9, 10), rfl, rfl, by decide⟩
theorem ce_72 : ac_ce 72 1 ac_r72 := ⟨mk_72, by decide +kernel, aa_bw 718 (by decide +kernel) rfl, aa_bw 85 (by decide +kernel) rfl, ⟨by decide +kernel, by decide +kernel⟩, by decide +kernel⟩
theorem ci_72 : Cond.instanceMethod (ac_r72).1 ∈ aa_BW := aa_bw 716 (by decide +kernel) rfl
theorem cv_72 : Cond.selects (ac_r72).1.cls (ac_r72).1 (ac_r72).1 ∈ aa_BW := aa_bw 717 (by decide +kernel) rfl
theorem lk_RX10_381 : ac_lk RX10 381 (ac_r72).1 := Or.inl (aa_bw 715 (by decide +kernel) rfl)
theorem cx_RX10_381 {M : ac_R} (h : M.1.cls = RX10) : ac_cv M 381 72 1 2 6 ac_r72 := ⟨ce_72, by rw [h]; exact lk_RX10_381, ci_72, cv_72, rfl, by decide, (RX6, TX6, 4), rfl, rfl, by decide⟩
theorem ce_92 : ac_ce 92 2 ac_r92 := ⟨mk_92, by decide +kernel, aa_bw 813 (by decide +kernel) rfl, aa_bw 79 (by decide +kernel) rfl, ⟨by decide +kernel, by decide +kernel⟩, by decide +kernel⟩
theorem ci_92 : Cond.instanceMethod (ac_r92).1 ∈ aa_BW := aa_bw 811 (by decide +kernel) rfl
theorem cv_92 : Cond.selects (ac_r92).1.cls (ac_r92).1 (ac_r92).1 ∈ aa_BW := aa_bw 812 (by decide +kernel) rfl
theorem lk_RX10_385 : ac_lk RX10 385 (ac_r92).1 := Or.inl (aa_bw 810 (by decide +kernel) rfl)
theorem cx_RX10_385 {M : ac_R} (h : M.1.cls = RX10) : ac_cv M 385 92 2 5 7 ac_r92 := ⟨ce_92, by rw [h]; exact lk_RX10_385, ci_92, cv_92, rfl, by decide, (RX7, TX7, 16), rfl, rfl, by decide⟩
theorem ce_73 : ac_ce 73 1 ac_r73 := ⟨mk_73, by decide +kernel, aa_bw 831 (by decide +kernel) rfl, aa_bw 85 (by decide +kernel) rfl, ⟨by decide +kernel, by decide +kernel⟩, by decide +kernel⟩
theorem ci_73 : Cond.instanceMethod (ac_r73).1 ∈ aa_BW := aa_bw 829 (by decide +kernel) rfl
theorem cv_73 : Cond.selects (ac_r73).1.cls (ac_r73).1 (ac_r73).1 ∈ aa_BW := aa_bw 830 (by decide +kernel) rfl
theorem lk_RX10_388 : ac_lk RX10 388 (ac_r73).1 := Or.inl (aa_bw 828 (by decide +kernel) rfl)
theorem cx_RX10_388 {M : ac_R} (h : M.1.cls = RX10) : ac_cv M 388 73 1 2 6 ac_r73 := ⟨ce_73, by rw [h]; exact lk_RX10_388, ci_73, cv_73, rfl, by decide, (RX6, TX6, 4), rfl, rfl, by decide⟩
theorem lk_RX10_391 : ac_lk RX10 391 (ac_r111).1 := Or.inl (aa_bw 1022 (by decide +kernel) rfl)
theorem cx_RX10_391 {M : ac_R} (h : M.1.cls = RX10) : ac_cv M 391 111 1 2 9 ac_r111 := ⟨ce_111, by rw [h]; exact lk_RX10_391, ci_111, cv_111, rfl, by decide, (RX9, TX9, 10), rfl, rfl, by decide⟩
theorem ce_53 : ac_ce 53 4 ac_r53 := ⟨mk_53, by decide +kernel, aa_bw 1026 (by decide +kernel) rfl, aa_bw 74 (by decide +kernel) rfl, ⟨by decide +kernel, by decide +kernel⟩, by decide +kernel⟩
theorem ci_53 : Cond.instanceMethod (ac_r53).1 ∈ aa_BW := aa_bw 1024 (by decide +kernel) rfl
theorem cv_53 : Cond.selects (ac_r53).1.cls (ac_r53).1 (ac_r53).1 ∈ aa_BW := aa_bw 1025 (by decide +kernel) rfl
theorem lk_RX10_394 : ac_lk RX10 394 (ac_r53).1 := Or.inl (aa_bw 1023 (by decide +kernel) rfl)
theorem cx_RX10_394 {M : ac_R} (h : M.1.cls = RX10) : ac_cv M 394 53 4 6 4 ac_r53 := ⟨ce_53, by rw [h]; exact lk_RX10_394, ci_53, cv_53, rfl, by decide, (RX4, TX4, 3), rfl, rfl, by decide⟩
theorem ce_192 : ac_ce 192 3 ac_r192 := ⟨mk_192, by decide +kernel, aa_bw 1443 (by decide +kernel) rfl, aa_bw 90 (by decide +kernel) rfl, ⟨by decide +kernel, by decide +kernel⟩, by decide +kernel⟩
theorem cs_192 : Cond.static (ac_r192).1 ∈ aa_BW := aa_bw 1442 (by decide +kernel) rfl
theorem lk_RX11_154 : ac_lk RX11 154 (ac_r192).1 := Or.inl (aa_bw 1441 (by decide +kernel) rfl)
theorem fd_RX11_160 {M : ac_R} (h : M.1.cls = RX11) : ac_fd M 160 11 2 0 := by
  refine ac_fd.of (RX11, TX11, 67) rfl (by decide) aa_inW11 1236 ?_ rfl rfl (by decide)
  rw [h]
  decide +kernel
theorem pt_11_2 : ac_pt 11 2 .int := ⟨(RX11, TX11, 67), tyX11, rfl, tyX11_ok, nmX11, rfl, by decide +kernel⟩
theorem ce_193 : ac_ce 193 1 ac_r193 := ⟨mk_193, by decide +kernel, aa_bw 1450 (by decide +kernel) rfl, aa_bw 90 (by decide +kernel) rfl, ⟨by decide +kernel, by decide +kernel⟩, by decide +kernel⟩
theorem cs_193 : Cond.static (ac_r193).1 ∈ aa_BW := aa_bw 1449 (by decide +kernel) rfl
theorem lk_RX11_163 : ac_lk RX11 163 (ac_r193).1 := Or.inl (aa_bw 1448 (by decide +kernel) rfl)
theorem fd_RX11_7 {M : ac_R} (h : M.1.cls = RX11) : ac_fd M 7 11 0 1 := by
  refine ac_fd.of (RX11, TX11, 67) rfl (by decide) aa_inW11 1234 ?_ rfl rfl (by decide)
  rw [h]
  decide +kernel
theorem fd_RX11_13 {M : ac_R} (h : M.1.cls = RX11) : ac_fd M 13 11 1 1 := by
  refine ac_fd.of (RX11, TX11, 67) rfl (by decide) aa_inW11 1235 ?_ rfl rfl (by decide)
  rw [h]
  decide +kernel
theorem ce_194 : ac_ce 194 1 ac_r194 := ⟨mk_194, by decide +kernel, aa_bw 1458 (by decide +kernel) rfl, aa_bw 90 (by decide +kernel) rfl, ⟨by decide +kernel, by decide +kernel⟩, by decide +kernel⟩
theorem cs_194 : Cond.static (ac_r194).1 ∈ aa_BW := aa_bw 1457 (by decide +kernel) rfl
theorem lk_RX11_173 : ac_lk RX11 173 (ac_r194).1 := Or.inl (aa_bw 1456 (by decide +kernel) rfl)
theorem ce_197 : ac_ce 197 1 ac_r197 := ⟨mk_197, by decide +kernel, aa_bw 1463 (by decide +kernel) rfl, aa_bw 90 (by decide +kernel) rfl, ⟨by decide +kernel, by decide +kernel⟩, by decide +kernel⟩
theorem ci_197 : Cond.instanceMethod (ac_r197).1 ∈ aa_BW := aa_bw 1462 (by decide +kernel) rfl
theorem cv_197 : Cond.selects (ac_r197).1.cls (ac_r197).1 (ac_r197).1 ∈ aa_BW := aa_bw 38 (by decide +kernel) rfl
theorem lk_RX11_176 : ac_lk RX11 176 (ac_r197).1 := Or.inl (aa_bw 1460 (by decide +kernel) rfl)
theorem cx_RX11_176 {M : ac_R} (h : M.1.cls = RX11) : ac_cv M 176 197 1 7 11 ac_r197 := ⟨ce_197, by rw [h]; exact lk_RX11_176, ci_197, cv_197, rfl, by decide, (RX11, TX11, 67), rfl, rfl, by decide⟩
theorem fd_RX11_180 {M : ac_R} (h : M.1.cls = RX11) : ac_fd M 180 11 11 0 := by
  refine ac_fd.of (RX11, TX11, 67) rfl (by decide) aa_inW11 1245 ?_ rfl rfl (by decide)
  rw [h]
  decide +kernel
theorem fd_RX11_183 {M : ac_R} (h : M.1.cls = RX11) : ac_fd M 183 11 12 0 := by
  refine ac_fd.of (RX11, TX11, 67) rfl (by decide) aa_inW11 1246 ?_ rfl rfl (by decide)
  rw [h]
  decide +kernel
theorem fd_RX11_16 {M : ac_R} (h : M.1.cls = RX11) : ac_fd M 16 11 3 1 := by
  refine ac_fd.of (RX11, TX11, 67) rfl (by decide) aa_inW11 1237 ?_ rfl rfl (by decide)
  rw [h]
  decide +kernel
theorem fd_RX11_19 {M : ac_R} (h : M.1.cls = RX11) : ac_fd M 19 11 4 1 := by
  refine ac_fd.of (RX11, TX11, 67) rfl (by decide) aa_inW11 1238 ?_ rfl rfl (by decide)
  rw [h]
  decide +kernel
theorem pt_11_11 : ac_pt 11 11 .int := ⟨(RX11, TX11, 67), tyX11, rfl, tyX11_ok, nmX11, rfl, by decide +kernel⟩
theorem ce_199 : ac_ce 199 1 ac_r199 := ⟨mk_199, by decide +kernel, aa_bw 1478 (by decide +kernel) rfl, aa_bw 90 (by decide +kernel) rfl, ⟨by decide +kernel, by decide +kernel⟩, by decide +kernel⟩
theorem ci_199 : Cond.instanceMethod (ac_r199).1 ∈ aa_BW := aa_bw 1477 (by decide +kernel) rfl
theorem cv_199 : Cond.selects (ac_r199).1.cls (ac_r199).1 (ac_r199).1 ∈ aa_BW := aa_bw 39 (by decide +kernel) rfl
theorem lk_RX11_188 : ac_lk RX11 188 (ac_r199).1 := Or.inl (aa_bw 1475 (by decide +kernel) rfl)
theorem cx_RX11_188 {M : ac_R} (h : M.1.cls = RX11) : ac_cv M 188 199 1 2 11 ac_r199 := ⟨ce_199, by rw [h]; exact lk_RX11_188, ci_199, cv_199, rfl, by decide, (RX11, TX11, 67), rfl, rfl, by decide⟩
theorem fd_RX11_22 {M : ac_R} (h : M.1.cls = RX11) : ac_fd M 22 11 5 1 := by
  refine ac_fd.of (RX11, TX11, 67) rfl (by decide) aa_inW11 1239 ?_ rfl rfl (by decide)
  rw [h]
  decide +kernel
theorem fd_RX11_25 {M : ac_R} (h : M.1.cls = RX11) : ac_fd M 25 11 6 1 := by
  refine ac_fd.of (RX11, TX11, 67) rfl (by decide) aa_inW11 1240 ?_ rfl rfl (by decide)
  rw [h]
  decide +kernel
theorem fd_RX11_28 {M : ac_R} (h : M.1.cls = RX11) : ac_fd M 28 11 7 1 := by
  refine ac_fd.of (RX11, TX11, 67) rfl (by decide) aa_inW11 1241 ?_ rfl rfl (by decide)
  rw [h]
  decide +kernel
theorem fd_RX11_31 {M : ac_R} (h : M.1.cls = RX11) : ac_fd M 31 11 8 1 := by
  refine ac_fd.of (RX11, TX11, 67) rfl (by decide) aa_inW11 1242 ?_ rfl rfl (by decide)
  rw [h]
  decide +kernel
theorem pt_11_12 : ac_pt 11 12 .int := ⟨(RX11, TX11, 67), tyX11, rfl, tyX11_ok, nmX11, rfl, by decide +kernel⟩
theorem fd_RX11_34 {M : ac_R} (h : M.1.cls = RX11) : ac_fd M 34 11 9 1 := by
  refine ac_fd.of (RX11, TX11, 67) rfl (by decide) aa_inW11 1243 ?_ rfl rfl (by decide)
  rw [h]
  decide +kernel
theorem ce_204 : ac_ce 204 1 ac_r204 := ⟨mk_204, by decide +kernel, aa_bw 1497 (by decide +kernel) rfl, aa_bw 90 (by decide +kernel) rfl, ⟨by decide +kernel, by decide +kernel⟩, by decide +kernel⟩
theorem ci_204 : Cond.instanceMethod (ac_r204).1 ∈ aa_BW := aa_bw 1496 (by decide +kernel) rfl
theorem cv_204 : Cond.selects (ac_r204).1.cls (ac_r204).1 (ac_r204).1 ∈ aa_BW := aa_bw 41 (by decide +kernel) rfl
theorem lk_RX11_195 : ac_lk RX11 195 (ac_r204).1 := Or.inl (aa_bw 1494 (by decide +kernel) rfl)
theorem cx_RX11_195 {M : ac_R} (h : M.1.cls = RX11) : ac_cv M 195 204 1 3 11 ac_r204 := ⟨ce_204, by rw [h]; exact lk_RX11_195, ci_204, cv_204, rfl, by decide, (RX11, TX11, 67), rfl, rfl, by decide⟩
theorem ce_205 : ac_ce 205 1 ac_r205 := ⟨mk_205, by decide +kernel, aa_bw 1501 (by decide +kernel) rfl, aa_bw 90 (by decide +kernel) rfl, ⟨by decide +kernel, by decide +kernel⟩, by decide +kernel⟩
theorem ci_205 : Cond.instanceMethod (ac_r205).1 ∈ aa_BW := aa_bw 1500 (by decide +kernel) rfl
theorem cv_205 : Cond.selects (ac_r205).1.cls (ac_r205).1 (ac_r205).1 ∈ aa_BW := aa_bw 42 (by decide +kernel) rfl
theorem lk_RX11_199 : ac_lk RX11 199 (ac_r205).1 := Or.inl (aa_bw 1498 (by decide +kernel) rfl)
theorem cx_RX11_199 {M : ac_R} (h : M.1.cls = RX11) : ac_cv M 199 205 1 2 11 ac_r205 := ⟨ce_205, by rw [h]; exact lk_RX11_199, ci_205, cv_205, rfl, by decide, (RX11, TX11, 67), rfl, rfl, by decide⟩
theorem ce_200 : ac_ce 200 1 ac_r200 := ⟨mk_200, by decide +kernel, aa_bw 1492 (by decide +kernel) rfl, aa_bw 90 (by decide +kernel) rfl, ⟨by decide +kernel, by decide +kernel⟩, by decide +kernel⟩
theorem ci_200 : Cond.instanceMethod (ac_r200).1 ∈ aa_BW := aa_bw 1491 (by decide +kernel) rfl
theorem cv_200 : Cond.selects (ac_r200).1.cls (ac_r200).1 (ac_r200).1 ∈ aa_BW := aa_bw 40 (by decide +kernel) rfl
theorem lk_RX11_202 : ac_lk RX11 202 (ac_r200).1 := Or.inl (aa_bw 1489 (by decide +kernel) rfl)
theorem cx_RX11_202 {M : ac_R} (h : M.1.cls = RX11) : ac_cv M 202 200 1 2 11 ac_r200 := ⟨ce_200, by rw [h]; exact lk_RX11_202, ci_200, cv_200, rfl, by decide, (RX11, TX11, 67), rfl, rfl, by decide⟩
theorem ce_206 : ac_ce 206 1 ac_r206 := ⟨mk_206, by decide +kernel, aa_bw 1505 (by decide +kernel) rfl, aa_bw 90 (by decide +kernel) rfl, ⟨by decide +kernel, by decide +kernel⟩, by decide +kernel⟩
theorem ci_206 : Cond.instanceMethod (ac_r206).1 ∈ aa_BW := aa_bw 1504 (by decide +kernel) rfl
theorem cv_206 : Cond.selects (ac_r206).1.cls (ac_r206).1 (ac_r206).1 ∈ aa_BW := aa_bw 43 (by decide +kernel) rfl
theorem lk_RX11_207 : ac_lk RX11 207 (ac_r206).1 := Or.inl (aa_bw 1502 (by decide +kernel) rfl)
theorem cx_RX11_207 {M : ac_R} (h : M.1.cls = RX11) : ac_cv M 207 206 1 2 11 ac_r206 := ⟨ce_206, by rw [h]; exact lk_RX11_207, ci_206, cv_206, rfl, by decide, (RX11, TX11, 67), rfl, rfl, by decide⟩
theorem ce_227 : ac_ce 227 1 ac_r227 := ⟨mk_227, by decide +kernel, aa_bw 1518 (by decide +kernel) rfl, aa_bw 90 (by decide +kernel) rfl, ⟨by decide +kernel, by decide +kernel⟩, by decide +kernel⟩
theorem ci_227 : Cond.instanceMethod (ac_r227).1 ∈ aa_BW := aa_bw 1517 (by decide +kernel) rfl
theorem cv_227 : Cond.selects (ac_r227).1.cls (ac_r227).1 (ac_r227).1 ∈ aa_BW := aa_bw 44 (by decide +kernel) rfl
theorem lk_RX11_212 : ac_lk RX11 212 (ac_r227).1 := Or.inl (aa_bw 1515 (by decide +kernel) rfl)
theorem cx_RX11_212 {M : ac_R} (h : M.1.cls = RX11) : ac_cv M 212 227 1 2 11 ac_r227 := ⟨ce_227, by rw [h]; exact lk_RX11_212, ci_227, cv_227, rfl, by decide, (RX11, TX11, 67), rfl, rfl, by decide⟩
theorem fd_RX11_43 {M : ac_R} (h : M.1.cls = RX11) : ac_fd M 43 11 14 1 := by
  refine ac_fd.of (RX11, TX11, 67) rfl (by decide) aa_inW11 1248 ?_ rfl rfl (by decide)
  rw [h]
  decide +kernel
theorem fd_RX11_215 {M : ac_R} (h : M.1.cls = RX11) : ac_fd M 215 11 25 0 := by
  refine ac_fd.of (RX11, TX11, 67) rfl (by decide) aa_inW11 1259 ?_ rfl rfl (by decide)
  rw [h]
  decide +kernel
theorem fd_RX11_46 {M : ac_R} (h : M.1.cls = RX11) : ac_fd M 46 11 15 1 := by
  refine ac_fd.of (RX11, TX11, 67) rfl (by decide) aa_inW11 1249 ?_ rfl rfl (by decide)
  rw [h]
  decide +kernel
theorem pt_11_25 : ac_pt 11 25 .int := ⟨(RX11, TX11, 67), tyX11, rfl, tyX11_ok, nmX11, rfl, by decide +kernel⟩
theorem ce_211 : ac_ce 211 2 ac_r211 := ⟨mk_211, by decide +kernel, aa_bw 1233 (by decide +kernel) rfl, aa_bw 90 (by decide +kernel) rfl, ⟨by decide +kernel, by decide +kernel⟩, by decide +kernel⟩
theorem ci_211 : Cond.instanceMethod (ac_r211).1 ∈ aa_BW := aa_bw 1232 (by decide +kernel) rfl
theorem cv_211 : Cond.selects (ac_r211).1.cls (ac_r211).1 (ac_r211).1 ∈ aa_BW := aa_bw 37 (by decide +kernel) rfl
theorem lk_RX11_218 : ac_lk RX11 218 (ac_r211).1 := Or.inl (aa_bw 1230 (by decide +kernel) rfl)
theorem cx_RX11_218 {M : ac_R} (h : M.1.cls = RX11) : ac_cv M 218 211 2 3 11 ac_r211 := ⟨ce_211, by rw [h]; exact lk_RX11_218, ci_211, cv_211, rfl, by decide, (RX11, TX11, 67), rfl, rfl, by decide⟩
theorem fd_RX11_52 {M : ac_R} (h : M.1.cls = RX11) : ac_fd M 52 11 17 1 := by
  refine ac_fd.of (RX11, TX11, 67) rfl (by decide) aa_inW11 1251 ?_ rfl rfl (by decide)
  rw [h]
  decide +kernel
theorem fd_RX11_49 {M : ac_R} (h : M.1.cls = RX11) : ac_fd M 49 11 16 1 := by
  refine ac_fd.of (RX11, TX11, 67) rfl (by decide) aa_inW11 1250 ?_ rfl rfl (by decide)
  rw [h]
  decide +kernel
theorem fd_RX11_222 {M : ac_R} (h : M.1.cls = RX11) : ac_fd M 222 11 19 0 := by
  refine ac_fd.of (RX11, TX11, 67) rfl (by decide) aa_inW11 1253 ?_ rfl rfl (by decide)
  rw [h]
  decide +kernel
theorem fd_RX11_40 {M : ac_R} (h : M.1.cls = RX11) : ac_fd M 40 11 13 1 := by
  refine ac_fd.of (RX11, TX11, 67) rfl (by decide) aa_inW11 1247 ?_ rfl rfl (by decide)
  rw [h]
  decide +kernel
theorem pt_11_19 : ac_pt 11 19 .int := ⟨(RX11, TX11, 67), tyX11, rfl, tyX11_ok, nmX11, rfl, by decide +kernel⟩
theorem fd_RX11_227 {M : ac_R} (h : M.1.cls = RX11) : ac_fd M 227 11 22 0 := by
  refine ac_fd.of (RX11, TX11, 67) rfl (by decide) aa_inW11 1256 ?_ rfl rfl (by decide)
  rw [h]
  decide +kernel
theorem fd_RX11_230 {M : ac_R} (h : M.1.cls = RX11) : ac_fd M 230 11 27 0 := by
  refine ac_fd.of (RX11, TX11, 67) rfl (by decide) aa_inW11 1261 ?_ rfl rfl (by decide)
  rw [h]
  decide +kernel
theorem pt_11_22 : ac_pt 11 22 .int := ⟨(RX11, TX11, 67), tyX11, rfl, tyX11_ok, nmX11, rfl, by decide +kernel⟩
theorem pt_11_27 : ac_pt 11 27 .int := ⟨(RX11, TX11, 67), tyX11, rfl, tyX11_ok, nmX11, rfl, by decide +kernel⟩
theorem fd_RX11_233 {M : ac_R} (h : M.1.cls = RX11) : ac_fd M 233 11 26 0 := by
  refine ac_fd.of (RX11, TX11, 67) rfl (by decide) aa_inW11 1260 ?_ rfl rfl (by decide)
  rw [h]
  decide +kernel
theorem pt_11_26 : ac_pt 11 26 .int := ⟨(RX11, TX11, 67), tyX11, rfl, tyX11_ok, nmX11, rfl, by decide +kernel⟩
theorem fd_RX11_236 {M : ac_R} (h : M.1.cls = RX11) : ac_fd M 236 11 28 0 := by
  refine ac_fd.of (RX11, TX11, 67) rfl (by decide) aa_inW11 1262 ?_ rfl rfl (by decide)
  rw [h]
  decide +kernel
theorem pt_11_28 : ac_pt 11 28 .int := ⟨(RX11, TX11, 67), tyX11, rfl, tyX11_ok, nmX11, rfl, by decide +kernel⟩
theorem ce_215 : ac_ce 215 1 ac_r215 := ⟨mk_215, by decide +kernel, aa_bw 1549 (by decide +kernel) rfl, aa_bw 90 (by decide +kernel) rfl, ⟨by decide +kernel, by decide +kernel⟩, by decide +kernel⟩
theorem cs_215 : Cond.static (ac_r215).1 ∈ aa_BW := aa_bw 1548 (by decide +kernel) rfl
theorem lk_RX11_239 : ac_lk RX11 239 (ac_r215).1 := Or.inl (aa_bw 1547 (by decide +kernel) rfl)
theorem ce_214 : ac_ce 214 1 ac_r214 := ⟨mk_214, by decide +kernel, aa_bw 1552 (by decide +kernel) rfl, aa_bw 90 (by decide +kernel) rfl, ⟨by decide +kernel, by decide +kernel⟩, by decide +kernel⟩
theorem cs_214 : Cond.static (ac_r214).1 ∈ aa_BW := aa_bw 1551 (by decide +kernel) rfl
theorem lk_RX11_242 : ac_lk RX11 242 (ac_r214).1 := Or.inl (aa_bw 1550 (by decide +kernel) rfl)
theorem ce_218 : ac_ce 218 0 ac_r218 := ⟨mk_218, by decide +kernel, aa_bw 1556 (by decide +kernel) rfl, aa_bw 90 (by decide +kernel) rfl, ⟨by decide +kernel, by decide +kernel⟩, by decide +kernel⟩
theorem ci_218 : Cond.instanceMethod (ac_r218).1 ∈ aa_BW := aa_bw 1555 (by decide +kernel) rfl
theorem cv_218 : Cond.selects (ac_r218).1.cls (ac_r218).1 (ac_r218).1 ∈ aa_BW := aa_bw 48 (by decide +kernel) rfl
theorem lk_RX11_245 : ac_lk RX11 245 (ac_r218).1 := Or.inl (aa_bw 1553 (by decide +kernel) rfl)
theorem cx_RX11_245 {M : ac_R} (h : M.1.cls = RX11) : ac_cv M 245 218 0 2 11 ac_r218 := ⟨ce_218, by rw [h]; exact lk_RX11_245, ci_218, cv_218, rfl, by decide, (RX11, TX11, 67), rfl, rfl, by decide⟩
theorem ce_216 : ac_ce 216 2 ac_r216 := ⟨mk_216, by decide +kernel, aa_bw 1561 (by decide +kernel) rfl, aa_bw 90 (by decide +kernel) rfl, ⟨by decide +kernel, by decide +kernel⟩, by decide +kernel⟩
theorem ci_216 : Cond.instanceMethod (ac_r216).1 ∈ aa_BW := aa_bw 1560 (by decide +kernel) rfl
theorem cv_216 : Cond.selects (ac_r216).1.cls (ac_r216).1 (ac_r216).1 ∈ aa_BW := aa_bw 49 (by decide +kernel) rfl
theorem lk_RX11_251 : ac_lk RX11 251 (ac_r216).1 := Or.inl (aa_bw 1558 (by decide +kernel) rfl)
theorem cx_RX11_251 {M : ac_R} (h : M.1.cls = RX11) : ac_cv M 251 216 2 5 11 ac_r216 := ⟨ce_216, by rw [h]; exact lk_RX11_251, ci_216, cv_216, rfl, by decide, (RX11, TX11, 67), rfl, rfl, by decide⟩
theorem fd_RX11_55 {M : ac_R} (h : M.1.cls = RX11) : ac_fd M 55 11 18 1 := by
  refine ac_fd.of (RX11, TX11, 67) rfl (by decide) aa_inW11 1252 ?_ rfl rfl (by decide)
  rw [h]
  decide +kernel
theorem fd_RX11_275 {M : ac_R} (h : M.1.cls = RX11) : ac_fd M 275 11 24 0 := by
  refine ac_fd.of (RX11, TX11, 67) rfl (by decide) aa_inW11 1258 ?_ rfl rfl (by decide)
  rw [h]
  decide +kernel
theorem pt_11_24 : ac_pt 11 24 .int := ⟨(RX11, TX11, 67), tyX11, rfl, tyX11_ok, nmX11, rfl, by decide +kernel⟩
theorem fd_RX11_278 {M : ac_R} (h : M.1.cls = RX11) : ac_fd M 278 11 23 0 := by
  refine ac_fd.of (RX11, TX11, 67) rfl (by decide) aa_inW11 1257 ?_ rfl rfl (by decide)
  rw [h]
  decide +kernel
theorem pt_11_23 : ac_pt 11 23 .int := ⟨(RX11, TX11, 67), tyX11, rfl, tyX11_ok, nmX11, rfl, by decide +kernel⟩
theorem ce_217 : ac_ce 217 0 ac_r217 := ⟨mk_217, by decide +kernel, aa_bw 1546 (by decide +kernel) rfl, aa_bw 90 (by decide +kernel) rfl, ⟨by decide +kernel, by decide +kernel⟩, by decide +kernel⟩
theorem ci_217 : Cond.instanceMethod (ac_r217).1 ∈ aa_BW := aa_bw 1545 (by decide +kernel) rfl
theorem cv_217 : Cond.selects (ac_r217).1.cls (ac_r217).1 (ac_r217).1 ∈ aa_BW := aa_bw 47 (by decide +kernel) rfl
theorem lk_RX11_281 : ac_lk RX11 281 (ac_r217).1 := Or.inl (aa_bw 1543 (by decide +kernel) rfl)
theorem cx_RX11_281 {M : ac_R} (h : M.1.cls = RX11) : ac_cv M 281 217 0 2 11 ac_r217 := ⟨ce_217, by rw [h]; exact lk_RX11_281, ci_217, cv_217, rfl, by decide, (RX11, TX11, 67), rfl, rfl, by decide⟩
theorem ce_219 : ac_ce 219 1 ac_r219 := ⟨mk_219, by decide +kernel, aa_bw 1579 (by decide +kernel) rfl, aa_bw 90 (by decide +kernel) rfl, ⟨by decide +kernel, by decide +kernel⟩, by decide +kernel⟩
theorem ci_219 : Cond.instanceMethod (ac_r219).1 ∈ aa_BW := aa_bw 1578 (by decide +kernel) rfl
theorem cv_219 : Cond.selects (ac_r219).1.cls (ac_r219).1 (ac_r219).1 ∈ aa_BW := aa_bw 51 (by decide +kernel) rfl
theorem lk_RX11_284 : ac_lk RX11 284 (ac_r219).1 := Or.inl (aa_bw 1576 (by decide +kernel) rfl)
theorem cx_RX11_284 {M : ac_R} (h : M.1.cls = RX11) : ac_cv M 284 219 1 2 11 ac_r219 := ⟨ce_219, by rw [h]; exact lk_RX11_284, ci_219, cv_219, rfl, by decide, (RX11, TX11, 67), rfl, rfl, by decide⟩
theorem ce_220 : ac_ce 220 1 ac_r220 := ⟨mk_220, by decide +kernel, aa_bw 1583 (by decide +kernel) rfl, aa_bw 90 (by decide +kernel) rfl, ⟨by decide +kernel, by decide +kernel⟩, by decide +kernel⟩
theorem ci_220 : Cond.instanceMethod (ac_r220).1 ∈ aa_BW := aa_bw 1582 (by decide +kernel) rfl
theorem cv_220 : Cond.selects (ac_r220).1.cls (ac_r220).1 (ac_r220).1 ∈ aa_BW := aa_bw 52 (by decide +kernel) rfl
theorem lk_RX11_287 : ac_lk RX11 287 (ac_r220).1 := Or.inl (aa_bw 1580 (by decide +kernel) rfl)
theorem cx_RX11_287 {M : ac_R} (h : M.1.cls = RX11) : ac_cv M 287 220 1 2 11 ac_r220 := ⟨ce_220, by rw [h]; exact lk_RX11_287, ci_220, cv_220, rfl, by decide, (RX11, TX11, 67), rfl, rfl, by decide⟩
theorem fd_RX11_58 {M : ac_R} (h : M.1.cls = RX11) : ac_fd M 58 11 20 0 := by
  refine ac_fd.of (RX11, TX11, 67) rfl (by decide) aa_inW11 1254 ?_ rfl rfl (by decide)
  rw [h]
  decide +kernel
theorem ce_221 : ac_ce 221 0 ac_r221 := ⟨mk_221, by decide +kernel, aa_bw 1575 (by decide +kernel) rfl, aa_bw 90 (by decide +kernel) rfl, ⟨by decide +kernel, by decide +kernel⟩, by decide +kernel⟩
theorem ci_221 : Cond.instanceMethod (ac_r221).1 ∈ aa_BW := aa_bw 1574 (by decide +kernel) rfl
theorem cv_221 : Cond.selects (ac_r221).1.cls (ac_r221).1 (ac_r221).1 ∈ aa_BW := aa_bw 50 (by decide +kernel) rfl
theorem lk_RX11_290 : ac_lk RX11 290 (ac_r221).1 := Or.inl (aa_bw 1572 (by decide +kernel) rfl)
theorem cx_RX11_290 {M : ac_R} (h : M.1.cls = RX11) : ac_cv M 290 221 0 3 11 ac_r221 := ⟨ce_221, by rw [h]; exact lk_RX11_290, ci_221, cv_221, rfl, by decide, (RX11, TX11, 67), rfl, rfl, by decide⟩
theorem ce_222 : ac_ce 222 0 ac_r222 := ⟨mk_222, by decide +kernel, aa_bw 1542 (by decide +kernel) rfl, aa_bw 90 (by decide +kernel) rfl, ⟨by decide +kernel, by decide +kernel⟩, by decide +kernel⟩
theorem ci_222 : Cond.instanceMethod (ac_r222).1 ∈ aa_BW := aa_bw 1541 (by decide +kernel) rfl
theorem cv_222 : Cond.selects (ac_r222).1.cls (ac_r222).1 (ac_r222).1 ∈ aa_BW := aa_bw 46 (by decide +kernel) rfl
theorem lk_RX11_294 : ac_lk RX11 294 (ac_r222).1 := Or.inl (aa_bw 1539 (by decide +kernel) rfl)
theorem cx_RX11_294 {M : ac_R} (h : M.1.cls = RX11) : ac_cv M 294 222 0 2 11 ac_r222 := ⟨ce_222, by rw [h]; exact lk_RX11_294, ci_222, cv_222, rfl, by decide, (RX11, TX11, 67), rfl, rfl, by decide⟩
theorem pt_11_20 : ac_pt 11 20 .int := ⟨(RX11, TX11, 67), tyX11, rfl, tyX11_ok, nmX11, rfl, by decide +kernel⟩
theorem fd_RX11_297 {M : ac_R} (h : M.1.cls = RX11) : ac_fd M 297 11 21 0 := by
  refine ac_fd.of (RX11, TX11, 67) rfl (by decide) aa_inW11 1255 ?_ rfl rfl (by decide)
  rw [h]
  decide +kernel
theorem pt_11_21 : ac_pt 11 21 .int := ⟨(RX11, TX11, 67), tyX11, rfl, tyX11_ok, nmX11, rfl, by decide +kernel⟩
theorem fd_RX11_62 {M : ac_R} (h : M.1.cls = RX11) : ac_fd M 62 11 29 1 := by
  refine ac_fd.of (RX11, TX11, 67) rfl (by decide) aa_inW11 1263 ?_ rfl rfl (by decide)
  rw [h]
  decide +kernel
theorem fd_RX11_65 {M : ac_R} (h : M.1.cls = RX11) : ac_fd M 65 11 30 1 := by
  refine ac_fd.of (RX11, TX11, 67) rfl (by decide) aa_inW11 1264 ?_ rfl rfl (by decide)
  rw [h]
  decide +kernel
theorem ce_226 : ac_ce 226 3 ac_r226 := ⟨mk_226, by decide +kernel, aa_bw 1525 (by decide +kernel) rfl, aa_bw 90 (by decide +kernel) rfl, ⟨by decide +kernel, by decide +kernel⟩, by decide +kernel⟩
theorem cs_226 : Cond.static (ac_r226).1 ∈ aa_BW := aa_bw 1524 (by decide +kernel) rfl
theorem lk_RX11_300 : ac_lk RX11 300 (ac_r226).1 := Or.inl (aa_bw 1523 (by decide +kernel) rfl)
theorem ce_225 : ac_ce 225 1 ac_r225 := ⟨mk_225, by decide +kernel, aa_bw 1522 (by decide +kernel) rfl, aa_bw 90 (by decide +kernel) rfl, ⟨by decide +kernel, by decide +kernel⟩, by decide +kernel⟩
theorem ci_225 : Cond.instanceMethod (ac_r225).1 ∈ aa_BW := aa_bw 1521 (by decide +kernel) rfl
theorem cv_225 : Cond.selects (ac_r225).1.cls (ac_r225).1 (ac_r225).1 ∈ aa_BW := aa_bw 45 (by decide +kernel) rfl
theorem lk_RX11_304 : ac_lk RX11 304 (ac_r225).1 := Or.inl (aa_bw 1519 (by decide +kernel) rfl)
theorem cx_RX11_304 {M : ac_R} (h : M.1.cls = RX11) : ac_cv M 304 225 1 4 11 ac_r225 := ⟨ce_225, by rw [h]; exact lk_RX11_304, ci_225, cv_225, rfl, by decide, (RX11, TX11, 67), rfl, rfl, by decide⟩
theorem ce_240 : ac_ce 240 1 ac_r240 := ⟨mk_240, by decide +kernel, aa_bw 1595 (by decide +kernel) rfl, aa_bw 90 (by decide +kernel) rfl, ⟨by decide +kernel, by decide +kernel⟩, by decide +kernel⟩
theorem ci_240 : Cond.instanceMethod (ac_r240).1 ∈ aa_BW := aa_bw 1594 (by decide +kernel) rfl
theorem cv_240 : Cond.selects (ac_r240).1.cls (ac_r240).1 (ac_r240).1 ∈ aa_BW := aa_bw 53 (by decide +kernel) rfl
theorem lk_RX11_307 : ac_lk RX11 307 (ac_r240).1 := Or.inl (aa_bw 1592 (by decide +kernel) rfl)
theorem cx_RX11_307 {M : ac_R} (h : M.1.cls = RX11) : ac_cv M 307 240 1 2 11 ac_r240 := ⟨ce_240, by rw [h]; exact lk_RX11_307, ci_240, cv_240, rfl, by decide, (RX11, TX11, 67), rfl, rfl, by decide⟩
theorem ce_253 : ac_ce 253 3 ac_r253 := ⟨mk_253, by decide +kernel, aa_bw 1599 (by decide +kernel) rfl, aa_bw 90 (by decide +kernel) rfl, ⟨by decide +kernel, by decide +kernel⟩, by decide +kernel⟩
theorem ci_253 : Cond.instanceMethod (ac_r253).1 ∈ aa_BW := aa_bw 1598 (by decide +kernel) rfl
theorem cv_253 : Cond.selects (ac_r253).1.cls (ac_r253).1 (ac_r253).1 ∈ aa_BW := aa_bw 54 (by decide +kernel) rfl
theorem lk_RX11_310 : ac_lk RX11 310 (ac_r253).1 := Or.inl (aa_bw 1596 (by decide +kernel) rfl)
theorem cx_RX11_310 {M : ac_R} (h : M.1.cls = RX11) : ac_cv M 310 253 3 7 11 ac_r253 := ⟨ce_253, by rw [h]; exact lk_RX11_310, ci_253, cv_253, rfl, by decide, (RX11, TX11, 67), rfl, rfl, by decide⟩
theorem fd_RX11_315 {M : ac_R} (h : M.1.cls = RX11) : ac_fd M 315 11 34 0 := by
  refine ac_fd.of (RX11, TX11, 67) rfl (by decide) aa_inW11 1268 ?_ rfl rfl (by decide)
  rw [h]
  decide +kernel
theorem fd_RX11_37 {M : ac_R} (h : M.1.cls = RX11) : ac_fd M 37 11 10 1 := by
  refine ac_fd.of (RX11, TX11, 67) rfl (by decide) aa_inW11 1244 ?_ rfl rfl (by decide)
  rw [h]
  decide +kernel
theorem fd_RX11_68 {M : ac_R} (h : M.1.cls = RX11) : ac_fd M 68 11 31 1 := by
  refine ac_fd.of (RX11, TX11, 67) rfl (by decide) aa_inW11 1265 ?_ rfl rfl (by decide)
  rw [h]
  decide +kernel
theorem fd_RX11_71 {M : ac_R} (h : M.1.cls = RX11) : ac_fd M 71 11 32 1 := by
  refine ac_fd.of (RX11, TX11, 67) rfl (by decide) aa_inW11 1266 ?_ rfl rfl (by decide)
  rw [h]
  decide +kernel
theorem fd_RX11_74 {M : ac_R} (h : M.1.cls = RX11) : ac_fd M 74 11 33 1 := by
  refine ac_fd.of (RX11, TX11, 67) rfl (by decide) aa_inW11 1267 ?_ rfl rfl (by decide)
  rw [h]
  decide +kernel
theorem pt_11_34 : ac_pt 11 34 .int := ⟨(RX11, TX11, 67), tyX11, rfl, tyX11_ok, nmX11, rfl, by decide +kernel⟩
theorem ce_230 : ac_ce 230 1 ac_r230 := ⟨mk_230, by decide +kernel, aa_bw 1631 (by decide +kernel) rfl, aa_bw 90 (by decide +kernel) rfl, ⟨by decide +kernel, by decide +kernel⟩, by decide +kernel⟩
theorem ci_230 : Cond.instanceMethod (ac_r230).1 ∈ aa_BW := aa_bw 1630 (by decide +kernel) rfl
theorem cv_230 : Cond.selects (ac_r230).1.cls (ac_r230).1 (ac_r230).1 ∈ aa_BW := aa_bw 59 (by decide +kernel) rfl
theorem lk_RX11_318 : ac_lk RX11 318 (ac_r230).1 := Or.inl (aa_bw 1628 (by decide +kernel) rfl)
theorem cx_RX11_318 {M : ac_R} (h : M.1.cls = RX11) : ac_cv M 318 230 1 2 11 ac_r230 := ⟨ce_230, by rw [h]; exact lk_RX11_318, ci_230, cv_230, rfl, by decide, (RX11, TX11, 67), rfl, rfl, by decide⟩
theorem ce_231 : ac_ce 231 1 ac_r231 := ⟨mk_231, by decide +kernel, aa_bw 1639 (by decide +kernel) rfl, aa_bw 90 (by decide +kernel) rfl, ⟨by decide +kernel, by decide +kernel⟩, by decide +kernel⟩
theorem ci_231 : Cond.instanceMethod (ac_r231).1 ∈ aa_BW := aa_bw 1638 (by decide +kernel) rfl
theorem cv_231 : Cond.selects (ac_r231).1.cls (ac_r231).1 (ac_r231).1 ∈ aa_BW := aa_bw 61 (by decide +kernel) rfl
theorem lk_RX11_321 : ac_lk RX11 321 (ac_r231).1 := Or.inl (aa_bw 1636 (by decide +kernel) rfl)
theorem cx_RX11_321 {M : ac_R} (h : M.1.cls = RX11) : ac_cv M 321 231 1 4 11 ac_r231 := ⟨ce_231, by rw [h]; exact lk_RX11_321, ci_231, cv_231, rfl, by decide, (RX11, TX11, 67), rfl, rfl, by decide⟩
theorem ce_232 : ac_ce 232 0 ac_r232 := ⟨mk_232, by decide +kernel, aa_bw 1627 (by decide +kernel) rfl, aa_bw 90 (by decide +kernel) rfl, ⟨by decide +kernel, by decide +kernel⟩, by decide +kernel⟩
theorem ci_232 : Cond.instanceMethod (ac_r232).1 ∈ aa_BW := aa_bw 1626 (by decide +kernel) rfl
theorem cv_232 : Cond.selects (ac_r232).1.cls (ac_r232).1 (ac_r232).1 ∈ aa_BW := aa_bw 58 (by decide +kernel) rfl
theorem lk_RX11_324 : ac_lk RX11 324 (ac_r232).1 := Or.inl (aa_bw 1624 (by decide +kernel) rfl)
theorem cx_RX11_324 {M : ac_R} (h : M.1.cls = RX11) : ac_cv M 324 232 0 3 11 ac_r232 := ⟨ce_232, by rw [h]; exact lk_RX11_324, ci_232, cv_232, rfl, by decide, (RX11, TX11, 67), rfl, rfl, by decide⟩
theorem ce_233 : ac_ce 233 0 ac_r233 := ⟨mk_233, by decide +kernel, aa_bw 1635 (by decide +kernel) rfl, aa_bw 90 (by decide +kernel) rfl, ⟨by decide +kernel, by decide +kernel⟩, by decide +kernel⟩
theorem ci_233 : Cond.instanceMethod (ac_r233).1 ∈ aa_BW := aa_bw 1634 (by decide +kernel) rfl
theorem cv_233 : Cond.selects (ac_r233).1.cls (ac_r233).1 (ac_r233).1 ∈ aa_BW := aa_bw 60 (by decide +kernel) rfl
theorem lk_RX11_327 : ac_lk RX11 327 (ac_r233).1 := Or.inl (aa_bw 1632 (by decide +kernel) rfl)
theorem cx_RX11_327 {M : ac_R} (h : M.1.cls = RX11) : ac_cv M 327 233 0 3 11 ac_r233 := ⟨ce_233, by rw [h]; exact lk_RX11_327, ci_233, cv_233, rfl, by decide, (RX11, TX11, 67), rfl, rfl, by decide⟩
theorem ce_235 : ac_ce 235 2 ac_r235 := ⟨mk_235, by decide +kernel, aa_bw 1651 (by decide +kernel) rfl, aa_bw 90 (by decide +kernel) rfl, ⟨by decide +kernel, by decide +kernel⟩, by decide +kernel⟩
theorem ci_235 : Cond.instanceMethod (ac_r235).1 ∈ aa_BW := aa_bw 1650 (by decide +kernel) rfl
theorem cv_235 : Cond.selects (ac_r235).1.cls (ac_r235).1 (ac_r235).1 ∈ aa_BW := aa_bw 63 (by decide +kernel) rfl
theorem lk_RX11_330 : ac_lk RX11 330 (ac_r235).1 := Or.inl (aa_bw 1648 (by decide +kernel) rfl)
theorem cx_RX11_330 {M : ac_R} (h : M.1.cls = RX11) : ac_cv M 330 235 2 5 11 ac_r235 := ⟨ce_235, by rw [h]; exact lk_RX11_330, ci_235, cv_235, rfl, by decide, (RX11, TX11, 67), rfl, rfl, by decide⟩
theorem ce_236 : ac_ce 236 3 ac_r236 := ⟨mk_236, by decide +kernel, aa_bw 1647 (by decide +kernel) rfl, aa_bw 90 (by decide +kernel) rfl, ⟨by decide +kernel, by decide +kernel⟩, by decide +kernel⟩
theorem ci_236 : Cond.instanceMethod (ac_r236).1 ∈ aa_BW := aa_bw 1646 (by decide +kernel) rfl
theorem cv_236 : Cond.selects (ac_r236).1.cls (ac_r236).1 (ac_r236).1 ∈ aa_BW := aa_bw 62 (by decide +kernel) rfl
theorem lk_RX11_334 : ac_lk RX11 334 (ac_r236).1 := Or.inl (aa_bw 1644 (by decide +kernel) rfl)
theorem cx_RX11_334 {M : ac_R} (h : M.1.cls = RX11) : ac_cv M 334 236 3 5 11 ac_r236 := ⟨ce_236, by rw [h]; exact lk_RX11_334, ci_236, cv_236, rfl, by decide, (RX11, TX11, 67), rfl, rfl, by decide⟩
theorem fd_RX11_340 {M : ac_R} (h : M.1.cls = RX11) : ac_fd M 340 11 46 0 := by
  refine ac_fd.of (RX11, TX11, 67) rfl (by decide) aa_inW11 1280 ?_ rfl rfl (by decide)
  rw [h]
  decide +kernel
theorem fd_RX11_77 {M : ac_R} (h : M.1.cls = RX11) : ac_fd M 77 11 35 1 := by
  refine ac_fd.of (RX11, TX11, 67) rfl (by decide) aa_inW11 1269 ?_ rfl rfl (by decide)
  rw [h]
  decide +kernel
theorem pt_11_46 : ac_pt 11 46 .int := ⟨(RX11, TX11, 67), tyX11, rfl, tyX11_ok, nmX11, rfl, by decide +kernel⟩
theorem fd_RX11_343 {M : ac_R} (h : M.1.cls = RX11) : ac_fd M 343 11 47 0 := by
  refine ac_fd.of (RX11, TX11, 67) rfl (by decide) aa_inW11 1281 ?_ rfl rfl (by decide)
  rw [h]
  decide +kernel
theorem fd_RX11_80 {M : ac_R} (h : M.1.cls = RX11) : ac_fd M 80 11 36 1 := by
  refine ac_fd.of (RX11, TX11, 67) rfl (by decide) aa_inW11 1270 ?_ rfl rfl (by decide)
  rw [h]
  decide +kernel
theorem fd_RX11_83 {M : ac_R} (h : M.1.cls = RX11) : ac_fd M 83 11 37 1 := by
  refine ac_fd.of (RX11, TX11, 67) rfl (by decide) aa_inW11 1271 ?_ rfl rfl (by decide)
  rw [h]
  decide +kernel
theorem fd_RX11_86 {M : ac_R} (h : M.1.cls = RX11) : ac_fd M 86 11 38 1 := by
  refine ac_fd.of (RX11, TX11, 67) rfl (by decide) aa_inW11 1272 ?_ rfl rfl (by decide)
  rw [h]
  decide +kernel
theorem fd_RX11_89 {M : ac_R} (h : M.1.cls = RX11) : ac_fd M 89 11 39 1 := by
  refine ac_fd.of (RX11, TX11, 67) rfl (by decide) aa_inW11 1273 ?_ rfl rfl (by decide)
  rw [h]
  decide +kernel
theorem fd_RX11_92 {M : ac_R} (h : M.1.cls = RX11) : ac_fd M 92 11 40 1 := by
  refine ac_fd.of (RX11, TX11, 67) rfl (by decide) aa_inW11 1274 ?_ rfl rfl (by decide)
  rw [h]
  decide +kernel
theorem pt_11_47 : ac_pt 11 47 .int := ⟨(RX11, TX11, 67), tyX11, rfl, tyX11_ok, nmX11, rfl, by decide +kernel⟩
theorem ce_243 : ac_ce 243 1 ac_r243 := ⟨mk_243, by decide +kernel, aa_bw 1614 (by decide +kernel) rfl, aa_bw 90 (by decide +kernel) rfl, ⟨by decide +kernel, by decide +kernel⟩, by decide +kernel⟩
theorem cs_243 : Cond.static (ac_r243).1 ∈ aa_BW := aa_bw 1613 (by decide +kernel) rfl
theorem lk_RX11_346 : ac_lk RX11 346 (ac_r243).1 := Or.inl (aa_bw 1612 (by decide +kernel) rfl)
theorem ce_245 : ac_ce 245 1 ac_r245 := ⟨mk_245, by decide +kernel, aa_bw 1676 (by decide +kernel) rfl, aa_bw 90 (by decide +kernel) rfl, ⟨by decide +kernel, by decide +kernel⟩, by decide +kernel⟩
theorem ci_245 : Cond.instanceMethod (ac_r245).1 ∈ aa_BW := aa_bw 1675 (by decide +kernel) rfl
theorem cv_245 : Cond.selects (ac_r245).1.cls (ac_r245).1 (ac_r245).1 ∈ aa_BW := aa_bw 64 (by decide +kernel) rfl
theorem lk_RX11_349 : ac_lk RX11 349 (ac_r245).1 := Or.inl (aa_bw 1673 (by decide +kernel) rfl)
theorem cx_RX11_349 {M : ac_R} (h : M.1.cls = RX11) : ac_cv M 349 245 1 2 11 ac_r245 := ⟨ce_245, by rw [h]; exact lk_RX11_349, ci_245, cv_245, rfl, by decide, (RX11, TX11, 67), rfl, rfl, by decide⟩
theorem ce_244 : ac_ce 244 5 ac_r244 := ⟨mk_244, by decide +kernel, aa_bw 1611 (by decide +kernel) rfl, aa_bw 90 (by decide +kernel) rfl, ⟨by decide +kernel, by decide +kernel⟩, by decide +kernel⟩
theorem ci_244 : Cond.instanceMethod (ac_r244).1 ∈ aa_BW := aa_bw 1610 (by decide +kernel) rfl
theorem cv_244 : Cond.selects (ac_r244).1.cls (ac_r244).1 (ac_r244).1 ∈ aa_BW := aa_bw 57 (by decide +kernel) rfl
theorem lk_RX11_352 : ac_lk RX11 352 (ac_r244).1 := Or.inl (aa_bw 1608 (by decide +kernel) rfl)
theorem cx_RX11_352 {M : ac_R} (h : M.1.cls = RX11) : ac_cv M 352 244 5 7 11 ac_r244 := ⟨ce_244, by rw [h]; exact lk_RX11_352, ci_244, cv_244, rfl, by decide, (RX11, TX11, 67), rfl, rfl, by decide⟩
theorem ce_247 : ac_ce 247 3 ac_r247 := ⟨mk_247, by decide +kernel, aa_bw 1607 (by decide +kernel) rfl, aa_bw 90 (by decide +kernel) rfl, ⟨by decide +kernel, by decide +kernel⟩, by decide +kernel⟩
theorem ci_247 : Cond.instanceMethod (ac_r247).1 ∈ aa_BW := aa_bw 1606 (by decide +kernel) rfl
theorem cv_247 : Cond.selects (ac_r247).1.cls (ac_r247).1 (ac_r247).1 ∈ aa_BW := aa_bw 56 (by decide +kernel) rfl
theorem lk_RX11_356 : ac_lk RX11 356 (ac_r247).1 := Or.inl (aa_bw 1604 (by decide +kernel) rfl)
theorem cx_RX11_356 {M : ac_R} (h : M.1.cls = RX11) : ac_cv M 356 247 3 4 11 ac_r247 := ⟨ce_247, by rw [h]; exact lk_RX11_356, ci_247, cv_247, rfl, by decide, (RX11, TX11, 67), rfl, rfl, by decide⟩
theorem fd_RX11_361 {M : ac_R} (h : M.1.cls = RX11) : ac_fd M 361 11 48 0 := by
  refine ac_fd.of (RX11, TX11, 67) rfl (by decide) aa_inW11 1282 ?_ rfl rfl (by decide)
  rw [h]
  decide +kernel
theorem fd_RX11_95 {M : ac_R} (h : M.1.cls = RX11) : ac_fd M 95 11 41 1 := by
  refine ac_fd.of (RX11, TX11, 67) rfl (by decide) aa_inW11 1275 ?_ rfl rfl (by decide)
  rw [h]
  decide +kernel
theorem fd_RX11_98 {M : ac_R} (h : M.1.cls = RX11) : ac_fd M 98 11 42 1 := by
  refine ac_fd.of (RX11, TX11, 67) rfl (by decide) aa_inW11 1276 ?_ rfl rfl (by decide)
  rw [h]
  decide +kernel
theorem fd_RX11_101 {M : ac_R} (h : M.1.cls = RX11) : ac_fd M 101 11 43 1 := by
  refine ac_fd.of (RX11, TX11, 67) rfl (by decide) aa_inW11 1277 ?_ rfl rfl (by decide)
  rw [h]
  decide +kernel
theorem fd_RX11_104 {M : ac_R} (h : M.1.cls = RX11) : ac_fd M 104 11 44 1 := by
  refine ac_fd.of (RX11, TX11, 67) rfl (by decide) aa_inW11 1278 ?_ rfl rfl (by decide)
  rw [h]
  decide +kernel
theorem fd_RX11_107 {M : ac_R} (h : M.1.cls = RX11) : ac_fd M 107 11 45 1 := by
  refine ac_fd.of (RX11, TX11, 67) rfl (by decide) aa_inW11 1279 ?_ rfl rfl (by decide)
  rw [h]
  decide +kernel
theorem pt_11_48 : ac_pt 11 48 .int := ⟨(RX11, TX11, 67), tyX11, rfl, tyX11_ok, nmX11, rfl, by decide +kernel⟩
theorem ce_250 : ac_ce 250 2 ac_r250 := ⟨mk_250, by decide +kernel, aa_bw 1603 (by decide +kernel) rfl, aa_bw 90 (by decide +kernel) rfl, ⟨by decide +kernel, by decide +kernel⟩, by decide +kernel⟩
theorem ci_250 : Cond.instanceMethod (ac_r250).1 ∈ aa_BW := aa_bw 1602 (by decide +kernel) rfl
theorem cv_250 : Cond.selects (ac_r250).1.cls (ac_r250).1 (ac_r250).1 ∈ aa_BW := aa_bw 55 (by decide +kernel) rfl
theorem lk_RX11_364 : ac_lk RX11 364 (ac_r250).1 := Or.inl (aa_bw 1600 (by decide +kernel) rfl)
theorem cx_RX11_364 {M : ac_R} (h : M.1.cls = RX11) : ac_cv M 364 250 2 3 11 ac_r250 := ⟨ce_250, by rw [h]; exact lk_RX11_364, ci_250, cv_250, rfl, by decide, (RX11, TX11, 67), rfl, rfl, by decide⟩
theorem ce_254 : ac_ce 254 2 ac_r254 := ⟨mk_254, by decide +kernel, aa_bw 1701 (by decide +kernel) rfl, aa_bw 90 (by decide +kernel) rfl, ⟨by decide +kernel, by decide +kernel⟩, by decide +kernel⟩
theorem ci_254 : Cond.instanceMethod (ac_r254).1 ∈ aa_BW := aa_bw 1700 (by decide +kernel) rfl
theorem cv_254 : Cond.selects (ac_r254).1.cls (ac_r254).1 (ac_r254).1 ∈ aa_BW := aa_bw 65 (by decide +kernel) rfl
theorem lk_RX11_367 : ac_lk RX11 367 (ac_r254).1 := Or.inl (aa_bw 1698 (by decide +kernel) rfl)
theorem cx_RX11_367 {M : ac_R} (h : M.1.cls = RX11) : ac_cv M 367 254 2 5 11 ac_r254 := ⟨ce_254, by rw [h]; exact lk_RX11_367, ci_254, cv_254, rfl, by decide, (RX11, TX11, 67), rfl, rfl, by decide⟩
theorem fd_RX11_371 {M : ac_R} (h : M.1.cls = RX11) : ac_fd M 371 11 54 0 := by
  refine ac_fd.of (RX11, TX11, 67) rfl (by decide) aa_inW11 1288 ?_ rfl rfl (by decide)
  rw [h]
  decide +kernel
theorem fd_RX11_110 {M : ac_R} (h : M.1.cls = RX11) : ac_fd M 110 11 49 1 := by
  refine ac_fd.of (RX11, TX11, 67) rfl (by decide) aa_inW11 1283 ?_ rfl rfl (by decide)
  rw [h]
  decide +kernel
theorem fd_RX11_113 {M : ac_R} (h : M.1.cls = RX11) : ac_fd M 113 11 50 1 := by
  refine ac_fd.of (RX11, TX11, 67) rfl (by decide) aa_inW11 1284 ?_ rfl rfl (by decide)
  rw [h]
  decide +kernel
theorem fd_RX11_116 {M : ac_R} (h : M.1.cls = RX11) : ac_fd M 116 11 51 1 := by
  refine ac_fd.of (RX11, TX11, 67) rfl (by decide) aa_inW11 1285 ?_ rfl rfl (by decide)
  rw [h]
  decide +kernel
theorem pt_11_54 : ac_pt 11 54 .int := ⟨(RX11, TX11, 67), tyX11, rfl, tyX11_ok, nmX11, rfl, by decide +kernel⟩
theorem fd_RX11_119 {M : ac_R} (h : M.1.cls = RX11) : ac_fd M 119 11 52 1 := by
  refine ac_fd.of (RX11, TX11, 67) rfl (by decide) aa_inW11 1286 ?_ rfl rfl (by decide)
  rw [h]
  decide +kernel
theorem fd_RX11_122 {M : ac_R} (h : M.1.cls = RX11) : ac_fd M 122 11 53 1 := by
  refine ac_fd.of (RX11, TX11, 67) rfl (by decide) aa_inW11 1287 ?_ rfl rfl (by decide)
  rw [h]
  decide +kernel
theorem ce_259 : ac_ce 259 2 ac_r259 := ⟨mk_259, by decide +kernel, aa_bw 1722 (by decide +kernel) rfl, aa_bw 90 (by decide +kernel) rfl, ⟨by decide +kernel, by decide +kernel⟩, by decide +kernel⟩
theorem ci_259 : Cond.instanceMethod (ac_r259).1 ∈ aa_BW := aa_bw 1721 (by decide +kernel) rfl
theorem cv_259 : Cond.selects (ac_r259).1.cls (ac_r259).1 (ac_r259).1 ∈ aa_BW := aa_bw 66 (by decide +kernel) rfl
theorem lk_RX11_376 : ac_lk RX11 376 (ac_r259).1 := Or.inl (aa_bw 1719 (by decide +kernel) rfl)
theorem cx_RX11_376 {M : ac_R} (h : M.1.cls = RX11) : ac_cv M 376 259 2 6 11 ac_r259 := ⟨ce_259, by rw [h]; exact lk_RX11_376, ci_259, cv_259, rfl, by decide, (RX11, TX11, 67), rfl, rfl, by decide⟩
theorem ce_261 : ac_ce 261 1 ac_r261 := ⟨mk_261, by decide +kernel, aa_bw 1729 (by decide +kernel) rfl, aa_bw 90 (by decide +kernel) rfl, ⟨by decide +kernel, by decide +kernel⟩, by decide +kernel⟩
theorem cs_261 : Cond.static (ac_r261).1 ∈ aa_BW := aa_bw 1728 (by decide +kernel) rfl
theorem lk_RX11_379 : ac_lk RX11 379 (ac_r261).1 := Or.inl (aa_bw 1727 (by decide +kernel) rfl)
theorem ce_262 : ac_ce 262 1 ac_r262 := ⟨mk_262, by decide +kernel, aa_bw 1733 (by decide +kernel) rfl, aa_bw 90 (by decide +kernel) rfl, ⟨by decide +kernel, by decide +kernel⟩, by decide +kernel⟩
theorem ci_262 : Cond.instanceMethod (ac_r262).1 ∈ aa_BW := aa_bw 1732 (by decide +kernel) rfl
theorem cv_262 : Cond.selects (ac_r262).1.cls (ac_r262).1 (ac_r262).1 ∈ aa_BW := aa_bw 67 (by decide +kernel) rfl
theorem lk_RX11_382 : ac_lk RX11 382 (ac_r262).1 := Or.inl (aa_bw 1730 (by decide +kernel) rfl)
theorem cx_RX11_382 {M : ac_R} (h : M.1.cls = RX11) : ac_cv M 382 262 1 3 11 ac_r262 := ⟨ce_262, by rw [h]; exact lk_RX11_382, ci_262, cv_262, rfl, by decide, (RX11, TX11, 67), rfl, rfl, by decide⟩
theorem ce_265 : ac_ce 265 3 ac_r265 := ⟨mk_265, by decide +kernel, aa_bw 1741 (by decide +kernel) rfl, aa_bw 90 (by decide +kernel) rfl, ⟨by decide +kernel, by decide +kernel⟩, by decide +kernel⟩
theorem ci_265 : Cond.instanceMethod (ac_r265).1 ∈ aa_BW := aa_bw 1740 (by decide +kernel) rfl
theorem cv_265 : Cond.selects (ac_r265).1.cls (ac_r265).1 (ac_r265).1 ∈ aa_BW := aa_bw 68 (by decide +kernel) rfl
theorem lk_RX11_385 : ac_lk RX11 385 (ac_r265).1 := Or.inl (aa_bw 1738 (by decide +kernel) rfl)
theorem cx_RX11_385 {M : ac_R} (h : M.1.cls = RX11) : ac_cv M 385 265 3 5 11 ac_r265 := ⟨ce_265, by rw [h]; exact lk_RX11_385, ci_265, cv_265, rfl, by decide, (RX11, TX11, 67), rfl, rfl, by decide⟩
theorem fd_RX11_390 {M : ac_R} (h : M.1.cls = RX11) : ac_fd M 390 11 58 0 := by
  refine ac_fd.of (RX11, TX11, 67) rfl (by decide) aa_inW11 1292 ?_ rfl rfl (by decide)
  rw [h]
  decide +kernel
theorem fd_RX11_125 {M : ac_R} (h : M.1.cls = RX11) : ac_fd M 125 11 55 1 := by
  refine ac_fd.of (RX11, TX11, 67) rfl (by decide) aa_inW11 1289 ?_ rfl rfl (by decide)
  rw [h]
  decide +kernel
theorem fd_RX11_128 {M : ac_R} (h : M.1.cls = RX11) : ac_fd M 128 11 56 1 := by
  refine ac_fd.of (RX11, TX11, 67) rfl (by decide) aa_inW11 1290 ?_ rfl rfl (by decide)
  rw [h]
  decide +kernel
theorem pt_11_58 : ac_pt 11 58 .int := ⟨(RX11, TX11, 67), tyX11, rfl, tyX11_ok, nmX11, rfl, by decide +kernel⟩
theorem fd_RX11_131 {M : ac_R} (h : M.1.cls = RX11) : ac_fd M 131 11 57 1 := by
  refine ac_fd.of (RX11, TX11, 67) rfl (by decide) aa_inW11 1291 ?_ rfl rfl (by decide)
  rw [h]
  decide +kernel
theorem fd_RX11_397 {M : ac_R} (h : M.1.cls = RX11) : ac_fd M 397 11 60 0 := by
  refine ac_fd.of (RX11, TX11, 67) rfl (by decide) aa_inW11 1294 ?_ rfl rfl (by decide)
  rw [h]
  decide +kernel
theorem fd_RX11_134 {M : ac_R} (h : M.1.cls = RX11) : ac_fd M 134 11 59 1 := by
  refine ac_fd.of (RX11, TX11, 67) rfl (by decide) aa_inW11 1293 ?_ rfl rfl (by decide)
  rw [h]
  decide +kernel
theorem pt_11_60 : ac_pt 11 60 .int := ⟨(RX11, TX11, 67), tyX11, rfl, tyX11_ok, nmX11, rfl, by decide +kernel⟩
theorem ce_270 : ac_ce 270 1 ac_r270 := ⟨mk_270, by decide +kernel, aa_bw 1772 (by decide +kernel) rfl, aa_bw 90 (by decide +kernel) rfl, ⟨by decide +kernel, by decide +kernel⟩, by decide +kernel⟩
theorem cs_270 : Cond.static (ac_r270).1 ∈ aa_BW := aa_bw 1771 (by decide +kernel) rfl
theorem lk_RX11_402 : ac_lk RX11 402 (ac_r270).1 := Or.inl (aa_bw 1770 (by decide +kernel) rfl)
theorem ce_271 : ac_ce 271 3 ac_r271 := ⟨mk_271, by decide +kernel, aa_bw 1779 (by decide +kernel) rfl, aa_bw 90 (by decide +kernel) rfl, ⟨by decide +kernel, by decide +kernel⟩, by decide +kernel⟩
theorem cs_271 : Cond.static (ac_r271).1 ∈ aa_BW := aa_bw 1778 (by decide +kernel) rfl
theorem lk_RX11_405 : ac_lk RX11 405 (ac_r271).1 := Or.inl (aa_bw 1777 (by decide +kernel) rfl)
theorem fd_RX11_408 {M : ac_R} (h : M.1.cls = RX11) : ac_fd M 408 11 62 0 := by
  refine ac_fd.of (RX11, TX11, 67) rfl (by decide) aa_inW11 1296 ?_ rfl rfl (by decide)
  rw [h]
  decide +kernel
theorem pt_11_62 : ac_pt 11 62 .int := ⟨(RX11, TX11, 67), tyX11, rfl, tyX11_ok, nmX11, rfl, by decide +kernel⟩
theorem ce_272 : ac_ce 272 3 ac_r272 := ⟨mk_272, by decide +kernel, aa_bw 1776 (by decide +kernel) rfl, aa_bw 90 (by decide +kernel) rfl, ⟨by decide +kernel, by decide +kernel⟩, by decide +kernel⟩
theorem ci_272 : Cond.instanceMethod (ac_r272).1 ∈ aa_BW := aa_bw 1775 (by decide +kernel) rfl
theorem cv_272 : Cond.selects (ac_r272).1.cls (ac_r272).1 (ac_r272).1 ∈ aa_BW := aa_bw 70 (by decide +kernel) rfl
theorem lk_RX11_411 : ac_lk RX11 411 (ac_r272).1 := Or.inl (aa_bw 1773 (by decide +kernel) rfl)
theorem cx_RX11_411 {M : ac_R} (h : M.1.cls = RX11) : ac_cv M 411 272 3 9 11 ac_r272 := ⟨ce_272, by rw [h]; exact lk_RX11_411, ci_272, cv_272, rfl, by decide, (RX11, TX11, 67), rfl, rfl, by decide⟩
theorem fd_RX11_414 {M : ac_R} (h : M.1.cls = RX11) : ac_fd M 414 11 61 0 := by
  refine ac_fd.of (RX11, TX11, 67) rfl (by decide) aa_inW11 1295 ?_ rfl rfl (by decide)
  rw [h]
  decide +kernel
theorem pt_11_61 : ac_pt 11 61 .int := ⟨(RX11, TX11, 67), tyX11, rfl, tyX11_ok, nmX11, rfl, by decide +kernel⟩
theorem ce_273 : ac_ce 273 1 ac_r273 := ⟨mk_273, by decide +kernel, aa_bw 1769 (by decide +kernel) rfl, aa_bw 90 (by decide +kernel) rfl, ⟨by decide +kernel, by decide +kernel⟩, by decide +kernel⟩
theorem ci_273 : Cond.instanceMethod (ac_r273).1 ∈ aa_BW := aa_bw 1768 (by decide +kernel) rfl
theorem cv_273 : Cond.selects (ac_r273).1.cls (ac_r273).1 (ac_r273).1 ∈ aa_BW := aa_bw 69 (by decide +kernel) rfl
theorem lk_RX11_417 : ac_lk RX11 417 (ac_r273).1 := Or.inl (aa_bw 1766 (by decide +kernel) rfl)
theorem cx_RX11_417 {M : ac_R} (h : M.1.cls = RX11) : ac_cv M 417 273 1 7 11 ac_r273 := ⟨ce_273, by rw [h]; exact lk_RX11_417, ci_273, cv_273, rfl, by decide, (RX11, TX11, 67), rfl, rfl, by decide⟩
theorem ce_275 : ac_ce 275 1 ac_r275 := ⟨mk_275, by decide +kernel, aa_bw 1787 (by decide +kernel) rfl, aa_bw 90 (by decide +kernel) rfl, ⟨by decide +kernel, by decide +kernel⟩, by decide +kernel⟩
theorem ci_275 : Cond.instanceMethod (ac_r275).1 ∈ aa_BW := aa_bw 1786 (by decide +kernel) rfl
theorem cv_275 : Cond.selects (ac_r275).1.cls (ac_r275).1 (ac_r275).1 ∈ aa_BW := aa_bw 71 (by decide +kernel) rfl
theorem lk_RX11_420 : ac_lk RX11 420 (ac_r275).1 := Or.inl (aa_bw 1784 (by decide +kernel) rfl)
theorem cx_RX11_420 {M : ac_R} (h : M.1.cls = RX11) : ac_cv M 420 275 1 4 11 ac_r275 := ⟨ce_275, by rw [h]; exact lk_RX11_420, ci_275, cv_275, rfl, by decide, (RX11, TX11, 67), rfl, rfl, by decide⟩
theorem ce_277 : ac_ce 277 1 ac_r277 := ⟨mk_277, by decide +kernel, aa_bw 1794 (by decide +kernel) rfl, aa_bw 90 (by decide +kernel) rfl, ⟨by decide +kernel, by decide +kernel⟩, by decide +kernel⟩
theorem cs_277 : Cond.static (ac_r277).1 ∈ aa_BW := aa_bw 1793 (by decide +kernel) rfl
theorem lk_RX11_423 : ac_lk RX11 423 (ac_r277).1 := Or.inl (aa_bw 1792 (by decide +kernel) rfl)
theorem fd_RX11_137 {M : ac_R} (h : M.1.cls = RX11) : ac_fd M 137 11 63 1 := by
  refine ac_fd.of (RX11, TX11, 67) rfl (by decide) aa_inW11 1297 ?_ rfl rfl (by decide)
  rw [h]
  decide +kernel
theorem fd_RX11_140 {M : ac_R} (h : M.1.cls = RX11) : ac_fd M 140 11 64 1 := by
  refine ac_fd.of (RX11, TX11, 67) rfl (by decide) aa_inW11 1298 ?_ rfl rfl (by decide)
  rw [h]
  decide +kernel
theorem fd_RX11_143 {M : ac_R} (h : M.1.cls = RX11) : ac_fd M 143 11 65 1 := by
  refine ac_fd.of (RX11, TX11, 67) rfl (by decide) aa_inW11 1299 ?_ rfl rfl (by decide)
  rw [h]
  decide +kernel
theorem ce_279 : ac_ce 279 2 ac_r279 := ⟨mk_279, by decide +kernel, aa_bw 1801 (by decide +kernel) rfl, aa_bw 90 (by decide +kernel) rfl, ⟨by decide +kernel, by decide +kernel⟩, by decide +kernel⟩
theorem cs_279 : Cond.static (ac_r279).1 ∈ aa_BW := aa_bw 1800 (by decide +kernel) rfl
theorem lk_RX11_426 : ac_lk RX11 426 (ac_r279).1 := Or.inl (aa_bw 1799 (by decide +kernel) rfl)
theorem fd_RX11_146 {M : ac_R} (h : M.1.cls = RX11) : ac_fd M 146 11 66 1 := by
  refine ac_fd.of (RX11, TX11, 67) rfl (by decide) aa_inW11 1300 ?_ rfl rfl (by decide)
  rw [h]
  decide +kernel
theorem ce_283 : ac_ce 283 1 ac_r283 := ⟨mk_283, by decide +kernel, aa_bw 1816 (by decide +kernel) rfl, aa_bw 90 (by decide +kernel) rfl, ⟨by decide +kernel, by decide +kernel⟩, by decide +kernel⟩
theorem cs_283 : Cond.static (ac_r283).1 ∈ aa_BW := aa_bw 1815 (by decide +kernel) rfl
theorem lk_RX11_429 : ac_lk RX11 429 (ac_r283).1 := Or.inl (aa_bw 1814 (by decide +kernel) rfl)
theorem ce_291 : ac_ce 291 0 ac_r291 := ⟨mk_291, by decide +kernel, aa_bw 388 (by decide +kernel) rfl, aa_bw 86 (by decide +kernel) rfl, ⟨by decide +kernel, by decide +kernel⟩, by decide +kernel⟩
theorem ci_291 : Cond.instanceMethod (ac_r291).1 ∈ aa_BW := aa_bw 386 (by decide +kernel) rfl
theorem cv_291 : Cond.selects (ac_r291).1.cls (ac_r291).1 (ac_r291).1 ∈ aa_BW := aa_bw 387 (by decide +kernel) rfl
theorem lk_RJ0_335 : ac_lk RJ0 335 (ac_r291).1 := Or.inl (aa_bw 385 (by decide +kernel) rfl)
theorem ce_292 : ac_ce 292 0 ac_r292 := ⟨mk_292, by decide +kernel, aa_bw 398 (by decide +kernel) rfl, aa_bw 86 (by decide +kernel) rfl, ⟨by decide +kernel, by decide +kernel⟩, by decide +kernel⟩
theorem ci_292 : Cond.instanceMethod (ac_r292).1 ∈ aa_BW := aa_bw 396 (by decide +kernel) rfl
theorem cv_292 : Cond.selects (ac_r292).1.cls (ac_r292).1 (ac_r292).1 ∈ aa_BW := aa_bw 397 (by decide +kernel) rfl
theorem lk_RJ0_492 : ac_lk RJ0 492 (ac_r292).1 := Or.inl (aa_bw 395 (by decide +kernel) rfl)
theorem ce_294 : ac_ce 294 2 ac_r294 := ⟨mk_294, by decide +kernel, aa_bw 401 (by decide +kernel) rfl, aa_bw 87 (by decide +kernel) rfl, ⟨by decide +kernel, by decide +kernel⟩, by decide +kernel⟩
theorem cs_294 : Cond.static (ac_r294).1 ∈ aa_BW := aa_bw 400 (by decide +kernel) rfl
theorem lk_RJ0_495 : ac_lk RJ0 495 (ac_r294).1 := Or.inl (aa_bw 399 (by decide +kernel) rfl)
theorem ce_300 : ac_ce 300 3 ac_r300 := ⟨mk_300, by decide +kernel, aa_bw 409 (by decide +kernel) rfl, aa_bw 88 (by decide +kernel) rfl, ⟨by decide +kernel, by decide +kernel⟩, by decide +kernel⟩
theorem cs_300 : Cond.static (ac_r300).1 ∈ aa_BW := aa_bw 408 (by decide +kernel) rfl
theorem lk_RJ0_1059 : ac_lk RJ0 1059 (ac_r300).1 := Or.inl (aa_bw 407 (by decide +kernel) rfl)
theorem ce_293 : ac_ce 293 2 ac_r293 := ⟨mk_293, by decide +kernel, aa_bw 404 (by decide +kernel) rfl, aa_bw 86 (by decide +kernel) rfl, ⟨by decide +kernel, by decide +kernel⟩, by decide +kernel⟩
theorem cs_293 : Cond.static (ac_r293).1 ∈ aa_BW := aa_bw 403 (by decide +kernel) rfl
theorem lk_RJ1_9 : ac_lk RJ1 9 (ac_r293).1 := Or.inl (aa_bw 402 (by decide +kernel) rfl)
theorem ce_138 : ac_ce 138 1 ac_r138 := ⟨mk_138, by decide +kernel, aa_bw 581 (by decide +kernel) rfl, aa_bw 73 (by decide +kernel) rfl, ⟨by decide +kernel, by decide +kernel⟩, by decide +kernel⟩
theorem ci_138 : Cond.instanceMethod (ac_r138).1 ∈ aa_BW := aa_bw 579 (by decide +kernel) rfl
theorem cv_138 : Cond.selects (ac_r138).1.cls (ac_r138).1 (ac_r138).1 ∈ aa_BW := aa_bw 580 (by decide +kernel) rfl
theorem lk_RL_13 : ac_lk RL 13 (ac_r138).1 := Or.inl (aa_bw 578 (by decide +kernel) rfl)
theorem cx_RL_13 {M : ac_R} (h : M.1.cls = RL) : ac_cv M 13 138 1 2 10 ac_r138 := ⟨ce_138, by rw [h]; exact lk_RL_13, ci_138, cv_138, rfl, by decide, (RX10, TX10, 14), rfl, rfl, by decide⟩
theorem ce_195 : ac_ce 195 1 ac_r195 := ⟨mk_195, by decide +kernel, aa_bw 1439 (by decide +kernel) rfl, aa_bw 90 (by decide +kernel) rfl, ⟨by decide +kernel, by decide +kernel⟩, by decide +kernel⟩
theorem ci_195 : Cond.instanceMethod (ac_r195).1 ∈ aa_BW := aa_bw 1437 (by decide +kernel) rfl
theorem cv_195 : Cond.selects (ac_r195).1.cls (ac_r195).1 (ac_r195).1 ∈ aa_BW := aa_bw 1438 (by decide +kernel) rfl
theorem lk_RL_17 : ac_lk RL 17 (ac_r195).1 := Or.inl (aa_bw 1436 (by decide +kernel) rfl)
theorem cx_RL_17 {M : ac_R} (h : M.1.cls = RL) : ac_cv M 17 195 1 2 11 ac_r195 := ⟨ce_195, by rw [h]; exact lk_RL_17, ci_195, cv_195, rfl, by decide, (RX11, TX11, 67), rfl, rfl, by decide⟩
theorem ce_139 : ac_ce 139 3 ac_r139 := ⟨mk_139, by decide +kernel, aa_bw 586 (by decide +kernel) rfl, aa_bw 73 (by decide +kernel) rfl, ⟨by decide +kernel, by decide +kernel⟩, by decide +kernel⟩
theorem ci_139 : Cond.instanceMethod (ac_r139).1 ∈ aa_BW := aa_bw 584 (by decide +kernel) rfl
theorem cv_139 : Cond.selects (ac_r139).1.cls (ac_r139).1 (ac_r139).1 ∈ aa_BW := aa_bw 585 (by decide +kernel) rfl
theorem lk_RL_18 : ac_lk RL 18 (ac_r139).1 := Or.inl (aa_bw 583 (by decide +kernel) rfl)
theorem cx_RL_18 {M : ac_R} (h : M.1.cls = RL) : ac_cv M 18 139 3 4 10 ac_r139 := ⟨ce_139, by rw [h]; exact lk_RL_18, ci_139, cv_139, rfl, by decide, (RX10, TX10, 14), rfl, rfl, by decide⟩
theorem ce_196 : ac_ce 196 3 ac_r196 := ⟨mk_196, by decide +kernel, aa_bw 1447 (by decide +kernel) rfl, aa_bw 90 (by decide +kernel) rfl, ⟨by decide +kernel, by decide +kernel⟩, by decide +kernel⟩
theorem ci_196 : Cond.instanceMethod (ac_r196).1 ∈ aa_BW := aa_bw 1445 (by decide +kernel) rfl
theorem cv_196 : Cond.selects (ac_r196).1.cls (ac_r196).1 (ac_r196).1 ∈ aa_BW := aa_bw 1446 (by decide +kernel) rfl
theorem lk_RL_22 : ac_lk RL 22 (ac_r196).1 := Or.inl (aa_bw 1444 (by decide +kernel) rfl)
theorem cx_RL_22 {M : ac_R} (h : M.1.cls = RL) : ac_cv M 22 196 3 5 11 ac_r196 := ⟨ce_196, by rw [h]; exact lk_RL_22, ci_196, cv_196, rfl, by decide, (RX11, TX11, 67), rfl, rfl, by decide⟩
theorem ce_140 : ac_ce 140 3 ac_r140 := ⟨mk_140, by decide +kernel, aa_bw 601 (by decide +kernel) rfl, aa_bw 73 (by decide +kernel) rfl, ⟨by decide +kernel, by decide +kernel⟩, by decide +kernel⟩
theorem ci_140 : Cond.instanceMethod (ac_r140).1 ∈ aa_BW := aa_bw 599 (by decide +kernel) rfl
theorem cv_140 : Cond.selects (ac_r140).1.cls (ac_r140).1 (ac_r140).1 ∈ aa_BW := aa_bw 600 (by decide +kernel) rfl
theorem lk_RL_23 : ac_lk RL 23 (ac_r140).1 := Or.inl (aa_bw 598 (by decide +kernel) rfl)
theorem cx_RL_23 {M : ac_R} (h : M.1.cls = RL) : ac_cv M 23 140 3 4 10 ac_r140 := ⟨ce_140, by rw [h]; exact lk_RL_23, ci_140, cv_140, rfl, by decide, (RX10, TX10, 14), rfl, rfl, by decide⟩
theorem ce_198 : ac_ce 198 3 ac_r198 := ⟨mk_198, by decide +kernel, aa_bw 1455 (by decide +kernel) rfl, aa_bw 90 (by decide +kernel) rfl, ⟨by decide +kernel, by decide +kernel⟩, by decide +kernel⟩
theorem ci_198 : Cond.instanceMethod (ac_r198).1 ∈ aa_BW := aa_bw 1453 (by decide +kernel) rfl
theorem cv_198 : Cond.selects (ac_r198).1.cls (ac_r198).1 (ac_r198).1 ∈ aa_BW := aa_bw 1454 (by decide +kernel) rfl
theorem lk_RL_26 : ac_lk RL 26 (ac_r198).1 := Or.inl (aa_bw 1452 (by decide +kernel) rfl)
theorem cx_RL_26 {M : ac_R} (h : M.1.cls = RL) : ac_cv M 26 198 3 4 11 ac_r198 := ⟨ce_198, by rw [h]; exact lk_RL_26, ci_198, cv_198, rfl, by decide, (RX11, TX11, 67), rfl, rfl, by decide⟩
theorem ce_141 : ac_ce 141 2 ac_r141 := ⟨mk_141, by decide +kernel, aa_bw 612 (by decide +kernel) rfl, aa_bw 73 (by decide +kernel) rfl, ⟨by decide +kernel, by decide +kernel⟩, by decide +kernel⟩
theorem ci_141 : Cond.instanceMethod (ac_r141).1 ∈ aa_BW := aa_bw 610 (by decide +kernel) rfl
theorem cv_141 : Cond.selects (ac_r141).1.cls (ac_r141).1 (ac_r141).1 ∈ aa_BW := aa_bw 611 (by decide +kernel) rfl
theorem lk_RL_27 : ac_lk RL 27 (ac_r141).1 := Or.inl (aa_bw 609 (by decide +kernel) rfl)
theorem cx_RL_27 {M : ac_R} (h : M.1.cls = RL) : ac_cv M 27 141 2 3 10 ac_r141 := ⟨ce_141, by rw [h]; exact lk_RL_27, ci_141, cv_141, rfl, by decide, (RX10, TX10, 14), rfl, rfl, by decide⟩
theorem ce_201 : ac_ce 201 2 ac_r201 := ⟨mk_201, by decide +kernel, aa_bw 1469 (by decide +kernel) rfl, aa_bw 90 (by decide +kernel) rfl, ⟨by decide +kernel, by decide +kernel⟩, by decide +kernel⟩
theorem ci_201 : Cond.instanceMethod (ac_r201).1 ∈ aa_BW := aa_bw 1467 (by decide +kernel) rfl
theorem cv_201 : Cond.selects (ac_r201).1.cls (ac_r201).1 (ac_r201).1 ∈ aa_BW := aa_bw 1468 (by decide +kernel) rfl
theorem lk_RL_31 : ac_lk RL 31 (ac_r201).1 := Or.inl (aa_bw 1466 (by decide +kernel) rfl)
theorem cx_RL_31 {M : ac_R} (h : M.1.cls = RL) : ac_cv M 31 201 2 3 11 ac_r201 := ⟨ce_201, by rw [h]; exact lk_RL_31, ci_201, cv_201, rfl, by decide, (RX11, TX11, 67), rfl, rfl, by decide⟩
theorem ce_142 : ac_ce 142 2 ac_r142 := ⟨mk_142, by decide +kernel, aa_bw 624 (by decide +kernel) rfl, aa_bw 73 (by decide +kernel) rfl, ⟨by decide +kernel, by decide +kernel⟩, by decide +kernel⟩
theorem ci_142 : Cond.instanceMethod (ac_r142).1 ∈ aa_BW := aa_bw 622 (by decide +kernel) rfl
theorem cv_142 : Cond.selects (ac_r142).1.cls (ac_r142).1 (ac_r142).1 ∈ aa_BW := aa_bw 623 (by decide +kernel) rfl
theorem lk_RL_32 : ac_lk RL 32 (ac_r142).1 := Or.inl (aa_bw 621 (by decide +kernel) rfl)
theorem cx_RL_32 {M : ac_R} (h : M.1.cls = RL) : ac_cv M 32 142 2 3 10 ac_r142 := ⟨ce_142, by rw [h]; exact lk_RL_32, ci_142, cv_142, rfl, by decide, (RX10, TX10, 14), rfl, rfl, by decide⟩
theorem ce_202 : ac_ce 202 2 ac_r202 := ⟨mk_202, by decide +kernel, aa_bw 1474 (by decide +kernel) rfl, aa_bw 90 (by decide +kernel) rfl, ⟨by decide +kernel, by decide +kernel⟩, by decide +kernel⟩
theorem ci_202 : Cond.instanceMethod (ac_r202).1 ∈ aa_BW := aa_bw 1472 (by decide +kernel) rfl
theorem cv_202 : Cond.selects (ac_r202).1.cls (ac_r202).1 (ac_r202).1 ∈ aa_BW := aa_bw 1473 (by decide +kernel) rfl
theorem lk_RL_35 : ac_lk RL 35 (ac_r202).1 := Or.inl (aa_bw 1471 (by decide +kernel) rfl)
theorem cx_RL_35 {M : ac_R} (h : M.1.cls = RL) : ac_cv M 35 202 2 4 11 ac_r202 := ⟨ce_202, by rw [h]; exact lk_RL_35, ci_202, cv_202, rfl, by decide, (RX11, TX11, 67), rfl, rfl, by decide⟩
theorem ce_143 : ac_ce 143 4 ac_r143 := ⟨mk_143, by decide +kernel, aa_bw 636 (by decide +kernel) rfl, aa_bw 73 (by decide +kernel) rfl, ⟨by decide +kernel, by decide +kernel⟩, by decide +kernel⟩
theorem ci_143 : Cond.instanceMethod (ac_r143).1 ∈ aa_BW := aa_bw 634 (by decide +kernel) rfl
theorem cv_143 : Cond.selects (ac_r143).1.cls (ac_r143).1 (ac_r143).1 ∈ aa_BW := aa_bw 635 (by decide +kernel) rfl
theorem lk_RL_36 : ac_lk RL 36 (ac_r143).1 := Or.inl (aa_bw 633 (by decide +kernel) rfl)
theorem cx_RL_36 {M : ac_R} (h : M.1.cls = RL) : ac_cv M 36 143 4 5 10 ac_r143 := ⟨ce_143, by rw [h]; exact lk_RL_36, ci_143, cv_143, rfl, by decide, (RX10, TX10, 14), rfl, rfl, by decide⟩
theorem ce_203 : ac_ce 203 4 ac_r203 := ⟨mk_203, by decide +kernel, aa_bw 1482 (by decide +kernel) rfl, aa_bw 90 (by decide +kernel) rfl, ⟨by decide +kernel, by decide +kernel⟩, by decide +kernel⟩
theorem ci_203 : Cond.instanceMethod (ac_r203).1 ∈ aa_BW := aa_bw 1480 (by decide +kernel) rfl
theorem cv_203 : Cond.selects (ac_r203).1.cls (ac_r203).1 (ac_r203).1 ∈ aa_BW := aa_bw 1481 (by decide +kernel) rfl
theorem lk_RL_40 : ac_lk RL 40 (ac_r203).1 := Or.inl (aa_bw 1479 (by decide +kernel) rfl)
theorem cx_RL_40 {M : ac_R} (h : M.1.cls = RL) : ac_cv M 40 203 4 5 11 ac_r203 := ⟨ce_203, by rw [h]; exact lk_RL_40, ci_203, cv_203, rfl, by decide, (RX11, TX11, 67), rfl, rfl, by decide⟩
theorem ce_144 : ac_ce 144 2 ac_r144 := ⟨mk_144, by decide +kernel, aa_bw 650 (by decide +kernel) rfl, aa_bw 73 (by decide +kernel) rfl, ⟨by decide +kernel, by decide +kernel⟩, by decide +kernel⟩
theorem ci_144 : Cond.instanceMethod (ac_r144).1 ∈ aa_BW := aa_bw 648 (by decide +kernel) rfl
theorem cv_144 : Cond.selects (ac_r144).1.cls (ac_r144).1 (ac_r144).1 ∈ aa_BW := aa_bw 649 (by decide +kernel) rfl
theorem lk_RL_41 : ac_lk RL 41 (ac_r144).1 := Or.inl (aa_bw 647 (by decide +kernel) rfl)
theorem cx_RL_41 {M : ac_R} (h : M.1.cls = RL) : ac_cv M 41 144 2 3 10 ac_r144 := ⟨ce_144, by rw [h]; exact lk_RL_41, ci_144, cv_144, rfl, by decide, (RX10, TX10, 14), rfl, rfl, by decide⟩
theorem ce_207 : ac_ce 207 2 ac_r207 := ⟨mk_207, by decide +kernel, aa_bw 1488 (by decide +kernel) rfl, aa_bw 90 (by decide +kernel) rfl, ⟨by decide +kernel, by decide +kernel⟩, by decide +kernel⟩
theorem ci_207 : Cond.instanceMethod (ac_r207).1 ∈ aa_BW := aa_bw 1486 (by decide +kernel) rfl
theorem cv_207 : Cond.selects (ac_r207).1.cls (ac_r207).1 (ac_r207).1 ∈ aa_BW := aa_bw 1487 (by decide +kernel) rfl
theorem lk_RL_45 : ac_lk RL 45 (ac_r207).1 := Or.inl (aa_bw 1485 (by decide +kernel) rfl)
theorem cx_RL_45 {M : ac_R} (h : M.1.cls = RL) : ac_cv M 45 207 2 3 11 ac_r207 := ⟨ce_207, by rw [h]; exact lk_RL_45, ci_207, cv_207, rfl, by decide, (RX11, TX11, 67), rfl, rfl, by decide⟩
theorem ce_145 : ac_ce 145 2 ac_r145 := ⟨mk_145, by decide +kernel, aa_bw 676 (by decide +kernel) rfl, aa_bw 73 (by decide +kernel) rfl, ⟨by decide +kernel, by decide +kernel⟩, by decide +kernel⟩
theorem ci_145 : Cond.instanceMethod (ac_r145).1 ∈ aa_BW := aa_bw 674 (by decide +kernel) rfl
theorem cv_145 : Cond.selects (ac_r145).1.cls (ac_r145).1 (ac_r145).1 ∈ aa_BW := aa_bw 675 (by decide +kernel) rfl
theorem lk_RL_46 : ac_lk RL 46 (ac_r145).1 := Or.inl (aa_bw 673 (by decide +kernel) rfl)
theorem cx_RL_46 {M : ac_R} (h : M.1.cls = RL) : ac_cv M 46 145 2 3 10 ac_r145 := ⟨ce_145, by rw [h]; exact lk_RL_46, ci_145, cv_145, rfl, by decide, (RX10, TX10, 14), rfl, rfl, by decide⟩
theorem ce_208 : ac_ce 208 2 ac_r208 := ⟨mk_208, by decide +kernel, aa_bw 1509 (by decide +kernel) rfl, aa_bw 90 (by decide +kernel) rfl, ⟨by decide +kernel, by decide +kernel⟩, by decide +kernel⟩
theorem ci_208 : Cond.instanceMethod (ac_r208).1 ∈ aa_BW := aa_bw 1507 (by decide +kernel) rfl
theorem cv_208 : Cond.selects (ac_r208).1.cls (ac_r208).1 (ac_r208).1 ∈ aa_BW := aa_bw 1508 (by decide +kernel) rfl
theorem lk_RL_49 : ac_lk RL 49 (ac_r208).1 := Or.inl (aa_bw 1506 (by decide +kernel) rfl)
theorem cx_RL_49 {M : ac_R} (h : M.1.cls = RL) : ac_cv M 49 208 2 4 11 ac_r208 := ⟨ce_208, by rw [h]; exact lk_RL_49, ci_208, cv_208, rfl, by decide, (RX11, TX11, 67), rfl, rfl, by decide⟩
theorem ce_146 : ac_ce 146 1 ac_r146 := ⟨mk_146, by decide +kernel, aa_bw 684 (by decide +kernel) rfl, aa_bw 73 (by decide +kernel) rfl, ⟨by decide +kernel, by decide +kernel⟩, by decide +kernel⟩
theorem ci_146 : Cond.instanceMethod (ac_r146).1 ∈ aa_BW := aa_bw 682 (by decide +kernel) rfl
theorem cv_146 : Cond.selects (ac_r146).1.cls (ac_r146).1 (ac_r146).1 ∈ aa_BW := aa_bw 683 (by decide +kernel) rfl
theorem lk_RL_50 : ac_lk RL 50 (ac_r146).1 := Or.inl (aa_bw 681 (by decide +kernel) rfl)
theorem cx_RL_50 {M : ac_R} (h : M.1.cls = RL) : ac_cv M 50 146 1 3 10 ac_r146 := ⟨ce_146, by rw [h]; exact lk_RL_50, ci_146, cv_146, rfl, by decide, (RX10, TX10, 14), rfl, rfl, by decide⟩
theorem ce_209 : ac_ce 209 1 ac_r209 := ⟨mk_209, by decide +kernel, aa_bw 1514 (by decide +kernel) rfl, aa_bw 90 (by decide +kernel) rfl, ⟨by decide +kernel, by decide +kernel⟩, by decide +kernel⟩
theorem ci_209 : Cond.instanceMethod (ac_r209).1 ∈ aa_BW := aa_bw 1512 (by decide +kernel) rfl
theorem cv_209 : Cond.selects (ac_r209).1.cls (ac_r209).1 (ac_r209).1 ∈ aa_BW := aa_bw 1513 (by decide +kernel) rfl
theorem lk_RL_53 : ac_lk RL 53 (ac_r209).1 := Or.inl (aa_bw 1511 (by decide +kernel) rfl)
theorem cx_RL_53 {M : ac_R} (h : M.1.cls = RL) : ac_cv M 53 209 1 4 11 ac_r209 := ⟨ce_209, by rw [h]; exact lk_RL_53, ci_209, cv_209, rfl, by decide, (RX11, TX11, 67), rfl, rfl, by decide⟩
theorem ce_147 : ac_ce 147 1 ac_r147 := ⟨mk_147, by decide +kernel, aa_bw 739 (by decide +kernel) rfl, aa_bw 73 (by decide +kernel) rfl, ⟨by decide +kernel, by decide +kernel⟩, by decide +kernel⟩
theorem ci_147 : Cond.instanceMethod (ac_r147).1 ∈ aa_BW := aa_bw 737 (by decide +kernel) rfl
theorem cv_147 : Cond.selects (ac_r147).1.cls (ac_r147).1 (ac_r147).1 ∈ aa_BW := aa_bw 738 (by decide +kernel) rfl
theorem lk_RL_54 : ac_lk RL 54 (ac_r147).1 := Or.inl (aa_bw 736 (by decide +kernel) rfl)
theorem cx_RL_54 {M : ac_R} (h : M.1.cls = RL) : ac_cv M 54 147 1 2 10 ac_r147 := ⟨ce_147, by rw [h]; exact lk_RL_54, ci_147, cv_147, rfl, by decide, (RX10, TX10, 14), rfl, rfl, by decide⟩
theorem ce_210 : ac_ce 210 1 ac_r210 := ⟨mk_210, by decide +kernel, aa_bw 1529 (by decide +kernel) rfl, aa_bw 90 (by decide +kernel) rfl, ⟨by decide +kernel, by decide +kernel⟩, by decide +kernel⟩
theorem ci_210 : Cond.instanceMethod (ac_r210).1 ∈ aa_BW := aa_bw 1527 (by decide +kernel) rfl
theorem cv_210 : Cond.selects (ac_r210).1.cls (ac_r210).1 (ac_r210).1 ∈ aa_BW := aa_bw 1528 (by decide +kernel) rfl
theorem lk_RL_58 : ac_lk RL 58 (ac_r210).1 := Or.inl (aa_bw 1526 (by decide +kernel) rfl)
theorem cx_RL_58 {M : ac_R} (h : M.1.cls = RL) : ac_cv M 58 210 1 5 11 ac_r210 := ⟨ce_210, by rw [h]; exact lk_RL_58, ci_210, cv_210, rfl, by decide, (RX11, TX11, 67), rfl, rfl, by decide⟩
theorem ce_148 : ac_ce 148 2 ac_r148 := ⟨mk_148, by decide +kernel, aa_bw 747 (by decide +kernel) rfl, aa_bw 73 (by decide +kernel) rfl, ⟨by decide +kernel, by decide +kernel⟩, by decide +kernel⟩
theorem ci_148 : Cond.instanceMethod (ac_r148).1 ∈ aa_BW := aa_bw 745 (by decide +kernel) rfl
theorem cv_148 : Cond.selects (ac_r148).1.cls (ac_r148).1 (ac_r148).1 ∈ aa_BW := aa_bw 746 (by decide +kernel) rfl
theorem lk_RL_61 : ac_lk RL 61 (ac_r148).1 := Or.inl (aa_bw 744 (by decide +kernel) rfl)
theorem cx_RL_61 {M : ac_R} (h : M.1.cls = RL) : ac_cv M 61 148 2 4 10 ac_r148 := ⟨ce_148, by rw [h]; exact lk_RL_61, ci_148, cv_148, rfl, by decide, (RX10, TX10, 14), rfl, rfl, by decide⟩
theorem ce_213 : ac_ce 213 2 ac_r213 := ⟨mk_213, by decide +kernel, aa_bw 1533 (by decide +kernel) rfl, aa_bw 90 (by decide +kernel) rfl, ⟨by decide +kernel, by decide +kernel⟩, by decide +kernel⟩
theorem ci_213 : Cond.instanceMethod (ac_r213).1 ∈ aa_BW := aa_bw 1531 (by decide +kernel) rfl
theorem cv_213 : Cond.selects (ac_r213).1.cls (ac_r213).1 (ac_r213).1 ∈ aa_BW := aa_bw 1532 (by decide +kernel) rfl
theorem lk_RL_65 : ac_lk RL 65 (ac_r213).1 := Or.inl (aa_bw 1530 (by decide +kernel) rfl)
theorem cx_RL_65 {M : ac_R} (h : M.1.cls = RL) : ac_cv M 65 213 2 5 11 ac_r213 := ⟨ce_213, by rw [h]; exact lk_RL_65, ci_213, cv_213, rfl, by decide, (RX11, TX11, 67), rfl, rfl, by decide⟩
theorem ce_149 : ac_ce 149 0 ac_r149 := ⟨mk_149, by decide +kernel, aa_bw 755 (by decide +kernel) rfl, aa_bw 73 (by decide +kernel) rfl, ⟨by decide +kernel, by decide +kernel⟩, by decide +kernel⟩
theorem ci_149 : Cond.instanceMethod (ac_r149).1 ∈ aa_BW := aa_bw 753 (by decide +kernel) rfl
theorem cv_149 : Cond.selects (ac_r149).1.cls (ac_r149).1 (ac_r149).1 ∈ aa_BW := aa_bw 754 (by decide +kernel) rfl
theorem lk_RL_66 : ac_lk RL 66 (ac_r149).1 := Or.inl (aa_bw 752 (by decide +kernel) rfl)
theorem cx_RL_66 {M : ac_R} (h : M.1.cls = RL) : ac_cv M 66 149 0 2 10 ac_r149 := ⟨ce_149, by rw [h]; exact lk_RL_66, ci_149, cv_149, rfl, by decide, (RX10, TX10, 14), rfl, rfl, by decide⟩
theorem ce_223 : ac_ce 223 0 ac_r223 := ⟨mk_223, by decide +kernel, aa_bw 1538 (by decide +kernel) rfl, aa_bw 90 (by decide +kernel) rfl, ⟨by decide +kernel, by decide +kernel⟩, by decide +kernel⟩
theorem ci_223 : Cond.instanceMethod (ac_r223).1 ∈ aa_BW := aa_bw 1536 (by decide +kernel) rfl
theorem cv_223 : Cond.selects (ac_r223).1.cls (ac_r223).1 (ac_r223).1 ∈ aa_BW := aa_bw 1537 (by decide +kernel) rfl
theorem lk_RL_70 : ac_lk RL 70 (ac_r223).1 := Or.inl (aa_bw 1535 (by decide +kernel) rfl)
theorem cx_RL_70 {M : ac_R} (h : M.1.cls = RL) : ac_cv M 70 223 0 3 11 ac_r223 := ⟨ce_223, by rw [h]; exact lk_RL_70, ci_223, cv_223, rfl, by decide, (RX11, TX11, 67), rfl, rfl, by decide⟩
theorem ce_150 : ac_ce 150 1 ac_r150 := ⟨mk_150, by decide +kernel, aa_bw 759 (by decide +kernel) rfl, aa_bw 73 (by decide +kernel) rfl, ⟨by decide +kernel, by decide +kernel⟩, by decide +kernel⟩
theorem ci_150 : Cond.instanceMethod (ac_r150).1 ∈ aa_BW := aa_bw 757 (by decide +kernel) rfl
theorem cv_150 : Cond.selects (ac_r150).1.cls (ac_r150).1 (ac_r150).1 ∈ aa_BW := aa_bw 758 (by decide +kernel) rfl
theorem lk_RL_71 : ac_lk RL 71 (ac_r150).1 := Or.inl (aa_bw 756 (by decide +kernel) rfl)
theorem cx_RL_71 {M : ac_R} (h : M.1.cls = RL) : ac_cv M 71 150 1 3 10 ac_r150 := ⟨ce_150, by rw [h]; exact lk_RL_71, ci_150, cv_150, rfl, by decide, (RX10, TX10, 14), rfl, rfl, by decide⟩
theorem ce_224 : ac_ce 224 1 ac_r224 := ⟨mk_224, by decide +kernel, aa_bw 1587 (by decide +kernel) rfl, aa_bw 90 (by decide +kernel) rfl, ⟨by decide +kernel, by decide +kernel⟩, by decide +kernel⟩
theorem ci_224 : Cond.instanceMethod (ac_r224).1 ∈ aa_BW := aa_bw 1585 (by decide +kernel) rfl
theorem cv_224 : Cond.selects (ac_r224).1.cls (ac_r224).1 (ac_r224).1 ∈ aa_BW := aa_bw 1586 (by decide +kernel) rfl
theorem lk_RL_74 : ac_lk RL 74 (ac_r224).1 := Or.inl (aa_bw 1584 (by decide +kernel) rfl)
theorem cx_RL_74 {M : ac_R} (h : M.1.cls = RL) : ac_cv M 74 224 1 3 11 ac_r224 := ⟨ce_224, by rw [h]; exact lk_RL_74, ci_224, cv_224, rfl, by decide, (RX11, TX11, 67), rfl, rfl, by decide⟩
theorem ce_151 : ac_ce 151 2 ac_r151 := ⟨mk_151, by decide +kernel, aa_bw 763 (by decide +kernel) rfl, aa_bw 73 (by decide +kernel) rfl, ⟨by decide +kernel, by decide +kernel⟩, by decide +kernel⟩
theorem ci_151 : Cond.instanceMethod (ac_r151).1 ∈ aa_BW := aa_bw 761 (by decide +kernel) rfl
theorem cv_151 : Cond.selects (ac_r151).1.cls (ac_r151).1 (ac_r151).1 ∈ aa_BW := aa_bw 762 (by decide +kernel) rfl
theorem lk_RL_75 : ac_lk RL 75 (ac_r151).1 := Or.inl (aa_bw 760 (by decide +kernel) rfl)
theorem cx_RL_75 {M : ac_R} (h : M.1.cls = RL) : ac_cv M 75 151 2 3 10 ac_r151 := ⟨ce_151, by rw [h]; exact lk_RL_75, ci_151, cv_151, rfl, by decide, (RX10, TX10, 14), rfl, rfl, by decide⟩
theorem ce_228 : ac_ce 228 2 ac_r228 := ⟨mk_228, by decide +kernel, aa_bw 1591 (by decide +kernel) rfl, aa_bw 90 (by decide +kernel) rfl, ⟨by decide +kernel, by decide +kernel⟩, by decide +kernel⟩
theorem ci_228 : Cond.instanceMethod (ac_r228).1 ∈ aa_BW := aa_bw 1589 (by decide +kernel) rfl
theorem cv_228 : Cond.selects (ac_r228).1.cls (ac_r228).1 (ac_r228).1 ∈ aa_BW := aa_bw 1590 (by decide +kernel) rfl
theorem lk_RL_78 : ac_lk RL 78 (ac_r228).1 := Or.inl (aa_bw 1588 (by decide +kernel) rfl)
theorem cx_RL_78 {M : ac_R} (h : M.1.cls = RL) : ac_cv M 78 228 2 3 11 ac_r228 := ⟨ce_228, by rw [h]; exact lk_RL_78, ci_228, cv_228, rfl, by decide, (RX11, TX11, 67), rfl, rfl, by decide⟩
theorem ce_152 : ac_ce 152 2 ac_r152 := ⟨mk_152, by decide +kernel, aa_bw 835 (by decide +kernel) rfl, aa_bw 73 (by decide +kernel) rfl, ⟨by decide +kernel, by decide +kernel⟩, by decide +kernel⟩
theorem ci_152 : Cond.instanceMethod (ac_r152).1 ∈ aa_BW := aa_bw 833 (by decide +kernel) rfl
theorem cv_152 : Cond.selects (ac_r152).1.cls (ac_r152).1 (ac_r152).1 ∈ aa_BW := aa_bw 834 (by decide +kernel) rfl
theorem lk_RL_79 : ac_lk RL 79 (ac_r152).1 := Or.inl (aa_bw 832 (by decide +kernel) rfl)
theorem cx_RL_79 {M : ac_R} (h : M.1.cls = RL) : ac_cv M 79 152 2 3 10 ac_r152 := ⟨ce_152, by rw [h]; exact lk_RL_79, ci_152, cv_152, rfl, by decide, (RX10, TX10, 14), rfl, rfl, by decide⟩
theorem ce_229 : ac_ce 229 2 ac_r229 := ⟨mk_229, by decide +kernel, aa_bw 1618 (by decide +kernel) rfl, aa_bw 90 (by decide +kernel) rfl, ⟨by decide +kernel, by decide +kernel⟩, by decide +kernel⟩
theorem ci_229 : Cond.instanceMethod (ac_r229).1 ∈ aa_BW := aa_bw 1616 (by decide +kernel) rfl
theorem cv_229 : Cond.selects (ac_r229).1.cls (ac_r229).1 (ac_r229).1 ∈ aa_BW := aa_bw 1617 (by decide +kernel) rfl
theorem lk_RL_82 : ac_lk RL 82 (ac_r229).1 := Or.inl (aa_bw 1615 (by decide +kernel) rfl)
theorem cx_RL_82 {M : ac_R} (h : M.1.cls = RL) : ac_cv M 82 229 2 3 11 ac_r229 := ⟨ce_229, by rw [h]; exact lk_RL_82, ci_229, cv_229, rfl, by decide, (RX11, TX11, 67), rfl, rfl, by decide⟩
theorem ce_153 : ac_ce 153 1 ac_r153 := ⟨mk_153, by decide +kernel, aa_bw 850 (by decide +kernel) rfl, aa_bw 73 (by decide +kernel) rfl, ⟨by decide +kernel, by decide +kernel⟩, by decide +kernel⟩
theorem ci_153 : Cond.instanceMethod (ac_r153).1 ∈ aa_BW := aa_bw 848 (by decide +kernel) rfl
theorem cv_153 : Cond.selects (ac_r153).1.cls (ac_r153).1 (ac_r153).1 ∈ aa_BW := aa_bw 849 (by decide +kernel) rfl
theorem lk_RL_83 : ac_lk RL 83 (ac_r153).1 := Or.inl (aa_bw 847 (by decide +kernel) rfl)
theorem cx_RL_83 {M : ac_R} (h : M.1.cls = RL) : ac_cv M 83 153 1 3 10 ac_r153 := ⟨ce_153, by rw [h]; exact lk_RL_83, ci_153, cv_153, rfl, by decide, (RX10, TX10, 14), rfl, rfl, by decide⟩
theorem ce_234 : ac_ce 234 1 ac_r234 := ⟨mk_234, by decide +kernel, aa_bw 1623 (by decide +kernel) rfl, aa_bw 90 (by decide +kernel) rfl, ⟨by decide +kernel, by decide +kernel⟩, by decide +kernel⟩
theorem ci_234 : Cond.instanceMethod (ac_r234).1 ∈ aa_BW := aa_bw 1621 (by decide +kernel) rfl
theorem cv_234 : Cond.selects (ac_r234).1.cls (ac_r234).1 (ac_r234).1 ∈ aa_BW := aa_bw 1622 (by decide +kernel) rfl
theorem lk_RL_86 : ac_lk RL 86 (ac_r234).1 := Or.inl (aa_bw 1620 (by decide +kernel) rfl)
theorem cx_RL_86 {M : ac_R} (h : M.1.cls = RL) : ac_cv M 86 234 1 2 11 ac_r234 := ⟨ce_234, by rw [h]; exact lk_RL_86, ci_234, cv_234, rfl, by decide, (RX11, TX11, 67), rfl, rfl, by decide⟩
theorem ce_154 : ac_ce 154 0 ac_r154 := ⟨mk_154, by decide +kernel, aa_bw 866 (by decide +kernel) rfl, aa_bw 73 (by decide +kernel) rfl, ⟨by decide +kernel, by decide +kernel⟩, by decide +kernel⟩
theorem ci_154 : Cond.instanceMethod (ac_r154).1 ∈ aa_BW := aa_bw 864 (by decide +kernel) rfl
theorem cv_154 : Cond.selects (ac_r154).1.cls (ac_r154).1 (ac_r154).1 ∈ aa_BW := aa_bw 865 (by decide +kernel) rfl
theorem lk_RL_87 : ac_lk RL 87 (ac_r154).1 := Or.inl (aa_bw 863 (by decide +kernel) rfl)
theorem cx_RL_87 {M : ac_R} (h : M.1.cls = RL) : ac_cv M 87 154 0 5 10 ac_r154 := ⟨ce_154, by rw [h]; exact lk_RL_87, ci_154, cv_154, rfl, by decide, (RX10, TX10, 14), rfl, rfl, by decide⟩
theorem ce_237 : ac_ce 237 0 ac_r237 := ⟨mk_237, by decide +kernel, aa_bw 1643 (by decide +kernel) rfl, aa_bw 90 (by decide +kernel) rfl, ⟨by decide +kernel, by decide +kernel⟩, by decide +kernel⟩
theorem ci_237 : Cond.instanceMethod (ac_r237).1 ∈ aa_BW := aa_bw 1641 (by decide +kernel) rfl
theorem cv_237 : Cond.selects (ac_r237).1.cls (ac_r237).1 (ac_r237).1 ∈ aa_BW := aa_bw 1642 (by decide +kernel) rfl
theorem lk_RL_90 : ac_lk RL 90 (ac_r237).1 := Or.inl (aa_bw 1640 (by decide +kernel) rfl)
theorem cx_RL_90 {M : ac_R} (h : M.1.cls = RL) : ac_cv M 90 237 0 5 11 ac_r237 := ⟨ce_237, by rw [h]; exact lk_RL_90, ci_237, cv_237, rfl, by decide, (RX11, TX11, 67), rfl, rfl, by decide⟩
theorem ce_155 : ac_ce 155 1 ac_r155 := ⟨mk_155, by decide +kernel, aa_bw 882 (by decide +kernel) rfl, aa_bw 73 (by decide +kernel) rfl, ⟨by decide +kernel, by decide +kernel⟩, by decide +kernel⟩
theorem ci_155 : Cond.instanceMethod (ac_r155).1 ∈ aa_BW := aa_bw 880 (by decide +kernel) rfl
theorem cv_155 : Cond.selects (ac_r155).1.cls (ac_r155).1 (ac_r155).1 ∈ aa_BW := aa_bw 881 (by decide +kernel) rfl
theorem lk_RL_91 : ac_lk RL 91 (ac_r155).1 := Or.inl (aa_bw 879 (by decide +kernel) rfl)
theorem cx_RL_91 {M : ac_R} (h : M.1.cls = RL) : ac_cv M 91 155 1 6 10 ac_r155 := ⟨ce_155, by rw [h]; exact lk_RL_91, ci_155, cv_155, rfl, by decide, (RX10, TX10, 14), rfl, rfl, by decide⟩
theorem ce_238 : ac_ce 238 1 ac_r238 := ⟨mk_238, by decide +kernel, aa_bw 1655 (by decide +kernel) rfl, aa_bw 90 (by decide +kernel) rfl, ⟨by decide +kernel, by decide +kernel⟩, by decide +kernel⟩
theorem ci_238 : Cond.instanceMethod (ac_r238).1 ∈ aa_BW := aa_bw 1653 (by decide +kernel) rfl
theorem cv_238 : Cond.selects (ac_r238).1.cls (ac_r238).1 (ac_r238).1 ∈ aa_BW := aa_bw 1654 (by decide +kernel) rfl
theorem lk_RL_94 : ac_lk RL 94 (ac_r238).1 := Or.inl (aa_bw 1652 (by decide +kernel) rfl)
theorem cx_RL_94 {M : ac_R} (h : M.1.cls = RL) : ac_cv M 94 238 1 6 11 ac_r238 := ⟨ce_238, by rw [h]; exact lk_RL_94, ci_238, cv_238, rfl, by decide, (RX11, TX11, 67), rfl, rfl, by decide⟩
theorem ce_156 : ac_ce 156 1 ac_r156 := ⟨mk_156, by decide +kernel, aa_bw 886 (by decide +kernel) rfl, aa_bw 73 (by decide +kernel) rfl, ⟨by decide +kernel, by decide +kernel⟩, by decide +kernel⟩
theorem ci_156 : Cond.instanceMethod (ac_r156).1 ∈ aa_BW := aa_bw 884 (by decide +kernel) rfl
theorem cv_156 : Cond.selects (ac_r156).1.cls (ac_r156).1 (ac_r156).1 ∈ aa_BW := aa_bw 885 (by decide +kernel) rfl
theorem lk_RL_95 : ac_lk RL 95 (ac_r156).1 := Or.inl (aa_bw 883 (by decide +kernel) rfl)
theorem cx_RL_95 {M : ac_R} (h : M.1.cls = RL) : ac_cv M 95 156 1 2 10 ac_r156 := ⟨ce_156, by rw [h]; exact lk_RL_95, ci_156, cv_156, rfl, by decide, (RX10, TX10, 14), rfl, rfl, by decide⟩
theorem ce_239 : ac_ce 239 1 ac_r239 := ⟨mk_239, by decide +kernel, aa_bw 1659 (by decide +kernel) rfl, aa_bw 90 (by decide +kernel) rfl, ⟨by decide +kernel, by decide +kernel⟩, by decide +kernel⟩
theorem ci_239 : Cond.instanceMethod (ac_r239).1 ∈ aa_BW := aa_bw 1657 (by decide +kernel) rfl
theorem cv_239 : Cond.selects (ac_r239).1.cls (ac_r239).1 (ac_r239).1 ∈ aa_BW := aa_bw 1658 (by decide +kernel) rfl
theorem lk_RL_98 : ac_lk RL 98 (ac_r239).1 := Or.inl (aa_bw 1656 (by decide +kernel) rfl)
theorem cx_RL_98 {M : ac_R} (h : M.1.cls = RL) : ac_cv M 98 239 1 7 11 ac_r239 := ⟨ce_239, by rw [h]; exact lk_RL_98, ci_239, cv_239, rfl, by decide, (RX11, TX11, 67), rfl, rfl, by decide⟩
theorem ce_157 : ac_ce 157 1 ac_r157 := ⟨mk_157, by decide +kernel, aa_bw 898 (by decide +kernel) rfl, aa_bw 73 (by decide +kernel) rfl, ⟨by decide +kernel, by decide +kernel⟩, by decide +kernel⟩
theorem ci_157 : Cond.instanceMethod (ac_r157).1 ∈ aa_BW := aa_bw 896 (by decide +kernel) rfl
theorem cv_157 : Cond.selects (ac_r157).1.cls (ac_r157).1 (ac_r157).1 ∈ aa_BW := aa_bw 897 (by decide +kernel) rfl
theorem lk_RL_99 : ac_lk RL 99 (ac_r157).1 := Or.inl (aa_bw 895 (by decide +kernel) rfl)
theorem cx_RL_99 {M : ac_R} (h : M.1.cls = RL) : ac_cv M 99 157 1 2 10 ac_r157 := ⟨ce_157, by rw [h]; exact lk_RL_99, ci_157, cv_157, rfl, by decide, (RX10, TX10, 14), rfl, rfl, by decide⟩
theorem ce_241 : ac_ce 241 1 ac_r241 := ⟨mk_241, by decide +kernel, aa_bw 1664 (by decide +kernel) rfl, aa_bw 90 (by decide +kernel) rfl, ⟨by decide +kernel, by decide +kernel⟩, by decide +kernel⟩
theorem ci_241 : Cond.instanceMethod (ac_r241).1 ∈ aa_BW := aa_bw 1662 (by decide +kernel) rfl
theorem cv_241 : Cond.selects (ac_r241).1.cls (ac_r241).1 (ac_r241).1 ∈ aa_BW := aa_bw 1663 (by decide +kernel) rfl
theorem lk_RL_102 : ac_lk RL 102 (ac_r241).1 := Or.inl (aa_bw 1661 (by decide +kernel) rfl)
theorem cx_RL_102 {M : ac_R} (h : M.1.cls = RL) : ac_cv M 102 241 1 2 11 ac_r241 := ⟨ce_241, by rw [h]; exact lk_RL_102, ci_241, cv_241, rfl, by decide, (RX11, TX11, 67), rfl, rfl, by decide⟩
theorem ce_158 : ac_ce 158 4 ac_r158 := ⟨mk_158, by decide +kernel, aa_bw 906 (by decide +kernel) rfl, aa_bw 73 (by decide +kernel) rfl, ⟨by decide +kernel, by decide +kernel⟩, by decide +kernel⟩
theorem ci_158 : Cond.instanceMethod (ac_r158).1 ∈ aa_BW := aa_bw 904 (by decide +kernel) rfl
theorem cv_158 : Cond.selects (ac_r158).1.cls (ac_r158).1 (ac_r158).1 ∈ aa_BW := aa_bw 905 (by decide +kernel) rfl
theorem lk_RL_103 : ac_lk RL 103 (ac_r158).1 := Or.inl (aa_bw 903 (by decide +kernel) rfl)
theorem cx_RL_103 {M : ac_R} (h : M.1.cls = RL) : ac_cv M 103 158 4 5 10 ac_r158 := ⟨ce_158, by rw [h]; exact lk_RL_103, ci_158, cv_158, rfl, by decide, (RX10, TX10, 14), rfl, rfl, by decide⟩
theorem ce_242 : ac_ce 242 4 ac_r242 := ⟨mk_242, by decide +kernel, aa_bw 1668 (by decide +kernel) rfl, aa_bw 90 (by decide +kernel) rfl, ⟨by decide +kernel, by decide +kernel⟩, by decide +kernel⟩
theorem ci_242 : Cond.instanceMethod (ac_r242).1 ∈ aa_BW := aa_bw 1666 (by decide +kernel) rfl
theorem cv_242 : Cond.selects (ac_r242).1.cls (ac_r242).1 (ac_r242).1 ∈ aa_BW := aa_bw 1667 (by decide +kernel) rfl
theorem lk_RL_106 : ac_lk RL 106 (ac_r242).1 := Or.inl (aa_bw 1665 (by decide +kernel) rfl)
theorem cx_RL_106 {M : ac_R} (h : M.1.cls = RL) : ac_cv M 106 242 4 5 11 ac_r242 := ⟨ce_242, by rw [h]; exact lk_RL_106, ci_242, cv_242, rfl, by decide, (RX11, TX11, 67), rfl, rfl, by decide⟩
theorem ce_159 : ac_ce 159 4 ac_r159 := ⟨mk_159, by decide +kernel, aa_bw 918 (by decide +kernel) rfl, aa_bw 73 (by decide +kernel) rfl, ⟨by decide +kernel, by decide +kernel⟩, by decide +kernel⟩
theorem ci_159 : Cond.instanceMethod (ac_r159).1 ∈ aa_BW := aa_bw 916 (by decide +kernel) rfl
theorem cv_159 : Cond.selects (ac_r159).1.cls (ac_r159).1 (ac_r159).1 ∈ aa_BW := aa_bw 917 (by decide +kernel) rfl
theorem lk_RL_107 : ac_lk RL 107 (ac_r159).1 := Or.inl (aa_bw 915 (by decide +kernel) rfl)
theorem cx_RL_107 {M : ac_R} (h : M.1.cls = RL) : ac_cv M 107 159 4 7 10 ac_r159 := ⟨ce_159, by rw [h]; exact lk_RL_107, ci_159, cv_159, rfl, by decide, (RX10, TX10, 14), rfl, rfl, by decide⟩
theorem ce_246 : ac_ce 246 4 ac_r246 := ⟨mk_246, by decide +kernel, aa_bw 1672 (by decide +kernel) rfl, aa_bw 90 (by decide +kernel) rfl, ⟨by decide +kernel, by decide +kernel⟩, by decide +kernel⟩
theorem ci_246 : Cond.instanceMethod (ac_r246).1 ∈ aa_BW := aa_bw 1670 (by decide +kernel) rfl
theorem cv_246 : Cond.selects (ac_r246).1.cls (ac_r246).1 (ac_r246).1 ∈ aa_BW := aa_bw 1671 (by decide +kernel) rfl
theorem lk_RL_110 : ac_lk RL 110 (ac_r246).1 := Or.inl (aa_bw 1669 (by decide +kernel) rfl)
theorem cx_RL_110 {M : ac_R} (h : M.1.cls = RL) : ac_cv M 110 246 4 5 11 ac_r246 := ⟨ce_246, by rw [h]; exact lk_RL_110, ci_246, cv_246, rfl, by decide, (RX11, TX11, 67), rfl, rfl, by decide⟩
theorem ce_160 : ac_ce 160 2 ac_r160 := ⟨mk_160, by decide +kernel, aa_bw 923 (by decide +kernel) rfl, aa_bw 73 (by decide +kernel) rfl, ⟨by decide +kernel, by decide +kernel⟩, by decide +kernel⟩
theorem ci_160 : Cond.instanceMethod (ac_r160).1 ∈ aa_BW := aa_bw 921 (by decide +kernel) rfl
theorem cv_160 : Cond.selects (ac_r160).1.cls (ac_r160).1 (ac_r160).1 ∈ aa_BW := aa_bw 922 (by decide +kernel) rfl
theorem lk_RL_111 : ac_lk RL 111 (ac_r160).1 := Or.inl (aa_bw 920 (by decide +kernel) rfl)
theorem cx_RL_111 {M : ac_R} (h : M.1.cls = RL) : ac_cv M 111 160 2 3 10 ac_r160 := ⟨ce_160, by rw [h]; exact lk_RL_111, ci_160, cv_160, rfl, by decide, (RX10, TX10, 14), rfl, rfl, by decide⟩
theorem ce_248 : ac_ce 248 2 ac_r248 := ⟨mk_248, by decide +kernel, aa_bw 1680 (by decide +kernel) rfl, aa_bw 90 (by decide +kernel) rfl, ⟨by decide +kernel, by decide +kernel⟩, by decide +kernel⟩
theorem ci_248 : Cond.instanceMethod (ac_r248).1 ∈ aa_BW := aa_bw 1678 (by decide +kernel) rfl
theorem cv_248 : Cond.selects (ac_r248).1.cls (ac_r248).1 (ac_r248).1 ∈ aa_BW := aa_bw 1679 (by decide +kernel) rfl
theorem lk_RL_114 : ac_lk RL 114 (ac_r248).1 := Or.inl (aa_bw 1677 (by decide +kernel) rfl)
theorem cx_RL_114 {M : ac_R} (h : M.1.cls = RL) : ac_cv M 114 248 2 5 11 ac_r248 := ⟨ce_248, by rw [h]; exact lk_RL_114, ci_248, cv_248, rfl, by decide, (RX11, TX11, 67), rfl, rfl, by decide⟩
theorem ce_161 : ac_ce 161 4 ac_r161 := ⟨mk_161, by decide +kernel, aa_bw 936 (by decide +kernel) rfl, aa_bw 73 (by decide +kernel) rfl, ⟨by decide +kernel, by decide +kernel⟩, by decide +kernel⟩
theorem ci_161 : Cond.instanceMethod (ac_r161).1 ∈ aa_BW := aa_bw 934 (by decide +kernel) rfl
theorem cv_161 : Cond.selects (ac_r161).1.cls (ac_r161).1 (ac_r161).1 ∈ aa_BW := aa_bw 935 (by decide +kernel) rfl
theorem lk_RL_115 : ac_lk RL 115 (ac_r161).1 := Or.inl (aa_bw 933 (by decide +kernel) rfl)
theorem cx_RL_115 {M : ac_R} (h : M.1.cls = RL) : ac_cv M 115 161 4 5 10 ac_r161 := ⟨ce_161, by rw [h]; exact lk_RL_115, ci_161, cv_161, rfl, by decide, (RX10, TX10, 14), rfl, rfl, by decide⟩
theorem ce_249 : ac_ce 249 4 ac_r249 := ⟨mk_249, by decide +kernel, aa_bw 1684 (by decide +kernel) rfl, aa_bw 90 (by decide +kernel) rfl, ⟨by decide +kernel, by decide +kernel⟩, by decide +kernel⟩
theorem ci_249 : Cond.instanceMethod (ac_r249).1 ∈ aa_BW := aa_bw 1682 (by decide +kernel) rfl
theorem cv_249 : Cond.selects (ac_r249).1.cls (ac_r249).1 (ac_r249).1 ∈ aa_BW := aa_bw 1683 (by decide +kernel) rfl
theorem lk_RL_118 : ac_lk RL 118 (ac_r249).1 := Or.inl (aa_bw 1681 (by decide +kernel) rfl)
theorem cx_RL_118 {M : ac_R} (h : M.1.cls = RL) : ac_cv M 118 249 4 5 11 ac_r249 := ⟨ce_249, by rw [h]; exact lk_RL_118, ci_249, cv_249, rfl, by decide, (RX11, TX11, 67), rfl, rfl, by decide⟩
theorem ce_162 : ac_ce 162 1 ac_r162 := ⟨mk_162, by decide +kernel, aa_bw 947 (by decide +kernel) rfl, aa_bw 73 (by decide +kernel) rfl, ⟨by decide +kernel, by decide +kernel⟩, by decide +kernel⟩
theorem ci_162 : Cond.instanceMethod (ac_r162).1 ∈ aa_BW := aa_bw 945 (by decide +kernel) rfl
theorem cv_162 : Cond.selects (ac_r162).1.cls (ac_r162).1 (ac_r162).1 ∈ aa_BW := aa_bw 946 (by decide +kernel) rfl
theorem lk_RL_119 : ac_lk RL 119 (ac_r162).1 := Or.inl (aa_bw 944 (by decide +kernel) rfl)
theorem cx_RL_119 {M : ac_R} (h : M.1.cls = RL) : ac_cv M 119 162 1 2 10 ac_r162 := ⟨ce_162, by rw [h]; exact lk_RL_119, ci_162, cv_162, rfl, by decide, (RX10, TX10, 14), rfl, rfl, by decide⟩
theorem ce_251 : ac_ce 251 1 ac_r251 := ⟨mk_251, by decide +kernel, aa_bw 1689 (by decide +kernel) rfl, aa_bw 90 (by decide +kernel) rfl, ⟨by decide +kernel, by decide +kernel⟩, by decide +kernel⟩
theorem ci_251 : Cond.instanceMethod (ac_r251).1 ∈ aa_BW := aa_bw 1687 (by decide +kernel) rfl
theorem cv_251 : Cond.selects (ac_r251).1.cls (ac_r251).1 (ac_r251).1 ∈ aa_BW := aa_bw 1688 (by decide +kernel) rfl
theorem lk_RL_122 : ac_lk RL 122 (ac_r251).1 := Or.inl (aa_bw 1686 (by decide +kernel) rfl)
theorem cx_RL_122 {M : ac_R} (h : M.1.cls = RL) : ac_cv M 122 251 1 4 11 ac_r251 := ⟨ce_251, by rw [h]; exact lk_RL_122, ci_251, cv_251, rfl, by decide, (RX11, TX11, 67), rfl, rfl, by decide⟩
theorem ce_163 : ac_ce 163 3 ac_r163 := ⟨mk_163, by decide +kernel, aa_bw 951 (by decide +kernel) rfl, aa_bw 73 (by decide +kernel) rfl, ⟨by decide +kernel, by decide +kernel⟩, by decide +kernel⟩
theorem ci_163 : Cond.instanceMethod (ac_r163).1 ∈ aa_BW := aa_bw 949 (by decide +kernel) rfl
theorem cv_163 : Cond.selects (ac_r163).1.cls (ac_r163).1 (ac_r163).1 ∈ aa_BW := aa_bw 950 (by decide +kernel) rfl
theorem lk_RL_123 : ac_lk RL 123 (ac_r163).1 := Or.inl (aa_bw 948 (by decide +kernel) rfl)
theorem cx_RL_123 {M : ac_R} (h : M.1.cls = RL) : ac_cv M 123 163 3 5 10 ac_r163 := ⟨ce_163, by rw [h]; exact lk_RL_123, ci_163, cv_163, rfl, by decide, (RX10, TX10, 14), rfl, rfl, by decide⟩
theorem ce_252 : ac_ce 252 3 ac_r252 := ⟨mk_252, by decide +kernel, aa_bw 1693 (by decide +kernel) rfl, aa_bw 90 (by decide +kernel) rfl, ⟨by decide +kernel, by decide +kernel⟩, by decide +kernel⟩
theorem ci_252 : Cond.instanceMethod (ac_r252).1 ∈ aa_BW := aa_bw 1691 (by decide +kernel) rfl
theorem cv_252 : Cond.selects (ac_r252).1.cls (ac_r252).1 (ac_r252).1 ∈ aa_BW := aa_bw 1692 (by decide +kernel) rfl
theorem lk_RL_127 : ac_lk RL 127 (ac_r252).1 := Or.inl (aa_bw 1690 (by decide +kernel) rfl)
theorem cx_RL_127 {M : ac_R} (h : M.1.cls = RL) : ac_cv M 127 252 3 7 11 ac_r252 := ⟨ce_252, by rw [h]; exact lk_RL_127, ci_252, cv_252, rfl, by decide, (RX11, TX11, 67), rfl, rfl, by decide⟩
theorem ce_164 : ac_ce 164 1 ac_r164 := ⟨mk_164, by decide +kernel, aa_bw 955 (by decide +kernel) rfl, aa_bw 73 (by decide +kernel) rfl, ⟨by decide +kernel, by decide +kernel⟩, by decide +kernel⟩
theorem ci_164 : Cond.instanceMethod (ac_r164).1 ∈ aa_BW := aa_bw 953 (by decide +kernel) rfl
theorem cv_164 : Cond.selects (ac_r164).1.cls (ac_r164).1 (ac_r164).1 ∈ aa_BW := aa_bw 954 (by decide +kernel) rfl
theorem lk_RL_128 : ac_lk RL 128 (ac_r164).1 := Or.inl (aa_bw 952 (by decide +kernel) rfl)
theorem cx_RL_128 {M : ac_R} (h : M.1.cls = RL) : ac_cv M 128 164 1 2 10 ac_r164 := ⟨ce_164, by rw [h]; exact lk_RL_128, ci_164, cv_164, rfl, by decide, (RX10, TX10, 14), rfl, rfl, by decide⟩
theorem ce_255 : ac_ce 255 1 ac_r255 := ⟨mk_255, by decide +kernel, aa_bw 1697 (by decide +kernel) rfl, aa_bw 90 (by decide +kernel) rfl, ⟨by decide +kernel, by decide +kernel⟩, by decide +kernel⟩
theorem ci_255 : Cond.instanceMethod (ac_r255).1 ∈ aa_BW := aa_bw 1695 (by decide +kernel) rfl
theorem cv_255 : Cond.selects (ac_r255).1.cls (ac_r255).1 (ac_r255).1 ∈ aa_BW := aa_bw 1696 (by decide +kernel) rfl
theorem lk_RL_131 : ac_lk RL 131 (ac_r255).1 := Or.inl (aa_bw 1694 (by decide +kernel) rfl)
theorem cx_RL_131 {M : ac_R} (h : M.1.cls = RL) : ac_cv M 131 255 1 2 11 ac_r255 := ⟨ce_255, by rw [h]; exact lk_RL_131, ci_255, cv_255, rfl, by decide, (RX11, TX11, 67), rfl, rfl, by decide⟩
theorem ce_165 : ac_ce 165 2 ac_r165 := ⟨mk_165, by decide +kernel, aa_bw 967 (by decide +kernel) rfl, aa_bw 73 (by decide +kernel) rfl, ⟨by decide +kernel, by decide +kernel⟩, by decide +kernel⟩
theorem ci_165 : Cond.instanceMethod (ac_r165).1 ∈ aa_BW := aa_bw 965 (by decide +kernel) rfl
theorem cv_165 : Cond.selects (ac_r165).1.cls (ac_r165).1 (ac_r165).1 ∈ aa_BW := aa_bw 966 (by decide +kernel) rfl
theorem lk_RL_132 : ac_lk RL 132 (ac_r165).1 := Or.inl (aa_bw 964 (by decide +kernel) rfl)
theorem cx_RL_132 {M : ac_R} (h : M.1.cls = RL) : ac_cv M 132 165 2 3 10 ac_r165 := ⟨ce_165, by rw [h]; exact lk_RL_132, ci_165, cv_165, rfl, by decide, (RX10, TX10, 14), rfl, rfl, by decide⟩
theorem ce_256 : ac_ce 256 2 ac_r256 := ⟨mk_256, by decide +kernel, aa_bw 1705 (by decide +kernel) rfl, aa_bw 90 (by decide +kernel) rfl, ⟨by decide +kernel, by decide +kernel⟩, by decide +kernel⟩
theorem ci_256 : Cond.instanceMethod (ac_r256).1 ∈ aa_BW := aa_bw 1703 (by decide +kernel) rfl
theorem cv_256 : Cond.selects (ac_r256).1.cls (ac_r256).1 (ac_r256).1 ∈ aa_BW := aa_bw 1704 (by decide +kernel) rfl
theorem lk_RL_135 : ac_lk RL 135 (ac_r256).1 := Or.inl (aa_bw 1702 (by decide +kernel) rfl)
theorem cx_RL_135 {M : ac_R} (h : M.1.cls = RL) : ac_cv M 135 256 2 3 11 ac_r256 := ⟨ce_256, by rw [h]; exact lk_RL_135, ci_256, cv_256, rfl, by decide, (RX11, TX11, 67), rfl, rfl, by decide⟩
theorem ce_166 : ac_ce 166 3 ac_r166 := ⟨mk_166, by decide +kernel, aa_bw 971 (by decide +kernel) rfl, aa_bw 73 (by decide +kernel) rfl, ⟨by decide +kernel, by decide +kernel⟩, by decide +kernel⟩
theorem ci_166 : Cond.instanceMethod (ac_r166).1 ∈ aa_BW := aa_bw 969 (by decide +kernel) rfl
theorem cv_166 : Cond.selects (ac_r166).1.cls (ac_r166).1 (ac_r166).1 ∈ aa_BW := aa_bw 970 (by decide +kernel) rfl
theorem lk_RL_136 : ac_lk RL 136 (ac_r166).1 := Or.inl (aa_bw 968 (by decide +kernel) rfl)
theorem cx_RL_136 {M : ac_R} (h : M.1.cls = RL) : ac_cv M 136 166 3 4 10 ac_r166 := ⟨ce_166, by rw [h]; exact lk_RL_136, ci_166, cv_166, rfl, by decide, (RX10, TX10, 14), rfl, rfl, by decide⟩
theorem ce_257 : ac_ce 257 3 ac_r257 := ⟨mk_257, by decide +kernel, aa_bw 1709 (by decide +kernel) rfl, aa_bw 90 (by decide +kernel) rfl, ⟨by decide +kernel, by decide +kernel⟩, by decide +kernel⟩
theorem ci_257 : Cond.instanceMethod (ac_r257).1 ∈ aa_BW := aa_bw 1707 (by decide +kernel) rfl
theorem cv_257 : Cond.selects (ac_r257).1.cls (ac_r257).1 (ac_r257).1 ∈ aa_BW := aa_bw 1708 (by decide +kernel) rfl
theorem lk_RL_139 : ac_lk RL 139 (ac_r257).1 := Or.inl (aa_bw 1706 (by decide +kernel) rfl)
theorem cx_RL_139 {M : ac_R} (h : M.1.cls = RL) : ac_cv M 139 257 3 6 11 ac_r257 := ⟨ce_257, by rw [h]; exact lk_RL_139, ci_257, cv_257, rfl, by decide, (RX11, TX11, 67), rfl, rfl, by decide⟩
theorem ce_167 : ac_ce 167 2 ac_r167 := ⟨mk_167, by decide +kernel, aa_bw 979 (by decide +kernel) rfl, aa_bw 73 (by decide +kernel) rfl, ⟨by decide +kernel, by decide +kernel⟩, by decide +kernel⟩
theorem ci_167 : Cond.instanceMethod (ac_r167).1 ∈ aa_BW := aa_bw 977 (by decide +kernel) rfl
theorem cv_167 : Cond.selects (ac_r167).1.cls (ac_r167).1 (ac_r167).1 ∈ aa_BW := aa_bw 978 (by decide +kernel) rfl
theorem lk_RL_140 : ac_lk RL 140 (ac_r167).1 := Or.inl (aa_bw 976 (by decide +kernel) rfl)
theorem cx_RL_140 {M : ac_R} (h : M.1.cls = RL) : ac_cv M 140 167 2 3 10 ac_r167 := ⟨ce_167, by rw [h]; exact lk_RL_140, ci_167, cv_167, rfl, by decide, (RX10, TX10, 14), rfl, rfl, by decide⟩
theorem ce_258 : ac_ce 258 2 ac_r258 := ⟨mk_258, by decide +kernel, aa_bw 1713 (by decide +kernel) rfl, aa_bw 90 (by decide +kernel) rfl, ⟨by decide +kernel, by decide +kernel⟩, by decide +kernel⟩
theorem ci_258 : Cond.instanceMethod (ac_r258).1 ∈ aa_BW := aa_bw 1711 (by decide +kernel) rfl
theorem cv_258 : Cond.selects (ac_r258).1.cls (ac_r258).1 (ac_r258).1 ∈ aa_BW := aa_bw 1712 (by decide +kernel) rfl
theorem lk_RL_143 : ac_lk RL 143 (ac_r258).1 := Or.inl (aa_bw 1710 (by decide +kernel) rfl)
theorem cx_RL_143 {M : ac_R} (h : M.1.cls = RL) : ac_cv M 143 258 2 4 11 ac_r258 := ⟨ce_258, by rw [h]; exact lk_RL_143, ci_258, cv_258, rfl, by decide, (RX11, TX11, 67), rfl, rfl, by decide⟩
theorem ce_168 : ac_ce 168 2 ac_r168 := ⟨mk_168, by decide +kernel, aa_bw 987 (by decide +kernel) rfl, aa_bw 73 (by decide +kernel) rfl, ⟨by decide +kernel, by decide +kernel⟩, by decide +kernel⟩
theorem ci_168 : Cond.instanceMethod (ac_r168).1 ∈ aa_BW := aa_bw 985 (by decide +kernel) rfl
theorem cv_168 : Cond.selects (ac_r168).1.cls (ac_r168).1 (ac_r168).1 ∈ aa_BW := aa_bw 986 (by decide +kernel) rfl
theorem lk_RL_144 : ac_lk RL 144 (ac_r168).1 := Or.inl (aa_bw 984 (by decide +kernel) rfl)
theorem cx_RL_144 {M : ac_R} (h : M.1.cls = RL) : ac_cv M 144 168 2 3 10 ac_r168 := ⟨ce_168, by rw [h]; exact lk_RL_144, ci_168, cv_168, rfl, by decide, (RX10, TX10, 14), rfl, rfl, by decide⟩
theorem ce_260 : ac_ce 260 2 ac_r260 := ⟨mk_260, by decide +kernel, aa_bw 1718 (by decide +kernel) rfl, aa_bw 90 (by decide +kernel) rfl, ⟨by decide +kernel, by decide +kernel⟩, by decide +kernel⟩
theorem ci_260 : Cond.instanceMethod (ac_r260).1 ∈ aa_BW := aa_bw 1716 (by decide +kernel) rfl
theorem cv_260 : Cond.selects (ac_r260).1.cls (ac_r260).1 (ac_r260).1 ∈ aa_BW := aa_bw 1717 (by decide +kernel) rfl
theorem lk_RL_147 : ac_lk RL 147 (ac_r260).1 := Or.inl (aa_bw 1715 (by decide +kernel) rfl)
theorem cx_RL_147 {M : ac_R} (h : M.1.cls = RL) : ac_cv M 147 260 2 3 11 ac_r260 := ⟨ce_260, by rw [h]; exact lk_RL_147, ci_260, cv_260, rfl, by decide, (RX11, TX11, 67), rfl, rfl, by decide⟩
theorem ce_169 : ac_ce 169 0 ac_r169 := ⟨mk_169, by decide +kernel, aa_bw 995 (by decide +kernel) rfl, aa_bw 73 (by decide +kernel) rfl, ⟨by decide +kernel, by decide +kernel⟩, by decide +kernel⟩
theorem ci_169 : Cond.instanceMethod (ac_r169).1 ∈ aa_BW := aa_bw 993 (by decide +kernel) rfl
theorem cv_169 : Cond.selects (ac_r169).1.cls (ac_r169).1 (ac_r169).1 ∈ aa_BW := aa_bw 994 (by decide +kernel) rfl
theorem lk_RL_148 : ac_lk RL 148 (ac_r169).1 := Or.inl (aa_bw 992 (by decide +kernel) rfl)
theorem cx_RL_148 {M : ac_R} (h : M.1.cls = RL) : ac_cv M 148 169 0 1 10 ac_r169 := ⟨ce_169, by rw [h]; exact lk_RL_148, ci_169, cv_169, rfl, by decide, (RX10, TX10, 14), rfl, rfl, by decide⟩
theorem ce_263 : ac_ce 263 0 ac_r263 := ⟨mk_263, by decide +kernel, aa_bw 1726 (by decide +kernel) rfl, aa_bw 90 (by decide +kernel) rfl, ⟨by decide +kernel, by decide +kernel⟩, by decide +kernel⟩
theorem ci_263 : Cond.instanceMethod (ac_r263).1 ∈ aa_BW := aa_bw 1724 (by decide +kernel) rfl
theorem cv_263 : Cond.selects (ac_r263).1.cls (ac_r263).1 (ac_r263).1 ∈ aa_BW := aa_bw 1725 (by decide +kernel) rfl
theorem lk_RL_151 : ac_lk RL 151 (ac_r263).1 := Or.inl (aa_bw 1723 (by decide +kernel) rfl)
theorem cx_RL_151 {M : ac_R} (h : M.1.cls = RL) : ac_cv M 151 263 0 3 11 ac_r263 := ⟨ce_263, by rw [h]; exact lk_RL_151, ci_263, cv_263, rfl, by decide, (RX11, TX11, 67), rfl, rfl, by decide⟩
theorem ce_170 : ac_ce 170 4 ac_r170 := ⟨mk_170, by decide +kernel, aa_bw 1013 (by decide +kernel) rfl, aa_bw 73 (by decide +kernel) rfl, ⟨by decide +kernel, by decide +kernel⟩, by decide +kernel⟩
theorem ci_170 : Cond.instanceMethod (ac_r170).1 ∈ aa_BW := aa_bw 1011 (by decide +kernel) rfl
theorem cv_170 : Cond.selects (ac_r170).1.cls (ac_r170).1 (ac_r170).1 ∈ aa_BW := aa_bw 1012 (by decide +kernel) rfl
theorem lk_RL_152 : ac_lk RL 152 (ac_r170).1 := Or.inl (aa_bw 1010 (by decide +kernel) rfl)
theorem cx_RL_152 {M : ac_R} (h : M.1.cls = RL) : ac_cv M 152 170 4 9 10 ac_r170 := ⟨ce_170, by rw [h]; exact lk_RL_152, ci_170, cv_170, rfl, by decide, (RX10, TX10, 14), rfl, rfl, by decide⟩
theorem ce_264 : ac_ce 264 4 ac_r264 := ⟨mk_264, by decide +kernel, aa_bw 1737 (by decide +kernel) rfl, aa_bw 90 (by decide +kernel) rfl, ⟨by decide +kernel, by decide +kernel⟩, by decide +kernel⟩
theorem ci_264 : Cond.instanceMethod (ac_r264).1 ∈ aa_BW := aa_bw 1735 (by decide +kernel) rfl
theorem cv_264 : Cond.selects (ac_r264).1.cls (ac_r264).1 (ac_r264).1 ∈ aa_BW := aa_bw 1736 (by decide +kernel) rfl
theorem lk_RL_155 : ac_lk RL 155 (ac_r264).1 := Or.inl (aa_bw 1734 (by decide +kernel) rfl)
theorem cx_RL_155 {M : ac_R} (h : M.1.cls = RL) : ac_cv M 155 264 4 10 11 ac_r264 := ⟨ce_264, by rw [h]; exact lk_RL_155, ci_264, cv_264, rfl, by decide, (RX11, TX11, 67), rfl, rfl, by decide⟩
theorem ce_171 : ac_ce 171 2 ac_r171 := ⟨mk_171, by decide +kernel, aa_bw 1031 (by decide +kernel) rfl, aa_bw 73 (by decide +kernel) rfl, ⟨by decide +kernel, by decide +kernel⟩, by decide +kernel⟩
theorem ci_171 : Cond.instanceMethod (ac_r171).1 ∈ aa_BW := aa_bw 1029 (by decide +kernel) rfl
theorem cv_171 : Cond.selects (ac_r171).1.cls (ac_r171).1 (ac_r171).1 ∈ aa_BW := aa_bw 1030 (by decide +kernel) rfl
theorem lk_RL_156 : ac_lk RL 156 (ac_r171).1 := Or.inl (aa_bw 1028 (by decide +kernel) rfl)
theorem cx_RL_156 {M : ac_R} (h : M.1.cls = RL) : ac_cv M 156 171 2 3 10 ac_r171 := ⟨ce_171, by rw [h]; exact lk_RL_156, ci_171, cv_171, rfl, by decide, (RX10, TX10, 14), rfl, rfl, by decide⟩
theorem ce_266 : ac_ce 266 2 ac_r266 := ⟨mk_266, by decide +kernel, aa_bw 1745 (by decide +kernel) rfl, aa_bw 90 (by decide +kernel) rfl, ⟨by decide +kernel, by decide +kernel⟩, by decide +kernel⟩
theorem ci_266 : Cond.instanceMethod (ac_r266).1 ∈ aa_BW := aa_bw 1743 (by decide +kernel) rfl
theorem cv_266 : Cond.selects (ac_r266).1.cls (ac_r266).1 (ac_r266).1 ∈ aa_BW := aa_bw 1744 (by decide +kernel) rfl
theorem lk_RL_159 : ac_lk RL 159 (ac_r266).1 := Or.inl (aa_bw 1742 (by decide +kernel) rfl)
theorem cx_RL_159 {M : ac_R} (h : M.1.cls = RL) : ac_cv M 159 266 2 3 11 ac_r266 := ⟨ce_266, by rw [h]; exact lk_RL_159, ci_266, cv_266, rfl, by decide, (RX11, TX11, 67), rfl, rfl, by decide⟩
theorem ce_172 : ac_ce 172 2 ac_r172 := ⟨mk_172, by decide +kernel, aa_bw 1039 (by decide +kernel) rfl, aa_bw 73 (by decide +kernel) rfl, ⟨by decide +kernel, by decide +kernel⟩, by decide +kernel⟩
theorem ci_172 : Cond.instanceMethod (ac_r172).1 ∈ aa_BW := aa_bw 1037 (by decide +kernel) rfl
theorem cv_172 : Cond.selects (ac_r172).1.cls (ac_r172).1 (ac_r172).1 ∈ aa_BW := aa_bw 1038 (by decide +kernel) rfl
theorem lk_RL_160 : ac_lk RL 160 (ac_r172).1 := Or.inl (aa_bw 1036 (by decide +kernel) rfl)
theorem cx_RL_160 {M : ac_R} (h : M.1.cls = RL) : ac_cv M 160 172 2 3 10 ac_r172 := ⟨ce_172, by rw [h]; exact lk_RL_160, ci_172, cv_172, rfl, by decide, (RX10, TX10, 14), rfl, rfl, by decide⟩
theorem ce_267 : ac_ce 267 2 ac_r267 := ⟨mk_267, by decide +kernel, aa_bw 1750 (by decide +kernel) rfl, aa_bw 90 (by decide +kernel) rfl, ⟨by decide +kernel, by decide +kernel⟩, by decide +kernel⟩
theorem ci_267 : Cond.instanceMethod (ac_r267).1 ∈ aa_BW := aa_bw 1748 (by decide +kernel) rfl
theorem cv_267 : Cond.selects (ac_r267).1.cls (ac_r267).1 (ac_r267).1 ∈ aa_BW := aa_bw 1749 (by decide +kernel) rfl
theorem lk_RL_163 : ac_lk RL 163 (ac_r267).1 := Or.inl (aa_bw 1747 (by decide +kernel) rfl)
theorem cx_RL_163 {M : ac_R} (h : M.1.cls = RL) : ac_cv M 163 267 2 4 11 ac_r267 := ⟨ce_267, by rw [h]; exact lk_RL_163, ci_267, cv_267, rfl, by decide, (RX11, TX11, 67), rfl, rfl, by decide⟩
theorem ce_173 : ac_ce 173 2 ac_r173 := ⟨mk_173, by decide +kernel, aa_bw 1052 (by decide +kernel) rfl, aa_bw 73 (by decide +kernel) rfl, ⟨by decide +kernel, by decide +kernel⟩, by decide +kernel⟩
theorem ci_173 : Cond.instanceMethod (ac_r173).1 ∈ aa_BW := aa_bw 1050 (by decide +kernel) rfl
theorem cv_173 : Cond.selects (ac_r173).1.cls (ac_r173).1 (ac_r173).1 ∈ aa_BW := aa_bw 1051 (by decide +kernel) rfl
theorem lk_RL_164 : ac_lk RL 164 (ac_r173).1 := Or.inl (aa_bw 1049 (by decide +kernel) rfl)
theorem cx_RL_164 {M : ac_R} (h : M.1.cls = RL) : ac_cv M 164 173 2 3 10 ac_r173 := ⟨ce_173, by rw [h]; exact lk_RL_164, ci_173, cv_173, rfl, by decide, (RX10, TX10, 14), rfl, rfl, by decide⟩
theorem ce_268 : ac_ce 268 2 ac_r268 := ⟨mk_268, by decide +kernel, aa_bw 1754 (by decide +kernel) rfl, aa_bw 90 (by decide +kernel) rfl, ⟨by decide +kernel, by decide +kernel⟩, by decide +kernel⟩
theorem ci_268 : Cond.instanceMethod (ac_r268).1 ∈ aa_BW := aa_bw 1752 (by decide +kernel) rfl
theorem cv_268 : Cond.selects (ac_r268).1.cls (ac_r268).1 (ac_r268).1 ∈ aa_BW := aa_bw 1753 (by decide +kernel) rfl
theorem lk_RL_167 : ac_lk RL 167 (ac_r268).1 := Or.inl (aa_bw 1751 (by decide +kernel) rfl)
theorem cx_RL_167 {M : ac_R} (h : M.1.cls = RL) : ac_cv M 167 268 2 11 11 ac_r268 := ⟨ce_268, by rw [h]; exact lk_RL_167, ci_268, cv_268, rfl, by decide, (RX11, TX11, 67), rfl, rfl, by decide⟩
theorem ce_174 : ac_ce 174 1 ac_r174 := ⟨mk_174, by decide +kernel, aa_bw 1073 (by decide +kernel) rfl, aa_bw 73 (by decide +kernel) rfl, ⟨by decide +kernel, by decide +kernel⟩, by decide +kernel⟩
theorem ci_174 : Cond.instanceMethod (ac_r174).1 ∈ aa_BW := aa_bw 1071 (by decide +kernel) rfl
theorem cv_174 : Cond.selects (ac_r174).1.cls (ac_r174).1 (ac_r174).1 ∈ aa_BW := aa_bw 1072 (by decide +kernel) rfl
theorem lk_RL_168 : ac_lk RL 168 (ac_r174).1 := Or.inl (aa_bw 1070 (by decide +kernel) rfl)
theorem cx_RL_168 {M : ac_R} (h : M.1.cls = RL) : ac_cv M 168 174 1 3 10 ac_r174 := ⟨ce_174, by rw [h]; exact lk_RL_168, ci_174, cv_174, rfl, by decide, (RX10, TX10, 14), rfl, rfl, by decide⟩
theorem ce_269 : ac_ce 269 1 ac_r269 := ⟨mk_269, by decide +kernel, aa_bw 1759 (by decide +kernel) rfl, aa_bw 90 (by decide +kernel) rfl, ⟨by decide +kernel, by decide +kernel⟩, by decide +kernel⟩
theorem ci_269 : Cond.instanceMethod (ac_r269).1 ∈ aa_BW := aa_bw 1757 (by decide +kernel) rfl
theorem cv_269 : Cond.selects (ac_r269).1.cls (ac_r269).1 (ac_r269).1 ∈ aa_BW := aa_bw 1758 (by decide +kernel) rfl
theorem lk_RL_172 : ac_lk RL 172 (ac_r269).1 := Or.inl (aa_bw 1756 (by decide +kernel) rfl)
theorem cx_RL_172 {M : ac_R} (h : M.1.cls = RL) : ac_cv M 172 269 1 6 11 ac_r269 := ⟨ce_269, by rw [h]; exact lk_RL_172, ci_269, cv_269, rfl, by decide, (RX11, TX11, 67), rfl, rfl, by decide⟩
theorem ce_175 : ac_ce 175 2 ac_r175 := ⟨mk_175, by decide +kernel, aa_bw 1086 (by decide +kernel) rfl, aa_bw 73 (by decide +kernel) rfl, ⟨by decide +kernel, by decide +kernel⟩, by decide +kernel⟩
theorem ci_175 : Cond.instanceMethod (ac_r175).1 ∈ aa_BW := aa_bw 1084 (by decide +kernel) rfl
theorem cv_175 : Cond.selects (ac_r175).1.cls (ac_r175).1 (ac_r175).1 ∈ aa_BW := aa_bw 1085 (by decide +kernel) rfl
theorem lk_RL_173 : ac_lk RL 173 (ac_r175).1 := Or.inl (aa_bw 1083 (by decide +kernel) rfl)
theorem cx_RL_173 {M : ac_R} (h : M.1.cls = RL) : ac_cv M 173 175 2 4 10 ac_r175 := ⟨ce_175, by rw [h]; exact lk_RL_173, ci_175, cv_175, rfl, by decide, (RX10, TX10, 14), rfl, rfl, by decide⟩
theorem ce_274 : ac_ce 274 2 ac_r274 := ⟨mk_274, by decide +kernel, aa_bw 1765 (by decide +kernel) rfl, aa_bw 90 (by decide +kernel) rfl, ⟨by decide +kernel, by decide +kernel⟩, by decide +kernel⟩
theorem ci_274 : Cond.instanceMethod (ac_r274).1 ∈ aa_BW := aa_bw 1763 (by decide +kernel) rfl
theorem cv_274 : Cond.selects (ac_r274).1.cls (ac_r274).1 (ac_r274).1 ∈ aa_BW := aa_bw 1764 (by decide +kernel) rfl
theorem lk_RL_176 : ac_lk RL 176 (ac_r274).1 := Or.inl (aa_bw 1762 (by decide +kernel) rfl)
theorem cx_RL_176 {M : ac_R} (h : M.1.cls = RL) : ac_cv M 176 274 2 3 11 ac_r274 := ⟨ce_274, by rw [h]; exact lk_RL_176, ci_274, cv_274, rfl, by decide, (RX11, TX11, 67), rfl, rfl, by decide⟩
theorem ce_176 : ac_ce 176 1 ac_r176 := ⟨mk_176, by decide +kernel, aa_bw 1115 (by decide +kernel) rfl, aa_bw 73 (by decide +kernel) rfl, ⟨by decide +kernel, by decide +kernel⟩, by decide +kernel⟩
theorem ci_176 : Cond.instanceMethod (ac_r176).1 ∈ aa_BW := aa_bw 1113 (by decide +kernel) rfl
theorem cv_176 : Cond.selects (ac_r176).1.cls (ac_r176).1 (ac_r176).1 ∈ aa_BW := aa_bw 1114 (by decide +kernel) rfl
theorem lk_RL_177 : ac_lk RL 177 (ac_r176).1 := Or.inl (aa_bw 1112 (by decide +kernel) rfl)
theorem cx_RL_177 {M : ac_R} (h : M.1.cls = RL) : ac_cv M 177 176 1 2 10 ac_r176 := ⟨ce_176, by rw [h]; exact lk_RL_177, ci_176, cv_176, rfl, by decide, (RX10, TX10, 14), rfl, rfl, by decide⟩
theorem ce_276 : ac_ce 276 1 ac_r276 := ⟨mk_276, by decide +kernel, aa_bw 1783 (by decide +kernel) rfl, aa_bw 90 (by decide +kernel) rfl, ⟨by decide +kernel, by decide +kernel⟩, by decide +kernel⟩
theorem ci_276 : Cond.instanceMethod (ac_r276).1 ∈ aa_BW := aa_bw 1781 (by decide +kernel) rfl
theorem cv_276 : Cond.selects (ac_r276).1.cls (ac_r276).1 (ac_r276).1 ∈ aa_BW := aa_bw 1782 (by decide +kernel) rfl
theorem lk_RL_180 : ac_lk RL 180 (ac_r276).1 := Or.inl (aa_bw 1780 (by decide +kernel) rfl)
theorem cx_RL_180 {M : ac_R} (h : M.1.cls = RL) : ac_cv M 180 276 1 2 11 ac_r276 := ⟨ce_276, by rw [h]; exact lk_RL_180, ci_276, cv_276, rfl, by decide, (RX11, TX11, 67), rfl, rfl, by decide⟩
theorem ce_177 : ac_ce 177 3 ac_r177 := ⟨mk_177, by decide +kernel, aa_bw 1151 (by decide +kernel) rfl, aa_bw 73 (by decide +kernel) rfl, ⟨by decide +kernel, by decide +kernel⟩, by decide +kernel⟩
theorem ci_177 : Cond.instanceMethod (ac_r177).1 ∈ aa_BW := aa_bw 1149 (by decide +kernel) rfl
theorem cv_177 : Cond.selects (ac_r177).1.cls (ac_r177).1 (ac_r177).1 ∈ aa_BW := aa_bw 1150 (by decide +kernel) rfl
theorem lk_RL_181 : ac_lk RL 181 (ac_r177).1 := Or.inl (aa_bw 1148 (by decide +kernel) rfl)
theorem cx_RL_181 {M : ac_R} (h : M.1.cls = RL) : ac_cv M 181 177 3 4 10 ac_r177 := ⟨ce_177, by rw [h]; exact lk_RL_181, ci_177, cv_177, rfl, by decide, (RX10, TX10, 14), rfl, rfl, by decide⟩
theorem ce_278 : ac_ce 278 3 ac_r278 := ⟨mk_278, by decide +kernel, aa_bw 1791 (by decide +kernel) rfl, aa_bw 90 (by decide +kernel) rfl, ⟨by decide +kernel, by decide +kernel⟩, by decide +kernel⟩
theorem ci_278 : Cond.instanceMethod (ac_r278).1 ∈ aa_BW := aa_bw 1789 (by decide +kernel) rfl
theorem cv_278 : Cond.selects (ac_r278).1.cls (ac_r278).1 (ac_r278).1 ∈ aa_BW := aa_bw 1790 (by decide +kernel) rfl
theorem lk_RL_184 : ac_lk RL 184 (ac_r278).1 := Or.inl (aa_bw 1788 (by decide +kernel) rfl)
theorem cx_RL_184 {M : ac_R} (h : M.1.cls = RL) : ac_cv M 184 278 3 5 11 ac_r278 := ⟨ce_278, by rw [h]; exact lk_RL_184, ci_278, cv_278, rfl, by decide, (RX11, TX11, 67), rfl, rfl, by decide⟩
theorem ce_178 : ac_ce 178 3 ac_r178 := ⟨mk_178, by decide +kernel, aa_bw 1170 (by decide +kernel) rfl, aa_bw 73 (by decide +kernel) rfl, ⟨by decide +kernel, by decide +kernel⟩, by decide +kernel⟩
theorem ci_178 : Cond.instanceMethod (ac_r178).1 ∈ aa_BW := aa_bw 1168 (by decide +kernel) rfl
theorem cv_178 : Cond.selects (ac_r178).1.cls (ac_r178).1 (ac_r178).1 ∈ aa_BW := aa_bw 1169 (by decide +kernel) rfl
theorem lk_RL_185 : ac_lk RL 185 (ac_r178).1 := Or.inl (aa_bw 1167 (by decide +kernel) rfl)
theorem cx_RL_185 {M : ac_R} (h : M.1.cls = RL) : ac_cv M 185 178 3 4 10 ac_r178 := ⟨ce_178, by rw [h]; exact lk_RL_185, ci_178, cv_178, rfl, by decide, (RX10, TX10, 14), rfl, rfl, by decide⟩
theorem ce_280 : ac_ce 280 3 ac_r280 := ⟨mk_280, by decide +kernel, aa_bw 1798 (by decide +kernel) rfl, aa_bw 90 (by decide +kernel) rfl, ⟨by decide +kernel, by decide +kernel⟩, by decide +kernel⟩
theorem ci_280 : Cond.instanceMethod (ac_r280).1 ∈ aa_BW := aa_bw 1796 (by decide +kernel) rfl
theorem cv_280 : Cond.selects (ac_r280).1.cls (ac_r280).1 (ac_r280).1 ∈ aa_BW := aa_bw 1797 (by decide +kernel) rfl
theorem lk_RL_188 : ac_lk RL 188 (ac_r280).1 := Or.inl (aa_bw 1795 (by decide +kernel) rfl)
theorem cx_RL_188 {M : ac_R} (h : M.1.cls = RL) : ac_cv M 188 280 3 4 11 ac_r280 := ⟨ce_280, by rw [h]; exact lk_RL_188, ci_280, cv_280, rfl, by decide, (RX11, TX11, 67), rfl, rfl, by decide⟩
theorem ce_179 : ac_ce 179 5 ac_r179 := ⟨mk_179, by decide +kernel, aa_bw 1186 (by decide +kernel) rfl, aa_bw 73 (by decide +kernel) rfl, ⟨by decide +kernel, by decide +kernel⟩, by decide +kernel⟩
theorem ci_179 : Cond.instanceMethod (ac_r179).1 ∈ aa_BW := aa_bw 1184 (by decide +kernel) rfl
theorem cv_179 : Cond.selects (ac_r179).1.cls (ac_r179).1 (ac_r179).1 ∈ aa_BW := aa_bw 1185 (by decide +kernel) rfl
theorem lk_RL_189 : ac_lk RL 189 (ac_r179).1 := Or.inl (aa_bw 1183 (by decide +kernel) rfl)
theorem cx_RL_189 {M : ac_R} (h : M.1.cls = RL) : ac_cv M 189 179 5 6 10 ac_r179 := ⟨ce_179, by rw [h]; exact lk_RL_189, ci_179, cv_179, rfl, by decide, (RX10, TX10, 14), rfl, rfl, by decide⟩
theorem ce_281 : ac_ce 281 5 ac_r281 := ⟨mk_281, by decide +kernel, aa_bw 1805 (by decide +kernel) rfl, aa_bw 90 (by decide +kernel) rfl, ⟨by decide +kernel, by decide +kernel⟩, by decide +kernel⟩
theorem ci_281 : Cond.instanceMethod (ac_r281).1 ∈ aa_BW := aa_bw 1803 (by decide +kernel) rfl
theorem cv_281 : Cond.selects (ac_r281).1.cls (ac_r281).1 (ac_r281).1 ∈ aa_BW := aa_bw 1804 (by decide +kernel) rfl
theorem lk_RL_193 : ac_lk RL 193 (ac_r281).1 := Or.inl (aa_bw 1802 (by decide +kernel) rfl)
theorem cx_RL_193 {M : ac_R} (h : M.1.cls = RL) : ac_cv M 193 281 5 7 11 ac_r281 := ⟨ce_281, by rw [h]; exact lk_RL_193, ci_281, cv_281, rfl, by decide, (RX11, TX11, 67), rfl, rfl, by decide⟩
theorem ce_180 : ac_ce 180 4 ac_r180 := ⟨mk_180, by decide +kernel, aa_bw 1205 (by decide +kernel) rfl, aa_bw 73 (by decide +kernel) rfl, ⟨by decide +kernel, by decide +kernel⟩, by decide +kernel⟩
theorem ci_180 : Cond.instanceMethod (ac_r180).1 ∈ aa_BW := aa_bw 1203 (by decide +kernel) rfl
theorem cv_180 : Cond.selects (ac_r180).1.cls (ac_r180).1 (ac_r180).1 ∈ aa_BW := aa_bw 1204 (by decide +kernel) rfl
theorem lk_RL_194 : ac_lk RL 194 (ac_r180).1 := Or.inl (aa_bw 1202 (by decide +kernel) rfl)
theorem cx_RL_194 {M : ac_R} (h : M.1.cls = RL) : ac_cv M 194 180 4 9 10 ac_r180 := ⟨ce_180, by rw [h]; exact lk_RL_194, ci_180, cv_180, rfl, by decide, (RX10, TX10, 14), rfl, rfl, by decide⟩
theorem ce_282 : ac_ce 282 4 ac_r282 := ⟨mk_282, by decide +kernel, aa_bw 1809 (by decide +kernel) rfl, aa_bw 90 (by decide +kernel) rfl, ⟨by decide +kernel, by decide +kernel⟩, by decide +kernel⟩
theorem ci_282 : Cond.instanceMethod (ac_r282).1 ∈ aa_BW := aa_bw 1807 (by decide +kernel) rfl
theorem cv_282 : Cond.selects (ac_r282).1.cls (ac_r282).1 (ac_r282).1 ∈ aa_BW := aa_bw 1808 (by decide +kernel) rfl
theorem lk_RL_197 : ac_lk RL 197 (ac_r282).1 := Or.inl (aa_bw 1806 (by decide +kernel) rfl)
theorem cx_RL_197 {M : ac_R} (h : M.1.cls = RL) : ac_cv M 197 282 4 10 11 ac_r282 := ⟨ce_282, by rw [h]; exact lk_RL_197, ci_282, cv_282, rfl, by decide, (RX11, TX11, 67), rfl, rfl, by decide⟩
theorem ce_181 : ac_ce 181 2 ac_r181 := ⟨mk_181, by decide +kernel, aa_bw 1213 (by decide +kernel) rfl, aa_bw 73 (by decide +kernel) rfl, ⟨by decide +kernel, by decide +kernel⟩, by decide +kernel⟩
theorem ci_181 : Cond.instanceMethod (ac_r181).1 ∈ aa_BW := aa_bw 1211 (by decide +kernel) rfl
theorem cv_181 : Cond.selects (ac_r181).1.cls (ac_r181).1 (ac_r181).1 ∈ aa_BW := aa_bw 1212 (by decide +kernel) rfl
theorem lk_RL_198 : ac_lk RL 198 (ac_r181).1 := Or.inl (aa_bw 1210 (by decide +kernel) rfl)
theorem cx_RL_198 {M : ac_R} (h : M.1.cls = RL) : ac_cv M 198 181 2 3 10 ac_r181 := ⟨ce_181, by rw [h]; exact lk_RL_198, ci_181, cv_181, rfl, by decide, (RX10, TX10, 14), rfl, rfl, by decide⟩
theorem ce_284 : ac_ce 284 2 ac_r284 := ⟨mk_284, by decide +kernel, aa_bw 1813 (by decide +kernel) rfl, aa_bw 90 (by decide +kernel) rfl, ⟨by decide +kernel, by decide +kernel⟩, by decide +kernel⟩
theorem ci_284 : Cond.instanceMethod (ac_r284).1 ∈ aa_BW := aa_bw 1811 (by decide +kernel) rfl
theorem cv_284 : Cond.selects (ac_r284).1.cls (ac_r284).1 (ac_r284).1 ∈ aa_BW := aa_bw 1812 (by decide +kernel) rfl
theorem lk_RL_201 : ac_lk RL 201 (ac_r284).1 := Or.inl (aa_bw 1810 (by decide +kernel) rfl)
theorem cx_RL_201 {M : ac_R} (h : M.1.cls = RL) : ac_cv M 201 284 2 4 11 ac_r284 := ⟨ce_284, by rw [h]; exact lk_RL_201, ci_284, cv_284, rfl, by decide, (RX11, TX11, 67), rfl, rfl, by decide⟩
