/-! WORDS: the tables' words in use, by their places -/
theorem bw_on {L : List Cond} (hL : ∀ w ∈ L, w ∈ lw_tbl) {w : Cond} {i : Nat} (h : L[i]? = some w) (hg : goodWord w = true) : w ∈ BW := List.mem_filter.mpr ⟨hL w (List.mem_of_getElem? h), hg⟩
theorem tb_1 : ∀ w ∈ tables_1_1, w ∈ lw_tbl := fun w h => List.mem_append_right _ (show w ∈ tables_1 from List.mem_append_left _ h)
theorem tb_2 : ∀ w ∈ tables_1_2, w ∈ lw_tbl := fun w h => List.mem_append_right _ (show w ∈ tables_1 from List.mem_append_right _ (List.mem_append_left _ h))
theorem tb_3 : ∀ w ∈ tables_1_3, w ∈ lw_tbl := fun w h => List.mem_append_right _ (show w ∈ tables_1 from List.mem_append_right _ (List.mem_append_right _ (List.mem_append_left _ h)))
theorem tb_4 : ∀ w ∈ tables_1_4, w ∈ lw_tbl := fun w h => List.mem_append_right _ (show w ∈ tables_1 from List.mem_append_right _ (List.mem_append_right _ (List.mem_append_right _ (List.mem_append_left _ h))))
theorem tb_5 : ∀ w ∈ tables_1_5, w ∈ lw_tbl := fun w h => List.mem_append_right _ (show w ∈ tables_1 from List.mem_append_right _ (List.mem_append_right _ (List.mem_append_right _ (List.mem_append_right _ (List.mem_append_left _ h)))))
theorem tb_6 : ∀ w ∈ tables_1_6, w ∈ lw_tbl := fun w h => List.mem_append_right _ (show w ∈ tables_1 from List.mem_append_right _ (List.mem_append_right _ (List.mem_append_right _ (List.mem_append_right _ (List.mem_append_right _ (List.mem_append_left _ h))))))
theorem tb_7 : ∀ w ∈ tables_1_7, w ∈ lw_tbl := fun w h => List.mem_append_right _ (show w ∈ tables_1 from List.mem_append_right _ (List.mem_append_right _ (List.mem_append_right _ (List.mem_append_right _ (List.mem_append_right _ (List.mem_append_right _ (List.mem_append_left _ h)))))))
theorem tb_8 : ∀ w ∈ tables_1_8, w ∈ lw_tbl := fun w h => List.mem_append_right _ (show w ∈ tables_1 from List.mem_append_right _ (List.mem_append_right _ (List.mem_append_right _ (List.mem_append_right _ (List.mem_append_right _ (List.mem_append_right _ (List.mem_append_right _ (List.mem_append_left _ h))))))))
theorem tb_9 : ∀ w ∈ tables_1_9, w ∈ lw_tbl := fun w h => List.mem_append_right _ (show w ∈ tables_1 from List.mem_append_right _ (List.mem_append_right _ (List.mem_append_right _ (List.mem_append_right _ (List.mem_append_right _ (List.mem_append_right _ (List.mem_append_right _ (List.mem_append_right _ (h)))))))))
theorem bp_0 : Cond.selects RX11 yX11_denied yX11_denied ∈ BW := bw_of (i := 0) (by decide +kernel) (by decide +kernel)
theorem bp_1 : Cond.selects RX11 yX11_trayAt yX11_trayAt ∈ BW := bw_of (i := 1) (by decide +kernel) (by decide +kernel)
theorem bp_2 : Cond.selects RX11 yX11_done yX11_done ∈ BW := bw_of (i := 2) (by decide +kernel) (by decide +kernel)
theorem bp_3 : Cond.selects RX11 yX11_placeRefusal yX11_placeRefusal ∈ BW := bw_of (i := 3) (by decide +kernel) (by decide +kernel)
theorem bp_4 : Cond.selects RX8 yX8_cut yX8_cut ∈ BW := bw_of (i := 4) (by decide +kernel) (by decide +kernel)
theorem bp_5 : Cond.selects RX11 yX11_refused yX11_refused ∈ BW := bw_of (i := 5) (by decide +kernel) (by decide +kernel)
theorem bp_6 : Cond.selects RX7 yX7_byteAt yX7_byteAt ∈ BW := bw_of (i := 6) (by decide +kernel) (by decide +kernel)
theorem bp_7 : Cond.selects RX7 yX7_keywordOrName yX7_keywordOrName ∈ BW := bw_of (i := 7) (by decide +kernel) (by decide +kernel)
theorem bp_8 : Cond.selects RX4 yX4_beginPart yX4_beginPart ∈ BW := bw_of (i := 8) (by decide +kernel) (by decide +kernel)
theorem bp_9 : Cond.selects RX4 yX4_readPart yX4_readPart ∈ BW := bw_of (i := 9) (by decide +kernel) (by decide +kernel)
theorem bp_10 : Cond.selects RX4 yX4_takeNewName yX4_takeNewName ∈ BW := bw_of (i := 10) (by decide +kernel) (by decide +kernel)
theorem bp_11 : Cond.selects RX4 yX4_readSense yX4_readSense ∈ BW := bw_of (i := 11) (by decide +kernel) (by decide +kernel)
theorem bp_12 : Cond.selects RX4 yX4_take yX4_take ∈ BW := bw_of (i := 12) (by decide +kernel) (by decide +kernel)
theorem bp_13 : Cond.selects RX4 yX4_skip yX4_skip ∈ BW := bw_of (i := 13) (by decide +kernel) (by decide +kernel)
theorem bp_14 : Cond.selects RX4 yX4_guiltHere yX4_guiltHere ∈ BW := bw_of (i := 14) (by decide +kernel) (by decide +kernel)
theorem bp_15 : Cond.selects RX4 yX4_takeName yX4_takeName ∈ BW := bw_of (i := 15) (by decide +kernel) (by decide +kernel)
theorem bp_16 : Cond.selects RX4 yX4_readRule yX4_readRule ∈ BW := bw_of (i := 16) (by decide +kernel) (by decide +kernel)
theorem bp_17 : Cond.selects RX4 yX4_takeCompare yX4_takeCompare ∈ BW := bw_of (i := 17) (by decide +kernel) (by decide +kernel)
theorem bp_18 : Cond.selects RX4 yX4_takeNumber yX4_takeNumber ∈ BW := bw_of (i := 18) (by decide +kernel) (by decide +kernel)
theorem bp_19 : Cond.selects RX4 yX4_readPerson yX4_readPerson ∈ BW := bw_of (i := 19) (by decide +kernel) (by decide +kernel)
theorem bp_20 : Cond.selects RX4 yX4_readSmells yX4_readSmells ∈ BW := bw_of (i := 20) (by decide +kernel) (by decide +kernel)
theorem bp_21 : Cond.selects RX4 yX4_readReader yX4_readReader ∈ BW := bw_of (i := 21) (by decide +kernel) (by decide +kernel)
theorem bp_22 : Cond.selects RX4 yX4_readWord yX4_readWord ∈ BW := bw_of (i := 22) (by decide +kernel) (by decide +kernel)
theorem bp_23 : Cond.selects RX11 yX11_textRead yX11_textRead ∈ BW := bw_of (i := 23) (by decide +kernel) (by decide +kernel)
theorem bp_24 : Cond.selects RX11 yX11_given yX11_given ∈ BW := bw_of (i := 24) (by decide +kernel) (by decide +kernel)
theorem bp_25 : Cond.selects RX4 yX4_closeStep yX4_closeStep ∈ BW := bw_of (i := 25) (by decide +kernel) (by decide +kernel)
theorem bp_26 : Cond.selects RX4 yX4_beginStep yX4_beginStep ∈ BW := bw_of (i := 26) (by decide +kernel) (by decide +kernel)
theorem bp_27 : Cond.selects RX4 yX4_readStep yX4_readStep ∈ BW := bw_of (i := 27) (by decide +kernel) (by decide +kernel)
theorem bp_28 : Cond.selects RX4 yX4_keepFound yX4_keepFound ∈ BW := bw_of (i := 28) (by decide +kernel) (by decide +kernel)
theorem bp_29 : Cond.selects RX4 yX4_readTest yX4_readTest ∈ BW := bw_of (i := 29) (by decide +kernel) (by decide +kernel)
theorem bp_30 : Cond.selects RX11 yX11_readThrees yX11_readThrees ∈ BW := bw_of (i := 30) (by decide +kernel) (by decide +kernel)
theorem bp_31 : Cond.selects RX11 yX11_takeThree yX11_takeThree ∈ BW := bw_of (i := 31) (by decide +kernel) (by decide +kernel)
theorem bp_32 : Cond.selects RX11 yX11_ways yX11_ways ∈ BW := bw_of (i := 32) (by decide +kernel) (by decide +kernel)
theorem bp_33 : Cond.selects RX11 yX11_isOpen yX11_isOpen ∈ BW := bw_of (i := 33) (by decide +kernel) (by decide +kernel)
theorem bp_34 : Cond.selects RX11 yX11_tellFraction yX11_tellFraction ∈ BW := bw_of (i := 34) (by decide +kernel) (by decide +kernel)
theorem bp_35 : Cond.selects RX11 yX11_bestQuestion yX11_bestQuestion ∈ BW := bw_of (i := 35) (by decide +kernel) (by decide +kernel)
theorem bp_36 : Cond.selects RX11 yX11_leastPlan yX11_leastPlan ∈ BW := bw_of (i := 36) (by decide +kernel) (by decide +kernel)
theorem bp_37 : Cond.selects RX10 yX10_countSmells yX10_countSmells ∈ BW := bw_of (i := 37) (by decide +kernel) (by decide +kernel)
theorem bp_38 : Cond.selects RX0 yX0_weightOf yX0_weightOf ∈ BW := bw_of (i := 38) (by decide +kernel) (by decide +kernel)
theorem bp_39 : Cond.selects RX11 yX11_wordsToStrike yX11_wordsToStrike ∈ BW := bw_of (i := 39) (by decide +kernel) (by decide +kernel)
theorem bp_40 : Cond.selects RX3 yX3_mostFrom yX3_mostFrom ∈ BW := bw_of (i := 40) (by decide +kernel) (by decide +kernel)
theorem bp_41 : Cond.selects RX3 yX3_freeWith yX3_freeWith ∈ BW := bw_of (i := 41) (by decide +kernel) (by decide +kernel)
theorem bp_42 : Cond.selects RX3 yX3_firstOfBest yX3_firstOfBest ∈ BW := bw_of (i := 42) (by decide +kernel) (by decide +kernel)
theorem bp_43 : Cond.selects RX2 yX2_comesTo yX2_comesTo ∈ BW := bw_of (i := 43) (by decide +kernel) (by decide +kernel)
theorem bp_44 : Cond.selects RX2 yX2_does yX2_does ∈ BW := bw_of (i := 44) (by decide +kernel) (by decide +kernel)
theorem bp_45 : Cond.selects RX2 yX2_feedsAny yX2_feedsAny ∈ BW := bw_of (i := 45) (by decide +kernel) (by decide +kernel)
theorem bp_46 : Cond.selects RX2 yX2_draw yX2_draw ∈ BW := bw_of (i := 46) (by decide +kernel) (by decide +kernel)
theorem bp_47 : Cond.selects RX11 yX11_markAt yX11_markAt ∈ BW := bw_of (i := 47) (by decide +kernel) (by decide +kernel)
theorem bp_48 : Cond.selects RX12 yX12_plain yX12_plain ∈ BW := bw_of (i := 48) (by decide +kernel) (by decide +kernel)
theorem bp_49 : Cond.selects RX12 yX12_is yX12_is ∈ BW := bw_of (i := 49) (by decide +kernel) (by decide +kernel)
theorem bp_50 : Cond.selects RX12 yX12_wrongPlace yX12_wrongPlace ∈ BW := bw_of (i := 50) (by decide +kernel) (by decide +kernel)
theorem bp_51 : Cond.selects RX12 yX12_four yX12_four ∈ BW := bw_of (i := 51) (by decide +kernel) (by decide +kernel)
theorem bp_52 : Cond.selects RX12 yX12_begins yX12_begins ∈ BW := bw_of (i := 52) (by decide +kernel) (by decide +kernel)
theorem bp_53 : Cond.selects RX12 yX12_ahead yX12_ahead ∈ BW := bw_of (i := 53) (by decide +kernel) (by decide +kernel)
theorem bp_54 : Cond.selects RX12 yX12_byteAt yX12_byteAt ∈ BW := bw_of (i := 54) (by decide +kernel) (by decide +kernel)
theorem bp_55 : Cond.selects RX12 yX12_refuse yX12_refuse ∈ BW := bw_of (i := 55) (by decide +kernel) (by decide +kernel)
theorem bp_56 : Cond.selects RX12 yX12_courtPart yX12_courtPart ∈ BW := bw_of (i := 56) (by decide +kernel) (by decide +kernel)
theorem bp_57 : Cond.selects RX12 yX12_inWords yX12_inWords ∈ BW := bw_of (i := 57) (by decide +kernel) (by decide +kernel)
theorem bp_58 : Cond.selects RX12 yX12_fails yX12_fails ∈ BW := bw_of (i := 58) (by decide +kernel) (by decide +kernel)
theorem bp_59 : Cond.selects RX12 yX12_aSmell yX12_aSmell ∈ BW := bw_of (i := 59) (by decide +kernel) (by decide +kernel)
theorem bp_60 : Cond.selects RX12 yX12_newOne yX12_newOne ∈ BW := bw_of (i := 60) (by decide +kernel) (by decide +kernel)
theorem bp_61 : Cond.selects RX12 yX12_isFull yX12_isFull ∈ BW := bw_of (i := 61) (by decide +kernel) (by decide +kernel)
theorem bp_62 : Cond.selects RX12 yX12_isName yX12_isName ∈ BW := bw_of (i := 62) (by decide +kernel) (by decide +kernel)
theorem bp_63 : Cond.selects RX12 yX12_isTaken yX12_isTaken ∈ BW := bw_of (i := 63) (by decide +kernel) (by decide +kernel)
theorem bp_64 : Cond.selects RX12 yX12_findHere yX12_findHere ∈ BW := bw_of (i := 64) (by decide +kernel) (by decide +kernel)
theorem bp_65 : Cond.selects RX12 yX12_nameHere yX12_nameHere ∈ BW := bw_of (i := 65) (by decide +kernel) (by decide +kernel)
theorem bp_66 : Cond.selects RX12 yX12_aCue yX12_aCue ∈ BW := bw_of (i := 66) (by decide +kernel) (by decide +kernel)
theorem bp_67 : Cond.selects RX12 yX12_wantWord yX12_wantWord ∈ BW := bw_of (i := 67) (by decide +kernel) (by decide +kernel)
theorem bp_68 : Cond.selects RX12 yX12_aRule yX12_aRule ∈ BW := bw_of (i := 68) (by decide +kernel) (by decide +kernel)
theorem bp_69 : Cond.selects RX12 yX12_oldOne yX12_oldOne ∈ BW := bw_of (i := 69) (by decide +kernel) (by decide +kernel)
theorem bp_70 : Cond.selects RX12 yX12_against yX12_against ∈ BW := bw_of (i := 70) (by decide +kernel) (by decide +kernel)
theorem bp_71 : Cond.selects RX12 yX12_isThere yX12_isThere ∈ BW := bw_of (i := 71) (by decide +kernel) (by decide +kernel)
theorem bp_72 : Cond.selects RX12 yX12_isSign yX12_isSign ∈ BW := bw_of (i := 72) (by decide +kernel) (by decide +kernel)
theorem bp_73 : Cond.selects RX12 yX12_number yX12_number ∈ BW := bw_of (i := 73) (by decide +kernel) (by decide +kernel)
theorem bp_74 : Cond.selects RX12 yX12_aPerson yX12_aPerson ∈ BW := bw_of (i := 74) (by decide +kernel) (by decide +kernel)
theorem bp_75 : Cond.selects RX12 yX12_smellsTo yX12_smellsTo ∈ BW := bw_of (i := 75) (by decide +kernel) (by decide +kernel)
theorem bp_76 : Cond.selects RX12 yX12_aReader yX12_aReader ∈ BW := bw_of (i := 76) (by decide +kernel) (by decide +kernel)
theorem bp_77 : Cond.selects RX12 yX12_aWord yX12_aWord ∈ BW := bw_of (i := 77) (by decide +kernel) (by decide +kernel)
theorem bp_78 : Cond.selects RX12 yX12_wantSign yX12_wantSign ∈ BW := bw_of (i := 78) (by decide +kernel) (by decide +kernel)
theorem bp_79 : Cond.selects RX12 yX12_taken yX12_taken ∈ BW := bw_of (i := 79) (by decide +kernel) (by decide +kernel)
theorem bp_80 : Cond.selects RX12 yX12_gives yX12_gives ∈ BW := bw_of (i := 80) (by decide +kernel) (by decide +kernel)
theorem bp_81 : Cond.selects RX12 yX12_weekStep yX12_weekStep ∈ BW := bw_of (i := 81) (by decide +kernel) (by decide +kernel)
theorem bp_82 : Cond.selects RX12 yX12_weekOrder yX12_weekOrder ∈ BW := bw_of (i := 82) (by decide +kernel) (by decide +kernel)
theorem bp_83 : Cond.selects RX12 yX12_personTo yX12_personTo ∈ BW := bw_of (i := 83) (by decide +kernel) (by decide +kernel)
theorem bp_84 : Cond.selects RX12 yX12_smellTo yX12_smellTo ∈ BW := bw_of (i := 84) (by decide +kernel) (by decide +kernel)
theorem bp_85 : Cond.selects RX12 yX12_test yX12_test ∈ BW := bw_of (i := 85) (by decide +kernel) (by decide +kernel)
theorem bp_86 : Cond.selects RX12 yX12_allVotes yX12_allVotes ∈ BW := bw_of (i := 86) (by decide +kernel) (by decide +kernel)
theorem bp_87 : Cond.selects RX12 yX12_votesOf yX12_votesOf ∈ BW := bw_of (i := 87) (by decide +kernel) (by decide +kernel)
theorem bp_88 : Cond.selects RX12 yX12_peopleThat yX12_peopleThat ∈ BW := bw_of (i := 88) (by decide +kernel) (by decide +kernel)
theorem bp_89 : Cond.selects RX12 yX12_personOf yX12_personOf ∈ BW := bw_of (i := 89) (by decide +kernel) (by decide +kernel)
theorem bp_90 : Cond.selects RX12 yX12_isCue yX12_isCue ∈ BW := bw_of (i := 90) (by decide +kernel) (by decide +kernel)
theorem bp_91 : Cond.selects RX12 yX12_isRule yX12_isRule ∈ BW := bw_of (i := 91) (by decide +kernel) (by decide +kernel)
theorem bp_92 : Cond.selects RX12 yX12_ruleOf yX12_ruleOf ∈ BW := bw_of (i := 92) (by decide +kernel) (by decide +kernel)
theorem bp_93 : Cond.selects RX12 yX12_orNone yX12_orNone ∈ BW := bw_of (i := 93) (by decide +kernel) (by decide +kernel)
theorem bp_94 : Cond.selects RX12 yX12_isPerson yX12_isPerson ∈ BW := bw_of (i := 94) (by decide +kernel) (by decide +kernel)
theorem bp_95 : Cond.selects RX12 yX12_isReader yX12_isReader ∈ BW := bw_of (i := 95) (by decide +kernel) (by decide +kernel)
theorem bp_96 : Cond.selects RX12 yX12_slipOf yX12_slipOf ∈ BW := bw_of (i := 96) (by decide +kernel) (by decide +kernel)
theorem bp_97 : Cond.selects RX12 yX12_cueFor yX12_cueFor ∈ BW := bw_of (i := 97) (by decide +kernel) (by decide +kernel)
theorem bp_98 : Cond.selects RX12 yX12_ruleFor yX12_ruleFor ∈ BW := bw_of (i := 98) (by decide +kernel) (by decide +kernel)
theorem bp_99 : Cond.selects RX12 yX12_firstOf yX12_firstOf ∈ BW := bw_of (i := 99) (by decide +kernel) (by decide +kernel)
theorem bp_100 : Cond.selects RX12 yX12_doesBear yX12_doesBear ∈ BW := bw_of (i := 100) (by decide +kernel) (by decide +kernel)
theorem bp_101 : Cond.selects RX12 yX12_isIn yX12_isIn ∈ BW := bw_of (i := 101) (by decide +kernel) (by decide +kernel)
theorem bp_102 : Cond.selects RX12 yX12_sits yX12_sits ∈ BW := bw_of (i := 102) (by decide +kernel) (by decide +kernel)
theorem bp_103 : Cond.selects RX12 yX12_isTooMuch yX12_isTooMuch ∈ BW := bw_of (i := 103) (by decide +kernel) (by decide +kernel)
theorem bp_104 : Cond.selects RX12 yX12_terms yX12_terms ∈ BW := bw_of (i := 104) (by decide +kernel) (by decide +kernel)
theorem bp_105 : Cond.selects RX12 yX12_meals yX12_meals ∈ BW := bw_of (i := 105) (by decide +kernel) (by decide +kernel)
theorem bp_106 : Cond.selects RX12 yX12_isSmell yX12_isSmell ∈ BW := bw_of (i := 106) (by decide +kernel) (by decide +kernel)
theorem bp_107 : Cond.selects RX12 yX12_scents yX12_scents ∈ BW := bw_of (i := 107) (by decide +kernel) (by decide +kernel)
theorem bp_108 : Cond.selects RX12 yX12_nights yX12_nights ∈ BW := bw_of (i := 108) (by decide +kernel) (by decide +kernel)
theorem bp_109 : Cond.selects RX12 yX12_keeps yX12_keeps ∈ BW := bw_of (i := 109) (by decide +kernel) (by decide +kernel)
theorem bp_110 : Cond.selects RX12 yX12_restores yX12_restores ∈ BW := bw_of (i := 110) (by decide +kernel) (by decide +kernel)
theorem bp_111 : Cond.selects RX12 yX12_wrongSeen yX12_wrongSeen ∈ BW := bw_of (i := 111) (by decide +kernel) (by decide +kernel)
theorem bp_112 : Cond.selects RX12 yX12_laysFits yX12_laysFits ∈ BW := bw_of (i := 112) (by decide +kernel) (by decide +kernel)
theorem bp_113 : Cond.selects RX12 yX12_doesFit yX12_doesFit ∈ BW := bw_of (i := 113) (by decide +kernel) (by decide +kernel)
theorem bp_114 : Cond.selects RX12 yX12_wouldShow yX12_wouldShow ∈ BW := bw_of (i := 114) (by decide +kernel) (by decide +kernel)
theorem bp_115 : Cond.selects RX12 yX12_cueOf yX12_cueOf ∈ BW := bw_of (i := 115) (by decide +kernel) (by decide +kernel)
theorem bp_116 : Cond.selects RX12 yX12_guiltyIn yX12_guiltyIn ∈ BW := bw_of (i := 116) (by decide +kernel) (by decide +kernel)
theorem bp_117 : Cond.selects RX12 yX12_tellsBy yX12_tellsBy ∈ BW := bw_of (i := 117) (by decide +kernel) (by decide +kernel)
theorem bp_118 : Cond.selects RX12 yX12_mostAlike yX12_mostAlike ∈ BW := bw_of (i := 118) (by decide +kernel) (by decide +kernel)
theorem bp_119 : Cond.selects RX12 yX12_laysLeast yX12_laysLeast ∈ BW := bw_of (i := 119) (by decide +kernel) (by decide +kernel)
theorem bp_120 : Cond.selects RX12 yX12_laysWorlds yX12_laysWorlds ∈ BW := bw_of (i := 120) (by decide +kernel) (by decide +kernel)
theorem bp_121 : Cond.selects RX12 yX12_rightOf yX12_rightOf ∈ BW := bw_of (i := 121) (by decide +kernel) (by decide +kernel)
theorem bp_122 : Cond.selects RX12 yX12_clashing yX12_clashing ∈ BW := bw_of (i := 122) (by decide +kernel) (by decide +kernel)
theorem bp_123 : Cond.selects RX12 yX12_wordOf yX12_wordOf ∈ BW := bw_of (i := 123) (by decide +kernel) (by decide +kernel)
theorem bp_124 : Cond.selects RX12 yX12_senseFor yX12_senseFor ∈ BW := bw_of (i := 124) (by decide +kernel) (by decide +kernel)
theorem bp_125 : Cond.selects RX12 yX12_striking yX12_striking ∈ BW := bw_of (i := 125) (by decide +kernel) (by decide +kernel)
theorem bp_126 : Cond.selects RX12 yX12_areUnlike yX12_areUnlike ∈ BW := bw_of (i := 126) (by decide +kernel) (by decide +kernel)
theorem bp_127 : Cond.selects RX12 yX12_laysOrders yX12_laysOrders ∈ BW := bw_of (i := 127) (by decide +kernel) (by decide +kernel)
theorem bp_128 : Cond.selects RX12 yX12_playing yX12_playing ∈ BW := bw_of (i := 128) (by decide +kernel) (by decide +kernel)
theorem bp_129 : Cond.selects RX12 yX12_standing yX12_standing ∈ BW := bw_of (i := 129) (by decide +kernel) (by decide +kernel)
theorem bp_130 : Cond.selects RX12 yX12_deeds yX12_deeds ∈ BW := bw_of (i := 130) (by decide +kernel) (by decide +kernel)
theorem bp_131 : Cond.selects RX12 yX12_settles yX12_settles ∈ BW := bw_of (i := 131) (by decide +kernel) (by decide +kernel)
theorem bp_132 : Cond.selects RX12 yX12_doesDeed yX12_doesDeed ∈ BW := bw_of (i := 132) (by decide +kernel) (by decide +kernel)
theorem bp_133 : Cond.selects RX12 yX12_lives yX12_lives ∈ BW := bw_of (i := 133) (by decide +kernel) (by decide +kernel)
theorem bp_134 : Cond.selects RX12 yX12_does yX12_does ∈ BW := bw_of (i := 134) (by decide +kernel) (by decide +kernel)
theorem bp_135 : Cond.selects RX12 yX12_sitsBy yX12_sitsBy ∈ BW := bw_of (i := 135) (by decide +kernel) (by decide +kernel)
theorem bp_136 : Cond.selects RX12 yX12_termsBy yX12_termsBy ∈ BW := bw_of (i := 136) (by decide +kernel) (by decide +kernel)
theorem bp_137 : Cond.selects RX12 yX12_feedsAny yX12_feedsAny ∈ BW := bw_of (i := 137) (by decide +kernel) (by decide +kernel)
theorem bp_138 : Cond.selects RX12 yX12_draw yX12_draw ∈ BW := bw_of (i := 138) (by decide +kernel) (by decide +kernel)
theorem bp_139 : Cond.selects RX12 yX12_holds yX12_holds ∈ BW := bw_of (i := 139) (by decide +kernel) (by decide +kernel)
theorem bp_140 : Cond.selects RX12 yX12_behindEnds yX12_behindEnds ∈ BW := bw_of (i := 140) (by decide +kernel) (by decide +kernel)
theorem bp_141 : Cond.selects RX12 yX12_copies yX12_copies ∈ BW := bw_of (i := 141) (by decide +kernel) (by decide +kernel)
theorem bw_1 : Cond.initialized RX11 ∈ BW := bw_on tb_1 (i := 1) (by decide +kernel) (by decide +kernel)
theorem bw_2 : Cond.initialized RX0 ∈ BW := bw_on tb_1 (i := 2) (by decide +kernel) (by decide +kernel)
theorem bw_3 : Cond.initialized RX9 ∈ BW := bw_on tb_1 (i := 3) (by decide +kernel) (by decide +kernel)
theorem bw_4 : Cond.initialized RX6 ∈ BW := bw_on tb_1 (i := 4) (by decide +kernel) (by decide +kernel)
theorem bw_5 : Cond.initialized RX5 ∈ BW := bw_on tb_1 (i := 5) (by decide +kernel) (by decide +kernel)
theorem bw_6 : Cond.initialized RX8 ∈ BW := bw_on tb_1 (i := 6) (by decide +kernel) (by decide +kernel)
theorem bw_7 : Cond.initialized RX7 ∈ BW := bw_on tb_1 (i := 7) (by decide +kernel) (by decide +kernel)
theorem bw_8 : Cond.initialized RJ0 ∈ BW := bw_on tb_1 (i := 8) (by decide +kernel) (by decide +kernel)
theorem bw_9 : Cond.initialized RJ1 ∈ BW := bw_on tb_1 (i := 9) (by decide +kernel) (by decide +kernel)
theorem bw_10 : Cond.initialized RJ3 ∈ BW := bw_on tb_1 (i := 10) (by decide +kernel) (by decide +kernel)
theorem bw_12 : Cond.initialized RX4 ∈ BW := bw_on tb_1 (i := 12) (by decide +kernel) (by decide +kernel)
theorem bw_13 : Cond.initialized RX10 ∈ BW := bw_on tb_1 (i := 13) (by decide +kernel) (by decide +kernel)
theorem bw_14 : Cond.initialized RX3 ∈ BW := bw_on tb_1 (i := 14) (by decide +kernel) (by decide +kernel)
theorem bw_15 : Cond.initialized RX1 ∈ BW := bw_on tb_1 (i := 15) (by decide +kernel) (by decide +kernel)
theorem bw_16 : Cond.initialized RX2 ∈ BW := bw_on tb_1 (i := 16) (by decide +kernel) (by decide +kernel)
theorem bw_17 : Cond.initialized RX12 ∈ BW := bw_on tb_1 (i := 17) (by decide +kernel) (by decide +kernel)
theorem bw_18 : Cond.initialized RJ9 ∈ BW := bw_on tb_1 (i := 18) (by decide +kernel) (by decide +kernel)
theorem bw_19 : Cond.initialized RJ6 ∈ BW := bw_on tb_1 (i := 19) (by decide +kernel) (by decide +kernel)
theorem bw_44 : Cond.fieldLink RX9 7 RX9 "known" "Z" ∈ BW := bw_on tb_1 (i := 44) (by decide +kernel) (by decide +kernel)
theorem bw_45 : Cond.fieldLink RX4 206 RX9 "known" "Z" ∈ BW := bw_on tb_1 (i := 45) (by decide +kernel) (by decide +kernel)
theorem bw_46 : Cond.fieldLink RX11 397 RX9 "known" "Z" ∈ BW := bw_on tb_1 (i := 46) (by decide +kernel) (by decide +kernel)
theorem bw_47 : Cond.fieldLink RX9 13 RX9 "count" "I" ∈ BW := bw_on tb_1 (i := 47) (by decide +kernel) (by decide +kernel)
theorem bw_48 : Cond.fieldLink RX4 191 RX9 "count" "I" ∈ BW := bw_on tb_1 (i := 48) (by decide +kernel) (by decide +kernel)
theorem bw_49 : Cond.fieldLink RX11 188 RX9 "count" "I" ∈ BW := bw_on tb_1 (i := 49) (by decide +kernel) (by decide +kernel)
theorem bw_50 : Cond.fieldLink RX9 17 RX9 "cells" "[I" ∈ BW := bw_on tb_1 (i := 50) (by decide +kernel) (by decide +kernel)
theorem bw_65 : Cond.fieldLink RX6 9 RX6 "cue" "I" ∈ BW := bw_on tb_1 (i := 65) (by decide +kernel) (by decide +kernel)
theorem bw_66 : Cond.fieldLink RX0 148 RX6 "cue" "I" ∈ BW := bw_on tb_1 (i := 66) (by decide +kernel) (by decide +kernel)
theorem bw_67 : Cond.fieldLink RX11 357 RX6 "cue" "I" ∈ BW := bw_on tb_1 (i := 67) (by decide +kernel) (by decide +kernel)
theorem bw_68 : Cond.fieldLink RX6 15 RX6 "guilt" "I" ∈ BW := bw_on tb_1 (i := 68) (by decide +kernel) (by decide +kernel)
theorem bw_69 : Cond.fieldLink RX4 112 RX6 "guilt" "I" ∈ BW := bw_on tb_1 (i := 69) (by decide +kernel) (by decide +kernel)
theorem bw_70 : Cond.fieldLink RX11 303 RX6 "guilt" "I" ∈ BW := bw_on tb_1 (i := 70) (by decide +kernel) (by decide +kernel)
theorem bw_71 : Cond.fieldLink RX6 18 RX6 "smell" "I" ∈ BW := bw_on tb_1 (i := 71) (by decide +kernel) (by decide +kernel)
theorem bw_72 : Cond.fieldLink RX10 40 RX6 "smell" "I" ∈ BW := bw_on tb_1 (i := 72) (by decide +kernel) (by decide +kernel)
theorem bw_73 : Cond.fieldLink RX4 139 RX6 "smell" "I" ∈ BW := bw_on tb_1 (i := 73) (by decide +kernel) (by decide +kernel)
theorem bw_74 : Cond.fieldLink RX11 304 RX6 "smell" "I" ∈ BW := bw_on tb_1 (i := 74) (by decide +kernel) (by decide +kernel)
theorem bw_75 : Cond.fieldLink RX6 21 RX6 "fedNumber" "I" ∈ BW := bw_on tb_1 (i := 75) (by decide +kernel) (by decide +kernel)
theorem bw_76 : Cond.fieldLink RX4 121 RX6 "fedNumber" "I" ∈ BW := bw_on tb_1 (i := 76) (by decide +kernel) (by decide +kernel)
theorem bw_77 : Cond.fieldLink RX6 24 RX6 "fedLow" "I" ∈ BW := bw_on tb_1 (i := 77) (by decide +kernel) (by decide +kernel)
theorem bw_78 : Cond.fieldLink RX4 124 RX6 "fedLow" "I" ∈ BW := bw_on tb_1 (i := 78) (by decide +kernel) (by decide +kernel)
theorem bw_79 : Cond.fieldLink RX6 27 RX6 "fedHigh" "I" ∈ BW := bw_on tb_1 (i := 79) (by decide +kernel) (by decide +kernel)
theorem bw_80 : Cond.fieldLink RX4 127 RX6 "fedHigh" "I" ∈ BW := bw_on tb_1 (i := 80) (by decide +kernel) (by decide +kernel)
theorem bw_81 : Cond.fieldLink RX6 30 RX6 "warmNumber" "I" ∈ BW := bw_on tb_1 (i := 81) (by decide +kernel) (by decide +kernel)
theorem bw_82 : Cond.fieldLink RX4 130 RX6 "warmNumber" "I" ∈ BW := bw_on tb_1 (i := 82) (by decide +kernel) (by decide +kernel)
theorem bw_83 : Cond.fieldLink RX6 33 RX6 "warmLow" "I" ∈ BW := bw_on tb_1 (i := 83) (by decide +kernel) (by decide +kernel)
theorem bw_84 : Cond.fieldLink RX4 133 RX6 "warmLow" "I" ∈ BW := bw_on tb_1 (i := 84) (by decide +kernel) (by decide +kernel)
theorem bw_85 : Cond.fieldLink RX6 36 RX6 "warmHigh" "I" ∈ BW := bw_on tb_1 (i := 85) (by decide +kernel) (by decide +kernel)
theorem bw_86 : Cond.fieldLink RX4 136 RX6 "warmHigh" "I" ∈ BW := bw_on tb_1 (i := 86) (by decide +kernel) (by decide +kernel)
theorem bw_111 : Cond.fieldLink RX5 9 RX5 "guilt" "I" ∈ BW := bw_on tb_1 (i := 111) (by decide +kernel) (by decide +kernel)
theorem bw_112 : Cond.fieldLink RX4 150 RX5 "guilt" "I" ∈ BW := bw_on tb_1 (i := 112) (by decide +kernel) (by decide +kernel)
theorem bw_113 : Cond.fieldLink RX0 121 RX5 "guilt" "I" ∈ BW := bw_on tb_1 (i := 113) (by decide +kernel) (by decide +kernel)
theorem bw_114 : Cond.fieldLink RX11 243 RX5 "guilt" "I" ∈ BW := bw_on tb_1 (i := 114) (by decide +kernel) (by decide +kernel)
theorem bw_115 : Cond.fieldLink RX5 15 RX5 "fed" "I" ∈ BW := bw_on tb_1 (i := 115) (by decide +kernel) (by decide +kernel)
theorem bw_116 : Cond.fieldLink RX1 57 RX5 "fed" "I" ∈ BW := bw_on tb_1 (i := 116) (by decide +kernel) (by decide +kernel)
theorem bw_117 : Cond.fieldLink RX4 155 RX5 "fed" "I" ∈ BW := bw_on tb_1 (i := 117) (by decide +kernel) (by decide +kernel)
theorem bw_118 : Cond.fieldLink RX0 124 RX5 "fed" "I" ∈ BW := bw_on tb_1 (i := 118) (by decide +kernel) (by decide +kernel)
theorem bw_119 : Cond.fieldLink RX11 232 RX5 "fed" "I" ∈ BW := bw_on tb_1 (i := 119) (by decide +kernel) (by decide +kernel)
theorem bw_120 : Cond.fieldLink RX5 18 RX5 "smells" "I" ∈ BW := bw_on tb_1 (i := 120) (by decide +kernel) (by decide +kernel)
theorem bw_121 : Cond.fieldLink RX1 62 RX5 "smells" "I" ∈ BW := bw_on tb_1 (i := 121) (by decide +kernel) (by decide +kernel)
theorem bw_122 : Cond.fieldLink RX4 170 RX5 "smells" "I" ∈ BW := bw_on tb_1 (i := 122) (by decide +kernel) (by decide +kernel)
theorem bw_123 : Cond.fieldLink RX11 237 RX5 "smells" "I" ∈ BW := bw_on tb_1 (i := 123) (by decide +kernel) (by decide +kernel)
theorem bw_124 : Cond.fieldLink RX0 151 RX5 "smells" "I" ∈ BW := bw_on tb_1 (i := 124) (by decide +kernel) (by decide +kernel)
theorem bw_125 : Cond.fieldLink RX5 21 RX5 "fate" "I" ∈ BW := bw_on tb_1 (i := 125) (by decide +kernel) (by decide +kernel)
theorem bw_126 : Cond.fieldLink RX2 81 RX5 "fate" "I" ∈ BW := bw_on tb_1 (i := 126) (by decide +kernel) (by decide +kernel)
theorem bw_127 : Cond.fieldLink RX0 118 RX5 "fate" "I" ∈ BW := bw_on tb_1 (i := 127) (by decide +kernel) (by decide +kernel)
theorem bw_128 : Cond.fieldLink RX11 240 RX5 "fate" "I" ∈ BW := bw_on tb_1 (i := 128) (by decide +kernel) (by decide +kernel)
theorem bw_129 : Cond.fieldLink RX5 24 RX5 "sittings" "I" ∈ BW := bw_on tb_1 (i := 129) (by decide +kernel) (by decide +kernel)
theorem bw_130 : Cond.fieldLink RX11 246 RX5 "sittings" "I" ∈ BW := bw_on tb_1 (i := 130) (by decide +kernel) (by decide +kernel)
theorem bw_131 : Cond.fieldLink RX0 178 RX5 "sittings" "I" ∈ BW := bw_on tb_1 (i := 131) (by decide +kernel) (by decide +kernel)
theorem bw_143 : Cond.fieldLink RX0 9 RX0 "counts" "[I" ∈ BW := bw_on tb_1 (i := 143) (by decide +kernel) (by decide +kernel)
theorem bw_144 : Cond.fieldLink RX0 15 RX0 "names" "[J" ∈ BW := bw_on tb_1 (i := 144) (by decide +kernel) (by decide +kernel)
theorem bw_145 : Cond.fieldLink RX0 19 RX0 "senses" "[I" ∈ BW := bw_on tb_1 (i := 145) (by decide +kernel) (by decide +kernel)
theorem bw_146 : Cond.fieldLink RX4 92 RX0 "senses" "[I" ∈ BW := bw_on tb_1 (i := 146) (by decide +kernel) (by decide +kernel)
theorem bw_147 : Cond.fieldLink RX11 288 RX0 "senses" "[I" ∈ BW := bw_on tb_1 (i := 147) (by decide +kernel) (by decide +kernel)
theorem bw_148 : Cond.fieldLink RX0 24 RX0 "rules" "[LCatWitness$Rule;" ∈ BW := bw_on tb_1 (i := 148) (by decide +kernel) (by decide +kernel)
theorem bw_149 : Cond.fieldLink RX0 30 RX0 "people" "[LCatWitness$Person;" ∈ BW := bw_on tb_1 (i := 149) (by decide +kernel) (by decide +kernel)
theorem bw_150 : Cond.fieldLink RX0 34 RX0 "slips" "[I" ∈ BW := bw_on tb_1 (i := 150) (by decide +kernel) (by decide +kernel)
theorem bw_151 : Cond.fieldLink RX4 176 RX0 "slips" "[I" ∈ BW := bw_on tb_1 (i := 151) (by decide +kernel) (by decide +kernel)
theorem bw_152 : Cond.fieldLink RX11 247 RX0 "slips" "[I" ∈ BW := bw_on tb_1 (i := 152) (by decide +kernel) (by decide +kernel)
theorem bw_153 : Cond.fieldLink RX0 37 RX0 "votes" "[I" ∈ BW := bw_on tb_1 (i := 153) (by decide +kernel) (by decide +kernel)
theorem bw_154 : Cond.fieldLink RX4 179 RX0 "votes" "[I" ∈ BW := bw_on tb_1 (i := 154) (by decide +kernel) (by decide +kernel)
theorem bw_155 : Cond.fieldLink RX11 251 RX0 "votes" "[I" ∈ BW := bw_on tb_1 (i := 155) (by decide +kernel) (by decide +kernel)
theorem bw_156 : Cond.fieldLink RX0 40 RX0 "wordPersons" "[I" ∈ BW := bw_on tb_1 (i := 156) (by decide +kernel) (by decide +kernel)
theorem bw_157 : Cond.fieldLink RX4 182 RX0 "wordPersons" "[I" ∈ BW := bw_on tb_1 (i := 157) (by decide +kernel) (by decide +kernel)
theorem bw_158 : Cond.fieldLink RX11 258 RX0 "wordPersons" "[I" ∈ BW := bw_on tb_1 (i := 158) (by decide +kernel) (by decide +kernel)
theorem bw_159 : Cond.fieldLink RX0 43 RX0 "wordGuilts" "[I" ∈ BW := bw_on tb_1 (i := 159) (by decide +kernel) (by decide +kernel)
theorem bw_160 : Cond.fieldLink RX4 185 RX0 "wordGuilts" "[I" ∈ BW := bw_on tb_1 (i := 160) (by decide +kernel) (by decide +kernel)
theorem bw_161 : Cond.fieldLink RX11 261 RX0 "wordGuilts" "[I" ∈ BW := bw_on tb_1 (i := 161) (by decide +kernel) (by decide +kernel)
theorem bw_162 : Cond.fieldLink RX0 49 RX0 "weeks" "LCatWitness$Weeks;" ∈ BW := bw_on tb_1 (i := 162) (by decide +kernel) (by decide +kernel)
theorem bw_163 : Cond.fieldLink RX2 43 RX0 "weeks" "LCatWitness$Weeks;" ∈ BW := bw_on tb_1 (i := 163) (by decide +kernel) (by decide +kernel)
theorem bw_164 : Cond.fieldLink RX11 174 RX0 "weeks" "LCatWitness$Weeks;" ∈ BW := bw_on tb_1 (i := 164) (by decide +kernel) (by decide +kernel)
theorem bw_165 : Cond.fieldLink RX0 54 RX0 "noRule" "LCatWitness$Rule;" ∈ BW := bw_on tb_1 (i := 165) (by decide +kernel) (by decide +kernel)
theorem bw_166 : Cond.fieldLink RX0 59 RX0 "nobody" "LCatWitness$Person;" ∈ BW := bw_on tb_1 (i := 166) (by decide +kernel) (by decide +kernel)
theorem bw_167 : Cond.fieldLink RX0 63 RX0 "warm" "I" ∈ BW := bw_on tb_1 (i := 167) (by decide +kernel) (by decide +kernel)
theorem bw_168 : Cond.fieldLink RX3 64 RX0 "warm" "I" ∈ BW := bw_on tb_1 (i := 168) (by decide +kernel) (by decide +kernel)
theorem bw_169 : Cond.fieldLink RX1 65 RX0 "warm" "I" ∈ BW := bw_on tb_1 (i := 169) (by decide +kernel) (by decide +kernel)
theorem bw_170 : Cond.fieldLink RX2 71 RX0 "warm" "I" ∈ BW := bw_on tb_1 (i := 170) (by decide +kernel) (by decide +kernel)
theorem bw_171 : Cond.fieldLink RX11 194 RX0 "warm" "I" ∈ BW := bw_on tb_1 (i := 171) (by decide +kernel) (by decide +kernel)
theorem bw_172 : Cond.fieldLink RX0 67 RX0 "sittings" "I" ∈ BW := bw_on tb_1 (i := 172) (by decide +kernel) (by decide +kernel)
theorem bw_173 : Cond.fieldLink RX11 197 RX0 "sittings" "I" ∈ BW := bw_on tb_1 (i := 173) (by decide +kernel) (by decide +kernel)
theorem bw_211 : Cond.fieldLink RX8 9 RX8 "sort" "I" ∈ BW := bw_on tb_1 (i := 211) (by decide +kernel) (by decide +kernel)
theorem bw_212 : Cond.fieldLink RX11 143 RX8 "sort" "I" ∈ BW := bw_on tb_1 (i := 212) (by decide +kernel) (by decide +kernel)
theorem bw_213 : Cond.fieldLink RX8 15 RX8 "many" "I" ∈ BW := bw_on tb_1 (i := 213) (by decide +kernel) (by decide +kernel)
theorem bw_214 : Cond.fieldLink RX8 18 RX8 "numbers" "[J" ∈ BW := bw_on tb_1 (i := 214) (by decide +kernel) (by decide +kernel)
theorem bw_230 : Cond.instanceMethod yJ0_length_8abf5 ∈ BW := bw_on tb_1 (i := 230) (by decide +kernel) (by decide +kernel)
theorem bw_231 : Cond.selects RJ0 yJ0_length_8abf5 yJ0_length_8abf5 ∈ BW := bw_on tb_1 (i := 231) (by decide +kernel) (by decide +kernel)
theorem bw_232 : Cond.code yJ0_length_8abf5 cJ0_length_8abf5 1 (some .int) ∈ BW := bw_on tb_1 (i := 232) (by decide +kernel) (by decide +kernel)
theorem bw_233 : Cond.methodLink RJ0 335 yJ0_coder_7d493 ∈ BW := bw_on tb_1 (i := 233) (by decide +kernel) (by decide +kernel)
theorem bw_234 : Cond.instanceMethod yJ0_coder_7d493 ∈ BW := bw_on tb_1 (i := 234) (by decide +kernel) (by decide +kernel)
theorem bw_235 : Cond.selects RJ0 yJ0_coder_7d493 yJ0_coder_7d493 ∈ BW := bw_on tb_1 (i := 235) (by decide +kernel) (by decide +kernel)
theorem bw_236 : Cond.code yJ0_coder_7d493 cJ0_coder_7d493 1 (some .byte) ∈ BW := bw_on tb_1 (i := 236) (by decide +kernel) (by decide +kernel)
theorem bw_237 : Cond.fieldLink RJ0 38 RJ0 "COMPACT_STRINGS" "Z" ∈ BW := bw_on tb_1 (i := 237) (by decide +kernel) (by decide +kernel)
theorem bw_240 : Cond.instanceMethod yJ0_charAt_5068e ∈ BW := bw_on tb_2 (i := 0) (by decide +kernel) (by decide +kernel)
theorem bw_241 : Cond.selects RJ0 yJ0_charAt_5068e yJ0_charAt_5068e ∈ BW := bw_on tb_2 (i := 1) (by decide +kernel) (by decide +kernel)
theorem bw_242 : Cond.code yJ0_charAt_5068e cJ0_charAt_5068e 2 (some .char) ∈ BW := bw_on tb_2 (i := 2) (by decide +kernel) (by decide +kernel)
theorem bw_243 : Cond.methodLink RJ0 492 yJ0_isLatin1_aae02 ∈ BW := bw_on tb_2 (i := 3) (by decide +kernel) (by decide +kernel)
theorem bw_244 : Cond.instanceMethod yJ0_isLatin1_aae02 ∈ BW := bw_on tb_2 (i := 4) (by decide +kernel) (by decide +kernel)
theorem bw_245 : Cond.selects RJ0 yJ0_isLatin1_aae02 yJ0_isLatin1_aae02 ∈ BW := bw_on tb_2 (i := 5) (by decide +kernel) (by decide +kernel)
theorem bw_246 : Cond.code yJ0_isLatin1_aae02 cJ0_isLatin1_aae02 1 (some .boolean) ∈ BW := bw_on tb_2 (i := 6) (by decide +kernel) (by decide +kernel)
theorem bw_247 : Cond.methodLink RJ0 495 yJ1_charAt_3b067 ∈ BW := bw_on tb_2 (i := 7) (by decide +kernel) (by decide +kernel)
theorem bw_248 : Cond.static yJ1_charAt_3b067 ∈ BW := bw_on tb_2 (i := 8) (by decide +kernel) (by decide +kernel)
theorem bw_249 : Cond.code yJ1_charAt_3b067 cJ1_charAt_3b067 2 (some .char) ∈ BW := bw_on tb_2 (i := 9) (by decide +kernel) (by decide +kernel)
theorem bw_250 : Cond.methodLink RJ1 9 yJ0_checkIndex_df160 ∈ BW := bw_on tb_2 (i := 10) (by decide +kernel) (by decide +kernel)
theorem bw_251 : Cond.static yJ0_checkIndex_df160 ∈ BW := bw_on tb_2 (i := 11) (by decide +kernel) (by decide +kernel)
theorem bw_252 : Cond.code yJ0_checkIndex_df160 cJ0_checkIndex_df160 2 none ∈ BW := bw_on tb_2 (i := 12) (by decide +kernel) (by decide +kernel)
theorem bw_253 : Cond.fieldLink RJ0 1053 RJ3 "SIOOBE_FORMATTER" "Ljava/util/function/BiFunction;" ∈ BW := bw_on tb_2 (i := 13) (by decide +kernel) (by decide +kernel)
theorem bw_255 : Cond.methodLink RJ0 1059 yJ3_checkIndex_8e157 ∈ BW := bw_on tb_2 (i := 15) (by decide +kernel) (by decide +kernel)
theorem bw_256 : Cond.static yJ3_checkIndex_8e157 ∈ BW := bw_on tb_2 (i := 16) (by decide +kernel) (by decide +kernel)
theorem bw_257 : Cond.code yJ3_checkIndex_8e157 cJ3_checkIndex_8e157 3 (some .int) ∈ BW := bw_on tb_2 (i := 17) (by decide +kernel) (by decide +kernel)
theorem bw_277 : Cond.methodLink RX7 60 yX7_withLetter ∈ BW := bw_on tb_2 (i := 37) (by decide +kernel) (by decide +kernel)
theorem bw_278 : Cond.static yX7_withLetter ∈ BW := bw_on tb_2 (i := 38) (by decide +kernel) (by decide +kernel)
theorem bw_279 : Cond.code yX7_withLetter cX7_withLetter 3 (some .long) ∈ BW := bw_on tb_2 (i := 39) (by decide +kernel) (by decide +kernel)
theorem bw_280 : Cond.constantLong RX7 91 (27) ∈ BW := bw_on tb_2 (i := 40) (by decide +kernel) (by decide +kernel)
theorem bw_281 : Cond.constantLong RX7 93 (97) ∈ BW := bw_on tb_2 (i := 41) (by decide +kernel) (by decide +kernel)
theorem bw_282 : Cond.fieldLink RX7 9 RX7 "bytes" "[I" ∈ BW := bw_on tb_2 (i := 42) (by decide +kernel) (by decide +kernel)
theorem bw_283 : Cond.fieldLink RX7 15 RX7 "keywords" "[J" ∈ BW := bw_on tb_2 (i := 43) (by decide +kernel) (by decide +kernel)
theorem bw_284 : Cond.fieldLink RX7 19 RX7 "byteCount" "I" ∈ BW := bw_on tb_2 (i := 44) (by decide +kernel) (by decide +kernel)
theorem bw_285 : Cond.fieldLink RX11 160 RX7 "byteCount" "I" ∈ BW := bw_on tb_2 (i := 45) (by decide +kernel) (by decide +kernel)
theorem bw_286 : Cond.fieldLink RX7 23 RX7 "end" "I" ∈ BW := bw_on tb_2 (i := 46) (by decide +kernel) (by decide +kernel)
theorem bw_287 : Cond.fieldLink RX7 26 RX7 "next" "I" ∈ BW := bw_on tb_2 (i := 47) (by decide +kernel) (by decide +kernel)
theorem bw_288 : Cond.fieldLink RX7 29 RX7 "start" "I" ∈ BW := bw_on tb_2 (i := 48) (by decide +kernel) (by decide +kernel)
theorem bw_289 : Cond.fieldLink RX7 32 RX7 "token" "I" ∈ BW := bw_on tb_2 (i := 49) (by decide +kernel) (by decide +kernel)
theorem bw_290 : Cond.fieldLink RX4 43 RX7 "token" "I" ∈ BW := bw_on tb_2 (i := 50) (by decide +kernel) (by decide +kernel)
theorem bw_291 : Cond.fieldLink RX7 35 RX7 "name" "J" ∈ BW := bw_on tb_2 (i := 51) (by decide +kernel) (by decide +kernel)
theorem bw_292 : Cond.fieldLink RX4 162 RX7 "name" "J" ∈ BW := bw_on tb_2 (i := 52) (by decide +kernel) (by decide +kernel)
theorem bw_293 : Cond.fieldLink RX7 39 RX7 "value" "I" ∈ BW := bw_on tb_2 (i := 53) (by decide +kernel) (by decide +kernel)
theorem bw_294 : Cond.fieldLink RX4 234 RX7 "value" "I" ∈ BW := bw_on tb_2 (i := 54) (by decide +kernel) (by decide +kernel)
theorem bw_295 : Cond.fieldLink RX7 42 RX7 "fault" "I" ∈ BW := bw_on tb_2 (i := 55) (by decide +kernel) (by decide +kernel)
theorem bw_296 : Cond.fieldLink RX11 436 RX7 "fault" "I" ∈ BW := bw_on tb_2 (i := 56) (by decide +kernel) (by decide +kernel)
theorem bw_297 : Cond.fieldLink RX7 45 RX7 "faultPlace" "I" ∈ BW := bw_on tb_2 (i := 57) (by decide +kernel) (by decide +kernel)
theorem bw_298 : Cond.fieldLink RX11 439 RX7 "faultPlace" "I" ∈ BW := bw_on tb_2 (i := 58) (by decide +kernel) (by decide +kernel)
theorem bw_329 : Cond.fieldLink RX4 28 RX4 "tokens" "LCatWitness$Tokens;" ∈ BW := bw_on tb_2 (i := 89) (by decide +kernel) (by decide +kernel)
theorem bw_330 : Cond.fieldLink RX4 11 RX4 "open" "[I" ∈ BW := bw_on tb_2 (i := 90) (by decide +kernel) (by decide +kernel)
theorem bw_331 : Cond.fieldLink RX4 15 RX4 "openCount" "I" ∈ BW := bw_on tb_2 (i := 91) (by decide +kernel) (by decide +kernel)
theorem bw_332 : Cond.fieldLink RX4 19 RX4 "found" "I" ∈ BW := bw_on tb_2 (i := 92) (by decide +kernel) (by decide +kernel)
theorem bw_333 : Cond.fieldLink RX4 22 RX4 "low" "I" ∈ BW := bw_on tb_2 (i := 93) (by decide +kernel) (by decide +kernel)
theorem bw_334 : Cond.fieldLink RX4 25 RX4 "high" "I" ∈ BW := bw_on tb_2 (i := 94) (by decide +kernel) (by decide +kernel)
theorem bw_354 : Cond.fieldLink RX10 9 RX10 "all" "[I" ∈ BW := bw_on tb_2 (i := 114) (by decide +kernel) (by decide +kernel)
theorem bw_355 : Cond.fieldLink RX11 354 RX10 "all" "[I" ∈ BW := bw_on tb_2 (i := 115) (by decide +kernel) (by decide +kernel)
theorem bw_356 : Cond.fieldLink RX10 15 RX10 "guilty" "[I" ∈ BW := bw_on tb_2 (i := 116) (by decide +kernel) (by decide +kernel)
theorem bw_357 : Cond.fieldLink RX11 360 RX10 "guilty" "[I" ∈ BW := bw_on tb_2 (i := 117) (by decide +kernel) (by decide +kernel)
theorem bw_358 : Cond.fieldLink RX10 18 RX10 "unshown" "I" ∈ BW := bw_on tb_2 (i := 118) (by decide +kernel) (by decide +kernel)
theorem bw_359 : Cond.fieldLink RX11 363 RX10 "unshown" "I" ∈ BW := bw_on tb_2 (i := 119) (by decide +kernel) (by decide +kernel)
theorem bw_373 : Cond.fieldLink RX3 9 RX3 "mostBehind" "[I" ∈ BW := bw_on tb_2 (i := 133) (by decide +kernel) (by decide +kernel)
theorem bw_374 : Cond.fieldLink RX3 15 RX3 "row" "[I" ∈ BW := bw_on tb_2 (i := 134) (by decide +kernel) (by decide +kernel)
theorem bw_375 : Cond.fieldLink RX11 387 RX3 "row" "[I" ∈ BW := bw_on tb_2 (i := 135) (by decide +kernel) (by decide +kernel)
theorem bw_376 : Cond.fieldLink RX3 18 RX3 "count" "I" ∈ BW := bw_on tb_2 (i := 136) (by decide +kernel) (by decide +kernel)
theorem bw_377 : Cond.fieldLink RX11 386 RX3 "count" "I" ∈ BW := bw_on tb_2 (i := 137) (by decide +kernel) (by decide +kernel)
theorem bw_391 : Cond.fieldLink RX1 11 RX1 "first" "I" ∈ BW := bw_on tb_2 (i := 151) (by decide +kernel) (by decide +kernel)
theorem bw_392 : Cond.fieldLink RX11 394 RX1 "first" "I" ∈ BW := bw_on tb_2 (i := 152) (by decide +kernel) (by decide +kernel)
theorem bw_393 : Cond.fieldLink RX1 15 RX1 "value" "I" ∈ BW := bw_on tb_2 (i := 153) (by decide +kernel) (by decide +kernel)
theorem bw_405 : Cond.fieldLink RX2 11 RX2 "kept" "[I" ∈ BW := bw_on tb_2 (i := 165) (by decide +kernel) (by decide +kernel)
theorem bw_406 : Cond.fieldLink RX11 419 RX2 "kept" "[I" ∈ BW := bw_on tb_2 (i := 166) (by decide +kernel) (by decide +kernel)
theorem bw_407 : Cond.fieldLink RX2 15 RX2 "wasLived" "Z" ∈ BW := bw_on tb_2 (i := 167) (by decide +kernel) (by decide +kernel)
theorem bw_408 : Cond.fieldLink RX11 416 RX2 "wasLived" "Z" ∈ BW := bw_on tb_2 (i := 168) (by decide +kernel) (by decide +kernel)
theorem bw_409 : Cond.fieldLink RX2 19 RX2 "draws" "I" ∈ BW := bw_on tb_2 (i := 169) (by decide +kernel) (by decide +kernel)
theorem bw_410 : Cond.fieldLink RX2 23 RX2 "steps" "I" ∈ BW := bw_on tb_2 (i := 170) (by decide +kernel) (by decide +kernel)
theorem bw_411 : Cond.fieldLink RX11 413 RX2 "steps" "I" ∈ BW := bw_on tb_2 (i := 171) (by decide +kernel) (by decide +kernel)
theorem bw_412 : Cond.fieldLink RX2 26 RX2 "missed" "I" ∈ BW := bw_on tb_2 (i := 172) (by decide +kernel) (by decide +kernel)
theorem bw_413 : Cond.fieldLink RX2 29 RX2 "left" "I" ∈ BW := bw_on tb_2 (i := 173) (by decide +kernel) (by decide +kernel)
theorem bw_414 : Cond.fieldLink RX2 32 RX2 "over" "Z" ∈ BW := bw_on tb_2 (i := 174) (by decide +kernel) (by decide +kernel)
theorem bw_430 : Cond.fieldLink RX11 10 RX11 "now" "LCatWitness$Court;" ∈ BW := bw_on tb_2 (i := 190) (by decide +kernel) (by decide +kernel)
theorem bw_431 : Cond.fieldLink RX11 16 RX11 "spare" "LCatWitness$Court;" ∈ BW := bw_on tb_2 (i := 191) (by decide +kernel) (by decide +kernel)
theorem bw_432 : Cond.fieldLink RX11 19 RX11 "marks" "[LCatWitness$Court;" ∈ BW := bw_on tb_2 (i := 192) (by decide +kernel) (by decide +kernel)
theorem bw_433 : Cond.fieldLink RX11 23 RX11 "markCount" "I" ∈ BW := bw_on tb_2 (i := 193) (by decide +kernel) (by decide +kernel)
theorem bw_434 : Cond.fieldLink RX11 29 RX11 "trays" "[LCatWitness$Tray;" ∈ BW := bw_on tb_2 (i := 194) (by decide +kernel) (by decide +kernel)
theorem bw_435 : Cond.fieldLink RX11 34 RX11 "noTray" "LCatWitness$Tray;" ∈ BW := bw_on tb_2 (i := 195) (by decide +kernel) (by decide +kernel)
theorem bw_436 : Cond.fieldLink RX11 41 RX11 "tokens" "LCatWitness$Tokens;" ∈ BW := bw_on tb_2 (i := 196) (by decide +kernel) (by decide +kernel)
theorem bw_437 : Cond.fieldLink RX11 50 RX11 "parser" "LCatWitness$Parser;" ∈ BW := bw_on tb_2 (i := 197) (by decide +kernel) (by decide +kernel)
theorem bw_438 : Cond.fieldLink RX11 57 RX11 "worlds" "LCatWitness$Worlds;" ∈ BW := bw_on tb_2 (i := 198) (by decide +kernel) (by decide +kernel)
theorem bw_439 : Cond.fieldLink RX11 64 RX11 "order" "LCatWitness$Order;" ∈ BW := bw_on tb_2 (i := 199) (by decide +kernel) (by decide +kernel)
theorem bw_440 : Cond.fieldLink RX11 71 RX11 "game" "LCatWitness$Game;" ∈ BW := bw_on tb_2 (i := 200) (by decide +kernel) (by decide +kernel)
theorem bw_441 : Cond.fieldLink RX11 78 RX11 "life" "LCatWitness$Life;" ∈ BW := bw_on tb_2 (i := 201) (by decide +kernel) (by decide +kernel)
theorem bw_442 : Cond.fieldLink RX11 82 RX11 "status" "I" ∈ BW := bw_on tb_2 (i := 202) (by decide +kernel) (by decide +kernel)
theorem bw_443 : Cond.fieldLink RX11 85 RX11 "top" "J" ∈ BW := bw_on tb_2 (i := 203) (by decide +kernel) (by decide +kernel)
theorem bw_444 : Cond.fieldLink RX11 89 RX11 "bottom" "J" ∈ BW := bw_on tb_2 (i := 204) (by decide +kernel) (by decide +kernel)
theorem bw_445 : Cond.fieldLink RX11 92 RX11 "faultKind" "I" ∈ BW := bw_on tb_2 (i := 205) (by decide +kernel) (by decide +kernel)
theorem bw_446 : Cond.fieldLink RX11 95 RX11 "faultPlace" "I" ∈ BW := bw_on tb_2 (i := 206) (by decide +kernel) (by decide +kernel)
theorem bw_447 : Cond.fieldLink RX11 98 RX11 "notGuilty" "I" ∈ BW := bw_on tb_2 (i := 207) (by decide +kernel) (by decide +kernel)
theorem bw_448 : Cond.fieldLink RX11 101 RX11 "notClean" "I" ∈ BW := bw_on tb_2 (i := 208) (by decide +kernel) (by decide +kernel)
theorem bw_489 : Cond.instanceMethod yX11_status ∈ BW := bw_on tb_3 (i := 9) (by decide +kernel) (by decide +kernel)
theorem bw_490 : Cond.selects RX11 yX11_status yX11_status ∈ BW := bw_on tb_3 (i := 10) (by decide +kernel) (by decide +kernel)
theorem bw_491 : Cond.code yX11_status cX11_status 1 (some .int) ∈ BW := bw_on tb_3 (i := 11) (by decide +kernel) (by decide +kernel)
theorem bw_493 : Cond.instanceMethod yX11_top ∈ BW := bw_on tb_3 (i := 13) (by decide +kernel) (by decide +kernel)
theorem bw_494 : Cond.selects RX11 yX11_top yX11_top ∈ BW := bw_on tb_3 (i := 14) (by decide +kernel) (by decide +kernel)
theorem bw_495 : Cond.code yX11_top cX11_top 1 (some .long) ∈ BW := bw_on tb_3 (i := 15) (by decide +kernel) (by decide +kernel)
theorem bw_497 : Cond.instanceMethod yX11_bottom ∈ BW := bw_on tb_3 (i := 17) (by decide +kernel) (by decide +kernel)
theorem bw_498 : Cond.selects RX11 yX11_bottom yX11_bottom ∈ BW := bw_on tb_3 (i := 18) (by decide +kernel) (by decide +kernel)
theorem bw_499 : Cond.code yX11_bottom cX11_bottom 1 (some .long) ∈ BW := bw_on tb_3 (i := 19) (by decide +kernel) (by decide +kernel)
theorem bw_501 : Cond.instanceMethod yX11_tray ∈ BW := bw_on tb_3 (i := 21) (by decide +kernel) (by decide +kernel)
theorem bw_502 : Cond.selects RX11 yX11_tray yX11_tray ∈ BW := bw_on tb_3 (i := 22) (by decide +kernel) (by decide +kernel)
theorem bw_503 : Cond.code yX11_tray cX11_tray 4 (some .boolean) ∈ BW := bw_on tb_3 (i := 23) (by decide +kernel) (by decide +kernel)
theorem bw_504 : Cond.methodLink RX11 104 yX11_within ∈ BW := bw_on tb_3 (i := 24) (by decide +kernel) (by decide +kernel)
theorem bw_505 : Cond.static yX11_within ∈ BW := bw_on tb_3 (i := 25) (by decide +kernel) (by decide +kernel)
theorem bw_506 : Cond.code yX11_within cX11_within 2 (some .boolean) ∈ BW := bw_on tb_3 (i := 26) (by decide +kernel) (by decide +kernel)
theorem bw_507 : Cond.methodLink RX11 108 yX11_denied ∈ BW := bw_on tb_3 (i := 27) (by decide +kernel) (by decide +kernel)
theorem bw_509 : Cond.instanceMethod yX11_denied ∈ BW := bw_on tb_3 (i := 29) (by decide +kernel) (by decide +kernel)
theorem bw_510 : Cond.code yX11_denied cX11_denied 2 (some .boolean) ∈ BW := bw_on tb_3 (i := 30) (by decide +kernel) (by decide +kernel)
theorem bw_511 : Cond.methodLink RX11 112 yX11_trayAt ∈ BW := bw_on tb_3 (i := 31) (by decide +kernel) (by decide +kernel)
theorem bw_513 : Cond.instanceMethod yX11_trayAt ∈ BW := bw_on tb_3 (i := 33) (by decide +kernel) (by decide +kernel)
theorem bw_514 : Cond.code yX11_trayAt cX11_trayAt 3 (some (.object "CatWitness$Tray")) ∈ BW := bw_on tb_3 (i := 34) (by decide +kernel) (by decide +kernel)
theorem bw_515 : Cond.methodLink RX11 116 yX8_renew ∈ BW := bw_on tb_3 (i := 35) (by decide +kernel) (by decide +kernel)
theorem bw_516 : Cond.instanceMethod yX8_renew ∈ BW := bw_on tb_3 (i := 36) (by decide +kernel) (by decide +kernel)
theorem bw_517 : Cond.selects RX8 yX8_renew yX8_renew ∈ BW := bw_on tb_3 (i := 37) (by decide +kernel) (by decide +kernel)
theorem bw_518 : Cond.code yX8_renew cX8_renew 4 none ∈ BW := bw_on tb_3 (i := 38) (by decide +kernel) (by decide +kernel)
theorem bw_519 : Cond.methodLink RX11 120 yX11_done ∈ BW := bw_on tb_3 (i := 39) (by decide +kernel) (by decide +kernel)
theorem bw_521 : Cond.instanceMethod yX11_done ∈ BW := bw_on tb_3 (i := 41) (by decide +kernel) (by decide +kernel)
theorem bw_522 : Cond.code yX11_done cX11_done 1 (some .boolean) ∈ BW := bw_on tb_3 (i := 42) (by decide +kernel) (by decide +kernel)
theorem bw_524 : Cond.instanceMethod yX11_write ∈ BW := bw_on tb_3 (i := 44) (by decide +kernel) (by decide +kernel)
theorem bw_525 : Cond.selects RX11 yX11_write yX11_write ∈ BW := bw_on tb_3 (i := 45) (by decide +kernel) (by decide +kernel)
theorem bw_526 : Cond.code yX11_write cX11_write 6 (some .boolean) ∈ BW := bw_on tb_3 (i := 46) (by decide +kernel) (by decide +kernel)
theorem bw_527 : Cond.methodLink RX11 124 yX11_placeRefusal ∈ BW := bw_on tb_3 (i := 47) (by decide +kernel) (by decide +kernel)
theorem bw_529 : Cond.instanceMethod yX11_placeRefusal ∈ BW := bw_on tb_3 (i := 49) (by decide +kernel) (by decide +kernel)
theorem bw_530 : Cond.code yX11_placeRefusal cX11_placeRefusal 3 (some .int) ∈ BW := bw_on tb_3 (i := 50) (by decide +kernel) (by decide +kernel)
theorem bw_531 : Cond.methodLink RX11 140 yX8_isMissing ∈ BW := bw_on tb_3 (i := 51) (by decide +kernel) (by decide +kernel)
theorem bw_532 : Cond.instanceMethod yX8_isMissing ∈ BW := bw_on tb_3 (i := 52) (by decide +kernel) (by decide +kernel)
theorem bw_533 : Cond.selects RX8 yX8_isMissing yX8_isMissing ∈ BW := bw_on tb_3 (i := 53) (by decide +kernel) (by decide +kernel)
theorem bw_534 : Cond.code yX8_isMissing cX8_isMissing 1 (some .boolean) ∈ BW := bw_on tb_3 (i := 54) (by decide +kernel) (by decide +kernel)
theorem bw_535 : Cond.methodLink RX11 433 yX8_hasPlace ∈ BW := bw_on tb_3 (i := 55) (by decide +kernel) (by decide +kernel)
theorem bw_536 : Cond.instanceMethod yX8_hasPlace ∈ BW := bw_on tb_3 (i := 56) (by decide +kernel) (by decide +kernel)
theorem bw_537 : Cond.selects RX8 yX8_hasPlace yX8_hasPlace ∈ BW := bw_on tb_3 (i := 57) (by decide +kernel) (by decide +kernel)
theorem bw_538 : Cond.code yX8_hasPlace cX8_hasPlace 2 (some .boolean) ∈ BW := bw_on tb_3 (i := 58) (by decide +kernel) (by decide +kernel)
theorem bw_540 : Cond.methodLink RX11 128 yX8_putNumber ∈ BW := bw_on tb_3 (i := 60) (by decide +kernel) (by decide +kernel)
theorem bw_541 : Cond.instanceMethod yX8_putNumber ∈ BW := bw_on tb_3 (i := 61) (by decide +kernel) (by decide +kernel)
theorem bw_542 : Cond.selects RX8 yX8_putNumber yX8_putNumber ∈ BW := bw_on tb_3 (i := 62) (by decide +kernel) (by decide +kernel)
theorem bw_543 : Cond.code yX8_putNumber cX8_putNumber 4 none ∈ BW := bw_on tb_3 (i := 63) (by decide +kernel) (by decide +kernel)
theorem bw_544 : Cond.methodLink RX8 26 yX8_cut ∈ BW := bw_on tb_3 (i := 64) (by decide +kernel) (by decide +kernel)
theorem bw_546 : Cond.instanceMethod yX8_cut ∈ BW := bw_on tb_3 (i := 66) (by decide +kernel) (by decide +kernel)
theorem bw_547 : Cond.code yX8_cut cX8_cut 3 (some .long) ∈ BW := bw_on tb_3 (i := 67) (by decide +kernel) (by decide +kernel)
theorem bw_549 : Cond.instanceMethod yX11_read ∈ BW := bw_on tb_3 (i := 69) (by decide +kernel) (by decide +kernel)
theorem bw_550 : Cond.selects RX11 yX11_read yX11_read ∈ BW := bw_on tb_3 (i := 70) (by decide +kernel) (by decide +kernel)
theorem bw_551 : Cond.code yX11_read cX11_read 4 (some .long) ∈ BW := bw_on tb_3 (i := 71) (by decide +kernel) (by decide +kernel)
theorem bw_552 : Cond.methodLink RX11 132 yX11_refused ∈ BW := bw_on tb_3 (i := 72) (by decide +kernel) (by decide +kernel)
theorem bw_554 : Cond.instanceMethod yX11_refused ∈ BW := bw_on tb_3 (i := 74) (by decide +kernel) (by decide +kernel)
theorem bw_555 : Cond.code yX11_refused cX11_refused 2 (some .int) ∈ BW := bw_on tb_3 (i := 75) (by decide +kernel) (by decide +kernel)
theorem bw_556 : Cond.methodLink RX11 136 yX8_numberAt ∈ BW := bw_on tb_3 (i := 76) (by decide +kernel) (by decide +kernel)
theorem bw_557 : Cond.instanceMethod yX8_numberAt ∈ BW := bw_on tb_3 (i := 77) (by decide +kernel) (by decide +kernel)
theorem bw_558 : Cond.selects RX8 yX8_numberAt yX8_numberAt ∈ BW := bw_on tb_3 (i := 78) (by decide +kernel) (by decide +kernel)
theorem bw_559 : Cond.code yX8_numberAt cX8_numberAt 2 (some .long) ∈ BW := bw_on tb_3 (i := 79) (by decide +kernel) (by decide +kernel)
theorem bw_561 : Cond.instanceMethod yX11_pour ∈ BW := bw_on tb_3 (i := 81) (by decide +kernel) (by decide +kernel)
theorem bw_562 : Cond.selects RX11 yX11_pour yX11_pour ∈ BW := bw_on tb_3 (i := 82) (by decide +kernel) (by decide +kernel)
theorem bw_563 : Cond.code yX11_pour cX11_pour 8 (some .boolean) ∈ BW := bw_on tb_3 (i := 83) (by decide +kernel) (by decide +kernel)
theorem bw_564 : Cond.methodLink RX11 146 yX8_hasRun ∈ BW := bw_on tb_3 (i := 84) (by decide +kernel) (by decide +kernel)
theorem bw_565 : Cond.instanceMethod yX8_hasRun ∈ BW := bw_on tb_3 (i := 85) (by decide +kernel) (by decide +kernel)
theorem bw_566 : Cond.selects RX8 yX8_hasRun yX8_hasRun ∈ BW := bw_on tb_3 (i := 86) (by decide +kernel) (by decide +kernel)
theorem bw_567 : Cond.code yX8_hasRun cX8_hasRun 3 (some .boolean) ∈ BW := bw_on tb_3 (i := 87) (by decide +kernel) (by decide +kernel)
theorem bw_568 : Cond.methodLink RX11 149 yX8_takeRun ∈ BW := bw_on tb_3 (i := 88) (by decide +kernel) (by decide +kernel)
theorem bw_569 : Cond.instanceMethod yX8_takeRun ∈ BW := bw_on tb_3 (i := 89) (by decide +kernel) (by decide +kernel)
theorem bw_570 : Cond.selects RX8 yX8_takeRun yX8_takeRun ∈ BW := bw_on tb_3 (i := 90) (by decide +kernel) (by decide +kernel)
theorem bw_571 : Cond.code yX8_takeRun cX8_takeRun 7 none ∈ BW := bw_on tb_3 (i := 91) (by decide +kernel) (by decide +kernel)
theorem bw_572 : Cond.methodLink RX8 30 yX8_numberAt ∈ BW := bw_on tb_3 (i := 92) (by decide +kernel) (by decide +kernel)
theorem bw_573 : Cond.methodLink RX8 34 yX8_putNumber ∈ BW := bw_on tb_3 (i := 93) (by decide +kernel) (by decide +kernel)
theorem bw_575 : Cond.instanceMethod yX11_feed ∈ BW := bw_on tb_3 (i := 95) (by decide +kernel) (by decide +kernel)
theorem bw_576 : Cond.selects RX11 yX11_feed yX11_feed ∈ BW := bw_on tb_3 (i := 96) (by decide +kernel) (by decide +kernel)
theorem bw_577 : Cond.code yX11_feed cX11_feed 6 (some .int) ∈ BW := bw_on tb_3 (i := 97) (by decide +kernel) (by decide +kernel)
theorem bw_578 : Cond.methodLink RX11 153 yX7_hasRoom ∈ BW := bw_on tb_3 (i := 98) (by decide +kernel) (by decide +kernel)
theorem bw_579 : Cond.instanceMethod yX7_hasRoom ∈ BW := bw_on tb_3 (i := 99) (by decide +kernel) (by decide +kernel)
theorem bw_580 : Cond.selects RX7 yX7_hasRoom yX7_hasRoom ∈ BW := bw_on tb_3 (i := 100) (by decide +kernel) (by decide +kernel)
theorem bw_581 : Cond.code yX7_hasRoom cX7_hasRoom 2 (some .boolean) ∈ BW := bw_on tb_3 (i := 101) (by decide +kernel) (by decide +kernel)
theorem bw_582 : Cond.methodLink RX11 156 yX7_addInt ∈ BW := bw_on tb_3 (i := 102) (by decide +kernel) (by decide +kernel)
theorem bw_583 : Cond.instanceMethod yX7_addInt ∈ BW := bw_on tb_3 (i := 103) (by decide +kernel) (by decide +kernel)
theorem bw_584 : Cond.selects RX7 yX7_addInt yX7_addInt ∈ BW := bw_on tb_3 (i := 104) (by decide +kernel) (by decide +kernel)
theorem bw_585 : Cond.code yX7_addInt cX7_addInt 3 none ∈ BW := bw_on tb_3 (i := 105) (by decide +kernel) (by decide +kernel)
theorem bw_587 : Cond.static yX11_put ∈ BW := bw_on tb_3 (i := 107) (by decide +kernel) (by decide +kernel)
theorem bw_588 : Cond.code yX11_put cX11_put 3 none ∈ BW := bw_on tb_3 (i := 108) (by decide +kernel) (by decide +kernel)
theorem bw_590 : Cond.instanceMethod yX11_court ∈ BW := bw_on tb_3 (i := 110) (by decide +kernel) (by decide +kernel)
theorem bw_591 : Cond.selects RX11 yX11_court yX11_court ∈ BW := bw_on tb_3 (i := 111) (by decide +kernel) (by decide +kernel)
theorem bw_592 : Cond.code yX11_court cX11_court 4 (some .int) ∈ BW := bw_on tb_3 (i := 112) (by decide +kernel) (by decide +kernel)
theorem bw_593 : Cond.methodLink RX11 163 yX4_readCourt ∈ BW := bw_on tb_3 (i := 113) (by decide +kernel) (by decide +kernel)
theorem bw_594 : Cond.instanceMethod yX4_readCourt ∈ BW := bw_on tb_3 (i := 114) (by decide +kernel) (by decide +kernel)
theorem bw_595 : Cond.selects RX4 yX4_readCourt yX4_readCourt ∈ BW := bw_on tb_3 (i := 115) (by decide +kernel) (by decide +kernel)
theorem bw_596 : Cond.code yX4_readCourt cX4_readCourt 5 (some .boolean) ∈ BW := bw_on tb_3 (i := 116) (by decide +kernel) (by decide +kernel)
theorem bw_597 : Cond.methodLink RX4 32 yX0_clear ∈ BW := bw_on tb_3 (i := 117) (by decide +kernel) (by decide +kernel)
theorem bw_598 : Cond.instanceMethod yX0_clear ∈ BW := bw_on tb_3 (i := 118) (by decide +kernel) (by decide +kernel)
theorem bw_599 : Cond.selects RX0 yX0_clear yX0_clear ∈ BW := bw_on tb_3 (i := 119) (by decide +kernel) (by decide +kernel)
theorem bw_600 : Cond.code yX0_clear cX0_clear 2 none ∈ BW := bw_on tb_3 (i := 120) (by decide +kernel) (by decide +kernel)
theorem bw_601 : Cond.methodLink RX0 70 yX9_clear ∈ BW := bw_on tb_3 (i := 121) (by decide +kernel) (by decide +kernel)
theorem bw_602 : Cond.instanceMethod yX9_clear ∈ BW := bw_on tb_3 (i := 122) (by decide +kernel) (by decide +kernel)
theorem bw_603 : Cond.selects RX9 yX9_clear yX9_clear ∈ BW := bw_on tb_3 (i := 123) (by decide +kernel) (by decide +kernel)
theorem bw_604 : Cond.code yX9_clear cX9_clear 1 none ∈ BW := bw_on tb_3 (i := 124) (by decide +kernel) (by decide +kernel)
theorem bw_605 : Cond.methodLink RX4 37 yX7_begin ∈ BW := bw_on tb_3 (i := 125) (by decide +kernel) (by decide +kernel)
theorem bw_606 : Cond.instanceMethod yX7_begin ∈ BW := bw_on tb_3 (i := 126) (by decide +kernel) (by decide +kernel)
theorem bw_607 : Cond.selects RX7 yX7_begin yX7_begin ∈ BW := bw_on tb_3 (i := 127) (by decide +kernel) (by decide +kernel)
theorem bw_608 : Cond.code yX7_begin cX7_begin 2 none ∈ BW := bw_on tb_3 (i := 128) (by decide +kernel) (by decide +kernel)
theorem bw_609 : Cond.methodLink RX7 68 yX7_goOn ∈ BW := bw_on tb_3 (i := 129) (by decide +kernel) (by decide +kernel)
theorem bw_610 : Cond.instanceMethod yX7_goOn ∈ BW := bw_on tb_3 (i := 130) (by decide +kernel) (by decide +kernel)
theorem bw_611 : Cond.selects RX7 yX7_goOn yX7_goOn ∈ BW := bw_on tb_3 (i := 131) (by decide +kernel) (by decide +kernel)
theorem bw_612 : Cond.code yX7_goOn cX7_goOn 2 none ∈ BW := bw_on tb_3 (i := 132) (by decide +kernel) (by decide +kernel)
theorem bw_613 : Cond.methodLink RX7 71 yX7_byteAt ∈ BW := bw_on tb_3 (i := 133) (by decide +kernel) (by decide +kernel)
theorem bw_615 : Cond.instanceMethod yX7_byteAt ∈ BW := bw_on tb_3 (i := 135) (by decide +kernel) (by decide +kernel)
theorem bw_616 : Cond.code yX7_byteAt cX7_byteAt 2 (some .int) ∈ BW := bw_on tb_3 (i := 136) (by decide +kernel) (by decide +kernel)
theorem bw_617 : Cond.methodLink RX7 75 yX7_isBlank ∈ BW := bw_on tb_3 (i := 137) (by decide +kernel) (by decide +kernel)
theorem bw_618 : Cond.static yX7_isBlank ∈ BW := bw_on tb_3 (i := 138) (by decide +kernel) (by decide +kernel)
theorem bw_619 : Cond.code yX7_isBlank cX7_isBlank 1 (some .boolean) ∈ BW := bw_on tb_3 (i := 139) (by decide +kernel) (by decide +kernel)
theorem bw_620 : Cond.methodLink RX7 79 yX7_isLetter ∈ BW := bw_on tb_3 (i := 140) (by decide +kernel) (by decide +kernel)
theorem bw_621 : Cond.static yX7_isLetter ∈ BW := bw_on tb_3 (i := 141) (by decide +kernel) (by decide +kernel)
theorem bw_622 : Cond.code yX7_isLetter cX7_isLetter 1 (some .boolean) ∈ BW := bw_on tb_3 (i := 142) (by decide +kernel) (by decide +kernel)
theorem bw_623 : Cond.methodLink RX7 82 yX7_keywordOrName ∈ BW := bw_on tb_3 (i := 143) (by decide +kernel) (by decide +kernel)
theorem bw_625 : Cond.instanceMethod yX7_keywordOrName ∈ BW := bw_on tb_3 (i := 145) (by decide +kernel) (by decide +kernel)
theorem bw_626 : Cond.code yX7_keywordOrName cX7_keywordOrName 2 (some .int) ∈ BW := bw_on tb_3 (i := 146) (by decide +kernel) (by decide +kernel)
theorem bw_627 : Cond.methodLink RX7 85 yX7_isDigit ∈ BW := bw_on tb_3 (i := 147) (by decide +kernel) (by decide +kernel)
theorem bw_628 : Cond.static yX7_isDigit ∈ BW := bw_on tb_3 (i := 148) (by decide +kernel) (by decide +kernel)
theorem bw_629 : Cond.code yX7_isDigit cX7_isDigit 1 (some .boolean) ∈ BW := bw_on tb_3 (i := 149) (by decide +kernel) (by decide +kernel)
theorem bw_630 : Cond.methodLink RX7 88 yX7_isSign ∈ BW := bw_on tb_3 (i := 150) (by decide +kernel) (by decide +kernel)
theorem bw_631 : Cond.static yX7_isSign ∈ BW := bw_on tb_3 (i := 151) (by decide +kernel) (by decide +kernel)
theorem bw_632 : Cond.code yX7_isSign cX7_isSign 1 (some .boolean) ∈ BW := bw_on tb_3 (i := 152) (by decide +kernel) (by decide +kernel)
theorem bw_633 : Cond.methodLink RX4 46 yX4_beginPart ∈ BW := bw_on tb_3 (i := 153) (by decide +kernel) (by decide +kernel)
theorem bw_635 : Cond.instanceMethod yX4_beginPart ∈ BW := bw_on tb_3 (i := 155) (by decide +kernel) (by decide +kernel)
theorem bw_636 : Cond.code yX4_beginPart cX4_beginPart 3 (some .boolean) ∈ BW := bw_on tb_3 (i := 156) (by decide +kernel) (by decide +kernel)
theorem bw_637 : Cond.methodLink RX4 57 yX7_refuse ∈ BW := bw_on tb_3 (i := 157) (by decide +kernel) (by decide +kernel)
theorem bw_638 : Cond.instanceMethod yX7_refuse ∈ BW := bw_on tb_3 (i := 158) (by decide +kernel) (by decide +kernel)
theorem bw_639 : Cond.selects RX7 yX7_refuse yX7_refuse ∈ BW := bw_on tb_3 (i := 159) (by decide +kernel) (by decide +kernel)
theorem bw_640 : Cond.code yX7_refuse cX7_refuse 2 (some .boolean) ∈ BW := bw_on tb_3 (i := 160) (by decide +kernel) (by decide +kernel)
theorem bw_641 : Cond.methodLink RX4 60 yX0_isFull ∈ BW := bw_on tb_3 (i := 161) (by decide +kernel) (by decide +kernel)
theorem bw_642 : Cond.instanceMethod yX0_isFull ∈ BW := bw_on tb_3 (i := 162) (by decide +kernel) (by decide +kernel)
theorem bw_643 : Cond.selects RX0 yX0_isFull yX0_isFull ∈ BW := bw_on tb_3 (i := 163) (by decide +kernel) (by decide +kernel)
theorem bw_644 : Cond.code yX0_isFull cX0_isFull 2 (some .boolean) ∈ BW := bw_on tb_3 (i := 164) (by decide +kernel) (by decide +kernel)
theorem bw_645 : Cond.methodLink RX0 77 yX0_countOf ∈ BW := bw_on tb_3 (i := 165) (by decide +kernel) (by decide +kernel)
theorem bw_646 : Cond.instanceMethod yX0_countOf ∈ BW := bw_on tb_3 (i := 166) (by decide +kernel) (by decide +kernel)
theorem bw_647 : Cond.selects RX0 yX0_countOf yX0_countOf ∈ BW := bw_on tb_3 (i := 167) (by decide +kernel) (by decide +kernel)
theorem bw_648 : Cond.code yX0_countOf cX0_countOf 2 (some .int) ∈ BW := bw_on tb_3 (i := 168) (by decide +kernel) (by decide +kernel)
theorem bw_652 : Cond.static yX11_cell ∈ BW := bw_on tb_3 (i := 172) (by decide +kernel) (by decide +kernel)
theorem bw_653 : Cond.code yX11_cell cX11_cell 2 (some .int) ∈ BW := bw_on tb_3 (i := 173) (by decide +kernel) (by decide +kernel)
theorem bw_654 : Cond.methodLink RX4 63 yX7_goOn ∈ BW := bw_on tb_3 (i := 174) (by decide +kernel) (by decide +kernel)
theorem bw_655 : Cond.methodLink RX4 50 yX4_readPart ∈ BW := bw_on tb_3 (i := 175) (by decide +kernel) (by decide +kernel)
theorem bw_657 : Cond.instanceMethod yX4_readPart ∈ BW := bw_on tb_3 (i := 177) (by decide +kernel) (by decide +kernel)
theorem bw_658 : Cond.code yX4_readPart cX4_readPart 3 (some .boolean) ∈ BW := bw_on tb_3 (i := 178) (by decide +kernel) (by decide +kernel)
theorem bw_659 : Cond.methodLink RX4 66 yX4_takeNewName ∈ BW := bw_on tb_3 (i := 179) (by decide +kernel) (by decide +kernel)
theorem bw_661 : Cond.instanceMethod yX4_takeNewName ∈ BW := bw_on tb_3 (i := 181) (by decide +kernel) (by decide +kernel)
theorem bw_662 : Cond.code yX4_takeNewName cX4_takeNewName 3 (some .boolean) ∈ BW := bw_on tb_3 (i := 182) (by decide +kernel) (by decide +kernel)
theorem bw_663 : Cond.methodLink RX4 226 yX0_isTaken ∈ BW := bw_on tb_3 (i := 183) (by decide +kernel) (by decide +kernel)
theorem bw_664 : Cond.instanceMethod yX0_isTaken ∈ BW := bw_on tb_3 (i := 184) (by decide +kernel) (by decide +kernel)
theorem bw_665 : Cond.selects RX0 yX0_isTaken yX0_isTaken ∈ BW := bw_on tb_3 (i := 185) (by decide +kernel) (by decide +kernel)
theorem bw_666 : Cond.code yX0_isTaken cX0_isTaken 3 (some .boolean) ∈ BW := bw_on tb_3 (i := 186) (by decide +kernel) (by decide +kernel)
theorem bw_667 : Cond.methodLink RX0 114 yX0_numberOf ∈ BW := bw_on tb_3 (i := 187) (by decide +kernel) (by decide +kernel)
theorem bw_668 : Cond.instanceMethod yX0_numberOf ∈ BW := bw_on tb_3 (i := 188) (by decide +kernel) (by decide +kernel)
theorem bw_669 : Cond.selects RX0 yX0_numberOf yX0_numberOf ∈ BW := bw_on tb_3 (i := 189) (by decide +kernel) (by decide +kernel)
theorem bw_670 : Cond.code yX0_numberOf cX0_numberOf 6 (some .int) ∈ BW := bw_on tb_3 (i := 190) (by decide +kernel) (by decide +kernel)
theorem bw_672 : Cond.methodLink RX4 99 yX0_addOne ∈ BW := bw_on tb_3 (i := 192) (by decide +kernel) (by decide +kernel)
theorem bw_673 : Cond.instanceMethod yX0_addOne ∈ BW := bw_on tb_3 (i := 193) (by decide +kernel) (by decide +kernel)
theorem bw_674 : Cond.selects RX0 yX0_addOne yX0_addOne ∈ BW := bw_on tb_3 (i := 194) (by decide +kernel) (by decide +kernel)
theorem bw_675 : Cond.code yX0_addOne cX0_addOne 3 (some .int) ∈ BW := bw_on tb_3 (i := 195) (by decide +kernel) (by decide +kernel)
theorem bw_677 : Cond.methodLink RX4 230 yX0_putName ∈ BW := bw_on tb_3 (i := 197) (by decide +kernel) (by decide +kernel)
theorem bw_678 : Cond.instanceMethod yX0_putName ∈ BW := bw_on tb_3 (i := 198) (by decide +kernel) (by decide +kernel)
theorem bw_679 : Cond.selects RX0 yX0_putName yX0_putName ∈ BW := bw_on tb_3 (i := 199) (by decide +kernel) (by decide +kernel)
theorem bw_680 : Cond.code yX0_putName cX0_putName 6 none ∈ BW := bw_on tb_3 (i := 200) (by decide +kernel) (by decide +kernel)
theorem bw_681 : Cond.methodLink RX4 69 yX4_readSense ∈ BW := bw_on tb_3 (i := 201) (by decide +kernel) (by decide +kernel)
theorem bw_683 : Cond.instanceMethod yX4_readSense ∈ BW := bw_on tb_3 (i := 203) (by decide +kernel) (by decide +kernel)
theorem bw_684 : Cond.code yX4_readSense cX4_readSense 4 (some .boolean) ∈ BW := bw_on tb_3 (i := 204) (by decide +kernel) (by decide +kernel)
theorem bw_685 : Cond.methodLink RX4 53 yX4_take ∈ BW := bw_on tb_3 (i := 205) (by decide +kernel) (by decide +kernel)
theorem bw_687 : Cond.instanceMethod yX4_take ∈ BW := bw_on tb_3 (i := 207) (by decide +kernel) (by decide +kernel)
theorem bw_688 : Cond.code yX4_take cX4_take 2 (some .boolean) ∈ BW := bw_on tb_3 (i := 208) (by decide +kernel) (by decide +kernel)
theorem bw_689 : Cond.methodLink RX4 115 yX4_skip ∈ BW := bw_on tb_3 (i := 209) (by decide +kernel) (by decide +kernel)
theorem bw_691 : Cond.instanceMethod yX4_skip ∈ BW := bw_on tb_3 (i := 211) (by decide +kernel) (by decide +kernel)
theorem bw_692 : Cond.code yX4_skip cX4_skip 2 (some .boolean) ∈ BW := bw_on tb_3 (i := 212) (by decide +kernel) (by decide +kernel)
theorem bw_693 : Cond.methodLink RX4 88 yX4_guiltHere ∈ BW := bw_on tb_3 (i := 213) (by decide +kernel) (by decide +kernel)
theorem bw_695 : Cond.instanceMethod yX4_guiltHere ∈ BW := bw_on tb_3 (i := 215) (by decide +kernel) (by decide +kernel)
theorem bw_696 : Cond.code yX4_guiltHere cX4_guiltHere 1 (some .int) ∈ BW := bw_on tb_3 (i := 216) (by decide +kernel) (by decide +kernel)
theorem bw_698 : Cond.methodLink RX4 73 yX4_takeName ∈ BW := bw_on tb_3 (i := 218) (by decide +kernel) (by decide +kernel)
theorem bw_700 : Cond.instanceMethod yX4_takeName ∈ BW := bw_on tb_3 (i := 220) (by decide +kernel) (by decide +kernel)
theorem bw_701 : Cond.code yX4_takeName cX4_takeName 3 (some .boolean) ∈ BW := bw_on tb_3 (i := 221) (by decide +kernel) (by decide +kernel)
theorem bw_702 : Cond.methodLink RX4 166 yX0_numberOf ∈ BW := bw_on tb_3 (i := 222) (by decide +kernel) (by decide +kernel)
theorem bw_703 : Cond.methodLink RX4 76 yX4_readRule ∈ BW := bw_on tb_3 (i := 223) (by decide +kernel) (by decide +kernel)
theorem bw_705 : Cond.instanceMethod yX4_readRule ∈ BW := bw_on tb_3 (i := 225) (by decide +kernel) (by decide +kernel)
theorem bw_706 : Cond.code yX4_readRule cX4_readRule 3 (some .boolean) ∈ BW := bw_on tb_3 (i := 226) (by decide +kernel) (by decide +kernel)
theorem bw_707 : Cond.methodLink RX4 103 yX0_ruleAt ∈ BW := bw_on tb_3 (i := 227) (by decide +kernel) (by decide +kernel)
theorem bw_708 : Cond.instanceMethod yX0_ruleAt ∈ BW := bw_on tb_3 (i := 228) (by decide +kernel) (by decide +kernel)
theorem bw_709 : Cond.selects RX0 yX0_ruleAt yX0_ruleAt ∈ BW := bw_on tb_3 (i := 229) (by decide +kernel) (by decide +kernel)
theorem bw_710 : Cond.code yX0_ruleAt cX0_ruleAt 3 (some (.object "CatWitness$Rule")) ∈ BW := bw_on tb_3 (i := 230) (by decide +kernel) (by decide +kernel)
theorem bw_711 : Cond.methodLink RX4 107 yX6_renew ∈ BW := bw_on tb_3 (i := 231) (by decide +kernel) (by decide +kernel)
theorem bw_712 : Cond.instanceMethod yX6_renew ∈ BW := bw_on tb_3 (i := 232) (by decide +kernel) (by decide +kernel)
theorem bw_713 : Cond.selects RX6 yX6_renew yX6_renew ∈ BW := bw_on tb_3 (i := 233) (by decide +kernel) (by decide +kernel)
theorem bw_714 : Cond.code yX6_renew cX6_renew 2 none ∈ BW := bw_on tb_3 (i := 234) (by decide +kernel) (by decide +kernel)
theorem bw_715 : Cond.methodLink RX4 118 yX4_takeCompare ∈ BW := bw_on tb_3 (i := 235) (by decide +kernel) (by decide +kernel)
theorem bw_717 : Cond.instanceMethod yX4_takeCompare ∈ BW := bw_on tb_3 (i := 237) (by decide +kernel) (by decide +kernel)
theorem bw_718 : Cond.code yX4_takeCompare cX4_takeCompare 3 (some .boolean) ∈ BW := bw_on tb_3 (i := 238) (by decide +kernel) (by decide +kernel)
theorem bw_719 : Cond.methodLink RX4 151 yX4_takeNumber ∈ BW := bw_on tb_3 (i := 239) (by decide +kernel) (by decide +kernel)
theorem bw_721 : Cond.instanceMethod yX4_takeNumber ∈ BW := bw_on tb_4 (i := 1) (by decide +kernel) (by decide +kernel)
theorem bw_722 : Cond.code yX4_takeNumber cX4_takeNumber 3 (some .boolean) ∈ BW := bw_on tb_4 (i := 2) (by decide +kernel) (by decide +kernel)
theorem bw_723 : Cond.methodLink RX4 79 yX4_readPerson ∈ BW := bw_on tb_4 (i := 3) (by decide +kernel) (by decide +kernel)
theorem bw_725 : Cond.instanceMethod yX4_readPerson ∈ BW := bw_on tb_4 (i := 5) (by decide +kernel) (by decide +kernel)
theorem bw_726 : Cond.code yX4_readPerson cX4_readPerson 3 (some .boolean) ∈ BW := bw_on tb_4 (i := 6) (by decide +kernel) (by decide +kernel)
theorem bw_727 : Cond.methodLink RX4 142 yX0_personAt ∈ BW := bw_on tb_4 (i := 7) (by decide +kernel) (by decide +kernel)
theorem bw_728 : Cond.instanceMethod yX0_personAt ∈ BW := bw_on tb_4 (i := 8) (by decide +kernel) (by decide +kernel)
theorem bw_729 : Cond.selects RX0 yX0_personAt yX0_personAt ∈ BW := bw_on tb_4 (i := 9) (by decide +kernel) (by decide +kernel)
theorem bw_730 : Cond.code yX0_personAt cX0_personAt 3 (some (.object "CatWitness$Person")) ∈ BW := bw_on tb_4 (i := 10) (by decide +kernel) (by decide +kernel)
theorem bw_731 : Cond.methodLink RX4 146 yX5_renew ∈ BW := bw_on tb_4 (i := 11) (by decide +kernel) (by decide +kernel)
theorem bw_732 : Cond.instanceMethod yX5_renew ∈ BW := bw_on tb_4 (i := 12) (by decide +kernel) (by decide +kernel)
theorem bw_733 : Cond.selects RX5 yX5_renew yX5_renew ∈ BW := bw_on tb_4 (i := 13) (by decide +kernel) (by decide +kernel)
theorem bw_734 : Cond.code yX5_renew cX5_renew 1 none ∈ BW := bw_on tb_4 (i := 14) (by decide +kernel) (by decide +kernel)
theorem bw_735 : Cond.methodLink RX4 158 yX4_readSmells ∈ BW := bw_on tb_4 (i := 15) (by decide +kernel) (by decide +kernel)
theorem bw_737 : Cond.instanceMethod yX4_readSmells ∈ BW := bw_on tb_4 (i := 17) (by decide +kernel) (by decide +kernel)
theorem bw_738 : Cond.code yX4_readSmells cX4_readSmells 5 (some .boolean) ∈ BW := bw_on tb_4 (i := 18) (by decide +kernel) (by decide +kernel)
theorem bw_740 : Cond.static yX11_isIn ∈ BW := bw_on tb_4 (i := 20) (by decide +kernel) (by decide +kernel)
theorem bw_741 : Cond.code yX11_isIn cX11_isIn 2 (some .boolean) ∈ BW := bw_on tb_4 (i := 21) (by decide +kernel) (by decide +kernel)
theorem bw_742 : Cond.methodLink RX4 82 yX4_readReader ∈ BW := bw_on tb_4 (i := 22) (by decide +kernel) (by decide +kernel)
theorem bw_744 : Cond.instanceMethod yX4_readReader ∈ BW := bw_on tb_4 (i := 24) (by decide +kernel) (by decide +kernel)
theorem bw_745 : Cond.code yX4_readReader cX4_readReader 3 (some .boolean) ∈ BW := bw_on tb_4 (i := 25) (by decide +kernel) (by decide +kernel)
theorem bw_746 : Cond.methodLink RX4 85 yX4_readWord ∈ BW := bw_on tb_4 (i := 26) (by decide +kernel) (by decide +kernel)
theorem bw_748 : Cond.instanceMethod yX4_readWord ∈ BW := bw_on tb_4 (i := 28) (by decide +kernel) (by decide +kernel)
theorem bw_749 : Cond.code yX4_readWord cX4_readWord 4 (some .boolean) ∈ BW := bw_on tb_4 (i := 29) (by decide +kernel) (by decide +kernel)
theorem bw_750 : Cond.methodLink RX11 167 yX0_countOf ∈ BW := bw_on tb_4 (i := 30) (by decide +kernel) (by decide +kernel)
theorem bw_751 : Cond.methodLink RX11 170 yX11_textRead ∈ BW := bw_on tb_4 (i := 31) (by decide +kernel) (by decide +kernel)
theorem bw_753 : Cond.instanceMethod yX11_textRead ∈ BW := bw_on tb_4 (i := 33) (by decide +kernel) (by decide +kernel)
theorem bw_754 : Cond.code yX11_textRead cX11_textRead 3 (some .int) ∈ BW := bw_on tb_4 (i := 34) (by decide +kernel) (by decide +kernel)
theorem bw_755 : Cond.methodLink RX11 191 yX11_given ∈ BW := bw_on tb_4 (i := 35) (by decide +kernel) (by decide +kernel)
theorem bw_757 : Cond.instanceMethod yX11_given ∈ BW := bw_on tb_4 (i := 37) (by decide +kernel) (by decide +kernel)
theorem bw_758 : Cond.code yX11_given cX11_given 2 (some .int) ∈ BW := bw_on tb_4 (i := 38) (by decide +kernel) (by decide +kernel)
theorem bw_760 : Cond.instanceMethod yX11_weeks ∈ BW := bw_on tb_4 (i := 40) (by decide +kernel) (by decide +kernel)
theorem bw_761 : Cond.selects RX11 yX11_weeks yX11_weeks ∈ BW := bw_on tb_4 (i := 41) (by decide +kernel) (by decide +kernel)
theorem bw_762 : Cond.code yX11_weeks cX11_weeks 3 (some .int) ∈ BW := bw_on tb_4 (i := 42) (by decide +kernel) (by decide +kernel)
theorem bw_763 : Cond.methodLink RX11 178 yX4_readWeeks ∈ BW := bw_on tb_4 (i := 43) (by decide +kernel) (by decide +kernel)
theorem bw_764 : Cond.instanceMethod yX4_readWeeks ∈ BW := bw_on tb_4 (i := 44) (by decide +kernel) (by decide +kernel)
theorem bw_765 : Cond.selects RX4 yX4_readWeeks yX4_readWeeks ∈ BW := bw_on tb_4 (i := 45) (by decide +kernel) (by decide +kernel)
theorem bw_766 : Cond.code yX4_readWeeks cX4_readWeeks 8 (some .boolean) ∈ BW := bw_on tb_4 (i := 46) (by decide +kernel) (by decide +kernel)
theorem bw_767 : Cond.methodLink RX4 188 yX9_clear ∈ BW := bw_on tb_4 (i := 47) (by decide +kernel) (by decide +kernel)
theorem bw_768 : Cond.methodLink RX4 194 yX4_closeStep ∈ BW := bw_on tb_4 (i := 48) (by decide +kernel) (by decide +kernel)
theorem bw_770 : Cond.instanceMethod yX4_closeStep ∈ BW := bw_on tb_4 (i := 50) (by decide +kernel) (by decide +kernel)
theorem bw_771 : Cond.code yX4_closeStep cX4_closeStep 2 (some .boolean) ∈ BW := bw_on tb_4 (i := 51) (by decide +kernel) (by decide +kernel)
theorem bw_773 : Cond.methodLink RX4 214 yX9_putCell ∈ BW := bw_on tb_4 (i := 53) (by decide +kernel) (by decide +kernel)
theorem bw_774 : Cond.instanceMethod yX9_putCell ∈ BW := bw_on tb_4 (i := 54) (by decide +kernel) (by decide +kernel)
theorem bw_775 : Cond.selects RX9 yX9_putCell yX9_putCell ∈ BW := bw_on tb_4 (i := 55) (by decide +kernel) (by decide +kernel)
theorem bw_776 : Cond.code yX9_putCell cX9_putCell 4 none ∈ BW := bw_on tb_4 (i := 56) (by decide +kernel) (by decide +kernel)
theorem bw_778 : Cond.methodLink RX4 198 yX4_beginStep ∈ BW := bw_on tb_4 (i := 58) (by decide +kernel) (by decide +kernel)
theorem bw_780 : Cond.instanceMethod yX4_beginStep ∈ BW := bw_on tb_4 (i := 60) (by decide +kernel) (by decide +kernel)
theorem bw_781 : Cond.code yX4_beginStep cX4_beginStep 5 (some .boolean) ∈ BW := bw_on tb_4 (i := 61) (by decide +kernel) (by decide +kernel)
theorem bw_782 : Cond.methodLink RX4 202 yX4_readStep ∈ BW := bw_on tb_4 (i := 62) (by decide +kernel) (by decide +kernel)
theorem bw_784 : Cond.instanceMethod yX4_readStep ∈ BW := bw_on tb_4 (i := 64) (by decide +kernel) (by decide +kernel)
theorem bw_785 : Cond.code yX4_readStep cX4_readStep 5 (some .boolean) ∈ BW := bw_on tb_4 (i := 65) (by decide +kernel) (by decide +kernel)
theorem bw_786 : Cond.methodLink RX4 218 yX4_keepFound ∈ BW := bw_on tb_4 (i := 66) (by decide +kernel) (by decide +kernel)
theorem bw_788 : Cond.instanceMethod yX4_keepFound ∈ BW := bw_on tb_4 (i := 68) (by decide +kernel) (by decide +kernel)
theorem bw_789 : Cond.code yX4_keepFound cX4_keepFound 4 (some .boolean) ∈ BW := bw_on tb_4 (i := 69) (by decide +kernel) (by decide +kernel)
theorem bw_790 : Cond.methodLink RX4 222 yX4_readTest ∈ BW := bw_on tb_4 (i := 70) (by decide +kernel) (by decide +kernel)
theorem bw_792 : Cond.instanceMethod yX4_readTest ∈ BW := bw_on tb_4 (i := 72) (by decide +kernel) (by decide +kernel)
theorem bw_793 : Cond.code yX4_readTest cX4_readTest 5 (some .boolean) ∈ BW := bw_on tb_4 (i := 73) (by decide +kernel) (by decide +kernel)
theorem bw_794 : Cond.methodLink RX11 182 yX9_copyFrom ∈ BW := bw_on tb_4 (i := 74) (by decide +kernel) (by decide +kernel)
theorem bw_795 : Cond.instanceMethod yX9_copyFrom ∈ BW := bw_on tb_4 (i := 75) (by decide +kernel) (by decide +kernel)
theorem bw_796 : Cond.selects RX9 yX9_copyFrom yX9_copyFrom ∈ BW := bw_on tb_4 (i := 76) (by decide +kernel) (by decide +kernel)
theorem bw_797 : Cond.code yX9_copyFrom cX9_copyFrom 2 none ∈ BW := bw_on tb_4 (i := 77) (by decide +kernel) (by decide +kernel)
theorem bw_799 : Cond.static yX11_copyRow ∈ BW := bw_on tb_4 (i := 79) (by decide +kernel) (by decide +kernel)
theorem bw_800 : Cond.code yX11_copyRow cX11_copyRow 3 none ∈ BW := bw_on tb_4 (i := 80) (by decide +kernel) (by decide +kernel)
theorem bw_802 : Cond.instanceMethod yX11_fault ∈ BW := bw_on tb_4 (i := 82) (by decide +kernel) (by decide +kernel)
theorem bw_803 : Cond.selects RX11 yX11_fault yX11_fault ∈ BW := bw_on tb_4 (i := 83) (by decide +kernel) (by decide +kernel)
theorem bw_804 : Cond.code yX11_fault cX11_fault 2 (some .int) ∈ BW := bw_on tb_4 (i := 84) (by decide +kernel) (by decide +kernel)
theorem bw_806 : Cond.instanceMethod yX11_told ∈ BW := bw_on tb_4 (i := 86) (by decide +kernel) (by decide +kernel)
theorem bw_807 : Cond.selects RX11 yX11_told yX11_told ∈ BW := bw_on tb_4 (i := 87) (by decide +kernel) (by decide +kernel)
theorem bw_808 : Cond.code yX11_told cX11_told 2 (some .int) ∈ BW := bw_on tb_4 (i := 88) (by decide +kernel) (by decide +kernel)
theorem bw_809 : Cond.methodLink RX11 200 yX0_setOfFate ∈ BW := bw_on tb_4 (i := 89) (by decide +kernel) (by decide +kernel)
theorem bw_810 : Cond.instanceMethod yX0_setOfFate ∈ BW := bw_on tb_4 (i := 90) (by decide +kernel) (by decide +kernel)
theorem bw_811 : Cond.selects RX0 yX0_setOfFate yX0_setOfFate ∈ BW := bw_on tb_4 (i := 91) (by decide +kernel) (by decide +kernel)
theorem bw_812 : Cond.code yX0_setOfFate cX0_setOfFate 4 (some .int) ∈ BW := bw_on tb_4 (i := 92) (by decide +kernel) (by decide +kernel)
theorem bw_813 : Cond.methodLink RX0 89 yX0_personAt ∈ BW := bw_on tb_4 (i := 93) (by decide +kernel) (by decide +kernel)
theorem bw_814 : Cond.methodLink RX11 203 yX0_guiltySet ∈ BW := bw_on tb_4 (i := 94) (by decide +kernel) (by decide +kernel)
theorem bw_815 : Cond.instanceMethod yX0_guiltySet ∈ BW := bw_on tb_4 (i := 95) (by decide +kernel) (by decide +kernel)
theorem bw_816 : Cond.selects RX0 yX0_guiltySet yX0_guiltySet ∈ BW := bw_on tb_4 (i := 96) (by decide +kernel) (by decide +kernel)
theorem bw_817 : Cond.code yX0_guiltySet cX0_guiltySet 3 (some .int) ∈ BW := bw_on tb_4 (i := 97) (by decide +kernel) (by decide +kernel)
theorem bw_818 : Cond.methodLink RX11 207 yX11_setOfAll ∈ BW := bw_on tb_4 (i := 98) (by decide +kernel) (by decide +kernel)
theorem bw_819 : Cond.static yX11_setOfAll ∈ BW := bw_on tb_4 (i := 99) (by decide +kernel) (by decide +kernel)
theorem bw_820 : Cond.code yX11_setOfAll cX11_setOfAll 1 (some .int) ∈ BW := bw_on tb_4 (i := 100) (by decide +kernel) (by decide +kernel)
theorem bw_821 : Cond.methodLink RX11 210 yX0_votesOf ∈ BW := bw_on tb_4 (i := 101) (by decide +kernel) (by decide +kernel)
theorem bw_822 : Cond.instanceMethod yX0_votesOf ∈ BW := bw_on tb_4 (i := 102) (by decide +kernel) (by decide +kernel)
theorem bw_823 : Cond.selects RX0 yX0_votesOf yX0_votesOf ∈ BW := bw_on tb_4 (i := 103) (by decide +kernel) (by decide +kernel)
theorem bw_824 : Cond.code yX0_votesOf cX0_votesOf 4 (some .int) ∈ BW := bw_on tb_4 (i := 104) (by decide +kernel) (by decide +kernel)
theorem bw_827 : Cond.instanceMethod yX11_sense ∈ BW := bw_on tb_4 (i := 107) (by decide +kernel) (by decide +kernel)
theorem bw_828 : Cond.selects RX11 yX11_sense yX11_sense ∈ BW := bw_on tb_4 (i := 108) (by decide +kernel) (by decide +kernel)
theorem bw_829 : Cond.code yX11_sense cX11_sense 2 (some .int) ∈ BW := bw_on tb_4 (i := 109) (by decide +kernel) (by decide +kernel)
theorem bw_830 : Cond.methodLink RX11 213 yX0_has ∈ BW := bw_on tb_4 (i := 110) (by decide +kernel) (by decide +kernel)
theorem bw_831 : Cond.instanceMethod yX0_has ∈ BW := bw_on tb_4 (i := 111) (by decide +kernel) (by decide +kernel)
theorem bw_832 : Cond.selects RX0 yX0_has yX0_has ∈ BW := bw_on tb_4 (i := 112) (by decide +kernel) (by decide +kernel)
theorem bw_833 : Cond.code yX0_has cX0_has 3 (some .boolean) ∈ BW := bw_on tb_4 (i := 113) (by decide +kernel) (by decide +kernel)
theorem bw_834 : Cond.methodLink RX11 216 yX0_senseOf ∈ BW := bw_on tb_4 (i := 114) (by decide +kernel) (by decide +kernel)
theorem bw_835 : Cond.instanceMethod yX0_senseOf ∈ BW := bw_on tb_4 (i := 115) (by decide +kernel) (by decide +kernel)
theorem bw_836 : Cond.selects RX0 yX0_senseOf yX0_senseOf ∈ BW := bw_on tb_4 (i := 116) (by decide +kernel) (by decide +kernel)
theorem bw_837 : Cond.code yX0_senseOf cX0_senseOf 2 (some .int) ∈ BW := bw_on tb_4 (i := 117) (by decide +kernel) (by decide +kernel)
theorem bw_838 : Cond.methodLink RX0 137 yX0_has ∈ BW := bw_on tb_4 (i := 118) (by decide +kernel) (by decide +kernel)
theorem bw_840 : Cond.instanceMethod yX11_rule ∈ BW := bw_on tb_4 (i := 120) (by decide +kernel) (by decide +kernel)
theorem bw_841 : Cond.selects RX11 yX11_rule yX11_rule ∈ BW := bw_on tb_4 (i := 121) (by decide +kernel) (by decide +kernel)
theorem bw_842 : Cond.code yX11_rule cX11_rule 4 (some .int) ∈ BW := bw_on tb_4 (i := 122) (by decide +kernel) (by decide +kernel)
theorem bw_843 : Cond.methodLink RX11 219 yX0_ruleAt ∈ BW := bw_on tb_4 (i := 123) (by decide +kernel) (by decide +kernel)
theorem bw_844 : Cond.methodLink RX11 223 yX6_partOf ∈ BW := bw_on tb_4 (i := 124) (by decide +kernel) (by decide +kernel)
theorem bw_845 : Cond.instanceMethod yX6_partOf ∈ BW := bw_on tb_4 (i := 125) (by decide +kernel) (by decide +kernel)
theorem bw_846 : Cond.selects RX6 yX6_partOf yX6_partOf ∈ BW := bw_on tb_4 (i := 126) (by decide +kernel) (by decide +kernel)
theorem bw_847 : Cond.code yX6_partOf cX6_partOf 2 (some .int) ∈ BW := bw_on tb_4 (i := 127) (by decide +kernel) (by decide +kernel)
theorem bw_849 : Cond.instanceMethod yX11_person ∈ BW := bw_on tb_4 (i := 129) (by decide +kernel) (by decide +kernel)
theorem bw_850 : Cond.selects RX11 yX11_person yX11_person ∈ BW := bw_on tb_4 (i := 130) (by decide +kernel) (by decide +kernel)
theorem bw_851 : Cond.code yX11_person cX11_person 4 (some .int) ∈ BW := bw_on tb_4 (i := 131) (by decide +kernel) (by decide +kernel)
theorem bw_852 : Cond.methodLink RX11 228 yX0_personAt ∈ BW := bw_on tb_4 (i := 132) (by decide +kernel) (by decide +kernel)
theorem bw_854 : Cond.instanceMethod yX11_reader ∈ BW := bw_on tb_4 (i := 134) (by decide +kernel) (by decide +kernel)
theorem bw_855 : Cond.selects RX11 yX11_reader yX11_reader ∈ BW := bw_on tb_4 (i := 135) (by decide +kernel) (by decide +kernel)
theorem bw_856 : Cond.code yX11_reader cX11_reader 3 (some .int) ∈ BW := bw_on tb_4 (i := 136) (by decide +kernel) (by decide +kernel)
theorem bw_857 : Cond.methodLink RX11 254 yX11_cell ∈ BW := bw_on tb_4 (i := 137) (by decide +kernel) (by decide +kernel)
theorem bw_859 : Cond.instanceMethod yX11_word ∈ BW := bw_on tb_4 (i := 139) (by decide +kernel) (by decide +kernel)
theorem bw_860 : Cond.selects RX11 yX11_word yX11_word ∈ BW := bw_on tb_4 (i := 140) (by decide +kernel) (by decide +kernel)
theorem bw_861 : Cond.code yX11_word cX11_word 3 (some .int) ∈ BW := bw_on tb_4 (i := 141) (by decide +kernel) (by decide +kernel)
theorem bw_863 : Cond.instanceMethod yX11_sit ∈ BW := bw_on tb_4 (i := 143) (by decide +kernel) (by decide +kernel)
theorem bw_864 : Cond.selects RX11 yX11_sit yX11_sit ∈ BW := bw_on tb_4 (i := 144) (by decide +kernel) (by decide +kernel)
theorem bw_865 : Cond.code yX11_sit cX11_sit 2 (some .int) ∈ BW := bw_on tb_4 (i := 145) (by decide +kernel) (by decide +kernel)
theorem bw_866 : Cond.methodLink RX11 264 yX0_hasRoomFor ∈ BW := bw_on tb_4 (i := 146) (by decide +kernel) (by decide +kernel)
theorem bw_867 : Cond.instanceMethod yX0_hasRoomFor ∈ BW := bw_on tb_4 (i := 147) (by decide +kernel) (by decide +kernel)
theorem bw_868 : Cond.selects RX0 yX0_hasRoomFor yX0_hasRoomFor ∈ BW := bw_on tb_4 (i := 148) (by decide +kernel) (by decide +kernel)
theorem bw_869 : Cond.code yX0_hasRoomFor cX0_hasRoomFor 2 (some .boolean) ∈ BW := bw_on tb_4 (i := 149) (by decide +kernel) (by decide +kernel)
theorem bw_870 : Cond.methodLink RX11 267 yX0_sitBefore ∈ BW := bw_on tb_4 (i := 150) (by decide +kernel) (by decide +kernel)
theorem bw_871 : Cond.instanceMethod yX0_sitBefore ∈ BW := bw_on tb_4 (i := 151) (by decide +kernel) (by decide +kernel)
theorem bw_872 : Cond.selects RX0 yX0_sitBefore yX0_sitBefore ∈ BW := bw_on tb_4 (i := 152) (by decide +kernel) (by decide +kernel)
theorem bw_873 : Cond.code yX0_sitBefore cX0_sitBefore 3 (some .int) ∈ BW := bw_on tb_4 (i := 153) (by decide +kernel) (by decide +kernel)
theorem bw_874 : Cond.methodLink RX0 154 yX0_cueBefore ∈ BW := bw_on tb_4 (i := 154) (by decide +kernel) (by decide +kernel)
theorem bw_875 : Cond.instanceMethod yX0_cueBefore ∈ BW := bw_on tb_4 (i := 155) (by decide +kernel) (by decide +kernel)
theorem bw_876 : Cond.selects RX0 yX0_cueBefore yX0_cueBefore ∈ BW := bw_on tb_4 (i := 156) (by decide +kernel) (by decide +kernel)
theorem bw_877 : Cond.code yX0_cueBefore cX0_cueBefore 5 (some .int) ∈ BW := bw_on tb_4 (i := 157) (by decide +kernel) (by decide +kernel)
theorem bw_878 : Cond.methodLink RX0 144 yX0_ruleFor ∈ BW := bw_on tb_4 (i := 158) (by decide +kernel) (by decide +kernel)
theorem bw_879 : Cond.instanceMethod yX0_ruleFor ∈ BW := bw_on tb_4 (i := 159) (by decide +kernel) (by decide +kernel)
theorem bw_880 : Cond.selects RX0 yX0_ruleFor yX0_ruleFor ∈ BW := bw_on tb_4 (i := 160) (by decide +kernel) (by decide +kernel)
theorem bw_881 : Cond.code yX0_ruleFor cX0_ruleFor 6 (some .int) ∈ BW := bw_on tb_4 (i := 161) (by decide +kernel) (by decide +kernel)
theorem bw_882 : Cond.methodLink RX0 81 yX0_ruleAt ∈ BW := bw_on tb_4 (i := 162) (by decide +kernel) (by decide +kernel)
theorem bw_883 : Cond.methodLink RX0 140 yX6_bearsOn ∈ BW := bw_on tb_4 (i := 163) (by decide +kernel) (by decide +kernel)
theorem bw_884 : Cond.instanceMethod yX6_bearsOn ∈ BW := bw_on tb_4 (i := 164) (by decide +kernel) (by decide +kernel)
theorem bw_885 : Cond.selects RX6 yX6_bearsOn yX6_bearsOn ∈ BW := bw_on tb_4 (i := 165) (by decide +kernel) (by decide +kernel)
theorem bw_886 : Cond.code yX6_bearsOn cX6_bearsOn 5 (some .boolean) ∈ BW := bw_on tb_4 (i := 166) (by decide +kernel) (by decide +kernel)
theorem bw_887 : Cond.methodLink RX0 173 Lib.Math.min.name ∈ BW := bw_on tb_4 (i := 167) (by decide +kernel) (by decide +kernel)
theorem bw_888 : Cond.static Lib.Math.min.name ∈ BW := bw_on tb_4 (i := 168) (by decide +kernel) (by decide +kernel)
theorem bw_889 : Cond.code Lib.Math.min.name Lib.Math.min.code 2 (some .int) ∈ BW := bw_on tb_4 (i := 169) (by decide +kernel) (by decide +kernel)
theorem bw_891 : Cond.instanceMethod yX11_term ∈ BW := bw_on tb_4 (i := 171) (by decide +kernel) (by decide +kernel)
theorem bw_892 : Cond.selects RX11 yX11_term yX11_term ∈ BW := bw_on tb_4 (i := 172) (by decide +kernel) (by decide +kernel)
theorem bw_893 : Cond.code yX11_term cX11_term 2 (some .int) ∈ BW := bw_on tb_4 (i := 173) (by decide +kernel) (by decide +kernel)
theorem bw_894 : Cond.methodLink RX11 270 yJ6_bitCount_0f7a4 ∈ BW := bw_on tb_4 (i := 174) (by decide +kernel) (by decide +kernel)
theorem bw_895 : Cond.static yJ6_bitCount_0f7a4 ∈ BW := bw_on tb_4 (i := 175) (by decide +kernel) (by decide +kernel)
theorem bw_896 : Cond.code yJ6_bitCount_0f7a4 cJ6_bitCount_0f7a4 1 (some .int) ∈ BW := bw_on tb_4 (i := 176) (by decide +kernel) (by decide +kernel)
theorem bw_897 : Cond.constant RJ6 265 (1431655765) ∈ BW := bw_on tb_4 (i := 177) (by decide +kernel) (by decide +kernel)
theorem bw_898 : Cond.constant RJ6 266 (858993459) ∈ BW := bw_on tb_4 (i := 178) (by decide +kernel) (by decide +kernel)
theorem bw_899 : Cond.constant RJ6 267 (252645135) ∈ BW := bw_on tb_4 (i := 179) (by decide +kernel) (by decide +kernel)
theorem bw_900 : Cond.methodLink RX11 275 yX0_holdTerm ∈ BW := bw_on tb_4 (i := 180) (by decide +kernel) (by decide +kernel)
theorem bw_901 : Cond.instanceMethod yX0_holdTerm ∈ BW := bw_on tb_4 (i := 181) (by decide +kernel) (by decide +kernel)
theorem bw_902 : Cond.selects RX0 yX0_holdTerm yX0_holdTerm ∈ BW := bw_on tb_4 (i := 182) (by decide +kernel) (by decide +kernel)
theorem bw_903 : Cond.code yX0_holdTerm cX0_holdTerm 5 (some .int) ∈ BW := bw_on tb_4 (i := 183) (by decide +kernel) (by decide +kernel)
theorem bw_904 : Cond.methodLink RX0 179 yX0_sitBefore ∈ BW := bw_on tb_4 (i := 184) (by decide +kernel) (by decide +kernel)
theorem bw_905 : Cond.methodLink RX0 158 yX0_senseOf ∈ BW := bw_on tb_4 (i := 185) (by decide +kernel) (by decide +kernel)
theorem bw_907 : Cond.instanceMethod yX11_meal ∈ BW := bw_on tb_4 (i := 187) (by decide +kernel) (by decide +kernel)
theorem bw_908 : Cond.selects RX11 yX11_meal yX11_meal ∈ BW := bw_on tb_4 (i := 188) (by decide +kernel) (by decide +kernel)
theorem bw_909 : Cond.code yX11_meal cX11_meal 3 (some .int) ∈ BW := bw_on tb_4 (i := 189) (by decide +kernel) (by decide +kernel)
theorem bw_910 : Cond.methodLink RX11 278 yX0_feedPerson ∈ BW := bw_on tb_4 (i := 190) (by decide +kernel) (by decide +kernel)
theorem bw_911 : Cond.instanceMethod yX0_feedPerson ∈ BW := bw_on tb_4 (i := 191) (by decide +kernel) (by decide +kernel)
theorem bw_912 : Cond.selects RX0 yX0_feedPerson yX0_feedPerson ∈ BW := bw_on tb_4 (i := 192) (by decide +kernel) (by decide +kernel)
theorem bw_913 : Cond.code yX0_feedPerson cX0_feedPerson 4 (some .boolean) ∈ BW := bw_on tb_4 (i := 193) (by decide +kernel) (by decide +kernel)
theorem bw_915 : Cond.instanceMethod yX11_scent ∈ BW := bw_on tb_4 (i := 195) (by decide +kernel) (by decide +kernel)
theorem bw_916 : Cond.selects RX11 yX11_scent yX11_scent ∈ BW := bw_on tb_4 (i := 196) (by decide +kernel) (by decide +kernel)
theorem bw_917 : Cond.code yX11_scent cX11_scent 4 (some .boolean) ∈ BW := bw_on tb_4 (i := 197) (by decide +kernel) (by decide +kernel)
theorem bw_918 : Cond.methodLink RX11 281 yX0_setSmell ∈ BW := bw_on tb_4 (i := 198) (by decide +kernel) (by decide +kernel)
theorem bw_919 : Cond.instanceMethod yX0_setSmell ∈ BW := bw_on tb_4 (i := 199) (by decide +kernel) (by decide +kernel)
theorem bw_920 : Cond.selects RX0 yX0_setSmell yX0_setSmell ∈ BW := bw_on tb_4 (i := 200) (by decide +kernel) (by decide +kernel)
theorem bw_921 : Cond.code yX0_setSmell cX0_setSmell 5 (some .boolean) ∈ BW := bw_on tb_4 (i := 201) (by decide +kernel) (by decide +kernel)
theorem bw_923 : Cond.instanceMethod yX11_night ∈ BW := bw_on tb_4 (i := 203) (by decide +kernel) (by decide +kernel)
theorem bw_924 : Cond.selects RX11 yX11_night yX11_night ∈ BW := bw_on tb_4 (i := 204) (by decide +kernel) (by decide +kernel)
theorem bw_925 : Cond.code yX11_night cX11_night 2 (some .int) ∈ BW := bw_on tb_4 (i := 205) (by decide +kernel) (by decide +kernel)
theorem bw_926 : Cond.methodLink RX11 285 yX0_coolDown ∈ BW := bw_on tb_4 (i := 206) (by decide +kernel) (by decide +kernel)
theorem bw_927 : Cond.instanceMethod yX0_coolDown ∈ BW := bw_on tb_4 (i := 207) (by decide +kernel) (by decide +kernel)
theorem bw_928 : Cond.selects RX0 yX0_coolDown yX0_coolDown ∈ BW := bw_on tb_4 (i := 208) (by decide +kernel) (by decide +kernel)
theorem bw_929 : Cond.code yX0_coolDown cX0_coolDown 2 (some .boolean) ∈ BW := bw_on tb_4 (i := 209) (by decide +kernel) (by decide +kernel)
theorem bw_931 : Cond.instanceMethod yX11_appeal ∈ BW := bw_on tb_4 (i := 211) (by decide +kernel) (by decide +kernel)
theorem bw_932 : Cond.selects RX11 yX11_appeal yX11_appeal ∈ BW := bw_on tb_4 (i := 212) (by decide +kernel) (by decide +kernel)
theorem bw_933 : Cond.code yX11_appeal cX11_appeal 4 (some .int) ∈ BW := bw_on tb_4 (i := 213) (by decide +kernel) (by decide +kernel)
theorem bw_935 : Cond.instanceMethod yX11_blame ∈ BW := bw_on tb_4 (i := 215) (by decide +kernel) (by decide +kernel)
theorem bw_936 : Cond.selects RX11 yX11_blame yX11_blame ∈ BW := bw_on tb_4 (i := 216) (by decide +kernel) (by decide +kernel)
theorem bw_937 : Cond.code yX11_blame cX11_blame 5 (some .boolean) ∈ BW := bw_on tb_4 (i := 217) (by decide +kernel) (by decide +kernel)
theorem bw_939 : Cond.instanceMethod yX11_reread ∈ BW := bw_on tb_4 (i := 219) (by decide +kernel) (by decide +kernel)
theorem bw_940 : Cond.selects RX11 yX11_reread yX11_reread ∈ BW := bw_on tb_4 (i := 220) (by decide +kernel) (by decide +kernel)
theorem bw_941 : Cond.code yX11_reread cX11_reread 3 (some .boolean) ∈ BW := bw_on tb_4 (i := 221) (by decide +kernel) (by decide +kernel)
theorem bw_942 : Cond.methodLink RX11 291 yX11_put ∈ BW := bw_on tb_4 (i := 222) (by decide +kernel) (by decide +kernel)
theorem bw_944 : Cond.instanceMethod yX11_enact ∈ BW := bw_on tb_4 (i := 224) (by decide +kernel) (by decide +kernel)
theorem bw_945 : Cond.selects RX11 yX11_enact yX11_enact ∈ BW := bw_on tb_4 (i := 225) (by decide +kernel) (by decide +kernel)
theorem bw_946 : Cond.code yX11_enact cX11_enact 7 (some .int) ∈ BW := bw_on tb_4 (i := 226) (by decide +kernel) (by decide +kernel)
theorem bw_947 : Cond.methodLink RX11 295 yX0_isFull ∈ BW := bw_on tb_4 (i := 227) (by decide +kernel) (by decide +kernel)
theorem bw_948 : Cond.methodLink RX11 298 yX0_addOne ∈ BW := bw_on tb_4 (i := 228) (by decide +kernel) (by decide +kernel)
theorem bw_949 : Cond.methodLink RX11 301 yX6_renew ∈ BW := bw_on tb_4 (i := 229) (by decide +kernel) (by decide +kernel)
theorem bw_951 : Cond.instanceMethod yX11_repeal ∈ BW := bw_on tb_4 (i := 231) (by decide +kernel) (by decide +kernel)
theorem bw_952 : Cond.selects RX11 yX11_repeal yX11_repeal ∈ BW := bw_on tb_4 (i := 232) (by decide +kernel) (by decide +kernel)
theorem bw_953 : Cond.code yX11_repeal cX11_repeal 2 (some .int) ∈ BW := bw_on tb_4 (i := 233) (by decide +kernel) (by decide +kernel)
theorem bw_954 : Cond.methodLink RX11 307 yX0_dropRule ∈ BW := bw_on tb_4 (i := 234) (by decide +kernel) (by decide +kernel)
theorem bw_955 : Cond.instanceMethod yX0_dropRule ∈ BW := bw_on tb_4 (i := 235) (by decide +kernel) (by decide +kernel)
theorem bw_956 : Cond.selects RX0 yX0_dropRule yX0_dropRule ∈ BW := bw_on tb_4 (i := 236) (by decide +kernel) (by decide +kernel)
theorem bw_957 : Cond.code yX0_dropRule cX0_dropRule 3 none ∈ BW := bw_on tb_4 (i := 237) (by decide +kernel) (by decide +kernel)
theorem bw_958 : Cond.methodLink RX0 85 yX6_copyFrom ∈ BW := bw_on tb_4 (i := 238) (by decide +kernel) (by decide +kernel)
theorem bw_959 : Cond.instanceMethod yX6_copyFrom ∈ BW := bw_on tb_4 (i := 239) (by decide +kernel) (by decide +kernel)
theorem bw_960 : Cond.selects RX6 yX6_copyFrom yX6_copyFrom ∈ BW := bw_on tb_5 (i := 0) (by decide +kernel) (by decide +kernel)
theorem bw_961 : Cond.code yX6_copyFrom cX6_copyFrom 2 none ∈ BW := bw_on tb_5 (i := 1) (by decide +kernel) (by decide +kernel)
theorem bw_963 : Cond.instanceMethod yX11_strain ∈ BW := bw_on tb_5 (i := 3) (by decide +kernel) (by decide +kernel)
theorem bw_964 : Cond.selects RX11 yX11_strain yX11_strain ∈ BW := bw_on tb_5 (i := 4) (by decide +kernel) (by decide +kernel)
theorem bw_965 : Cond.code yX11_strain cX11_strain 3 (some .boolean) ∈ BW := bw_on tb_5 (i := 5) (by decide +kernel) (by decide +kernel)
theorem bw_967 : Cond.instanceMethod yX11_cue ∈ BW := bw_on tb_5 (i := 7) (by decide +kernel) (by decide +kernel)
theorem bw_968 : Cond.selects RX11 yX11_cue yX11_cue ∈ BW := bw_on tb_5 (i := 8) (by decide +kernel) (by decide +kernel)
theorem bw_969 : Cond.code yX11_cue cX11_cue 2 (some .int) ∈ BW := bw_on tb_5 (i := 9) (by decide +kernel) (by decide +kernel)
theorem bw_970 : Cond.methodLink RX11 310 yX11_cueAt ∈ BW := bw_on tb_5 (i := 10) (by decide +kernel) (by decide +kernel)
theorem bw_971 : Cond.instanceMethod yX11_cueAt ∈ BW := bw_on tb_5 (i := 11) (by decide +kernel) (by decide +kernel)
theorem bw_972 : Cond.selects RX11 yX11_cueAt yX11_cueAt ∈ BW := bw_on tb_5 (i := 12) (by decide +kernel) (by decide +kernel)
theorem bw_973 : Cond.code yX11_cueAt cX11_cueAt 4 (some .int) ∈ BW := bw_on tb_5 (i := 13) (by decide +kernel) (by decide +kernel)
theorem bw_974 : Cond.methodLink RX11 313 yX0_cueBefore ∈ BW := bw_on tb_5 (i := 14) (by decide +kernel) (by decide +kernel)
theorem bw_977 : Cond.instanceMethod yX11_bears ∈ BW := bw_on tb_5 (i := 17) (by decide +kernel) (by decide +kernel)
theorem bw_978 : Cond.selects RX11 yX11_bears yX11_bears ∈ BW := bw_on tb_5 (i := 18) (by decide +kernel) (by decide +kernel)
theorem bw_979 : Cond.code yX11_bears cX11_bears 4 (some .int) ∈ BW := bw_on tb_5 (i := 19) (by decide +kernel) (by decide +kernel)
theorem bw_980 : Cond.methodLink RX11 316 yX0_ruleFor ∈ BW := bw_on tb_5 (i := 20) (by decide +kernel) (by decide +kernel)
theorem bw_982 : Cond.instanceMethod yX11_bearing ∈ BW := bw_on tb_5 (i := 22) (by decide +kernel) (by decide +kernel)
theorem bw_983 : Cond.selects RX11 yX11_bearing yX11_bearing ∈ BW := bw_on tb_5 (i := 23) (by decide +kernel) (by decide +kernel)
theorem bw_984 : Cond.code yX11_bearing cX11_bearing 5 (some .int) ∈ BW := bw_on tb_5 (i := 24) (by decide +kernel) (by decide +kernel)
theorem bw_985 : Cond.methodLink RX11 320 yX6_bearsOn ∈ BW := bw_on tb_5 (i := 25) (by decide +kernel) (by decide +kernel)
theorem bw_987 : Cond.instanceMethod yX11_shown ∈ BW := bw_on tb_5 (i := 27) (by decide +kernel) (by decide +kernel)
theorem bw_988 : Cond.selects RX11 yX11_shown yX11_shown ∈ BW := bw_on tb_5 (i := 28) (by decide +kernel) (by decide +kernel)
theorem bw_989 : Cond.code yX11_shown cX11_shown 4 (some .int) ∈ BW := bw_on tb_5 (i := 29) (by decide +kernel) (by decide +kernel)
theorem bw_991 : Cond.instanceMethod yX11_freeIn ∈ BW := bw_on tb_5 (i := 31) (by decide +kernel) (by decide +kernel)
theorem bw_992 : Cond.selects RX11 yX11_freeIn yX11_freeIn ∈ BW := bw_on tb_5 (i := 32) (by decide +kernel) (by decide +kernel)
theorem bw_993 : Cond.code yX11_freeIn cX11_freeIn 3 (some .int) ∈ BW := bw_on tb_5 (i := 33) (by decide +kernel) (by decide +kernel)
theorem bw_994 : Cond.methodLink RX11 324 yX0_copyFrom ∈ BW := bw_on tb_5 (i := 34) (by decide +kernel) (by decide +kernel)
theorem bw_995 : Cond.instanceMethod yX0_copyFrom ∈ BW := bw_on tb_5 (i := 35) (by decide +kernel) (by decide +kernel)
theorem bw_996 : Cond.selects RX0 yX0_copyFrom yX0_copyFrom ∈ BW := bw_on tb_5 (i := 36) (by decide +kernel) (by decide +kernel)
theorem bw_997 : Cond.code yX0_copyFrom cX0_copyFrom 3 none ∈ BW := bw_on tb_5 (i := 37) (by decide +kernel) (by decide +kernel)
theorem bw_999 : Cond.methodLink RX0 93 yX5_copyFrom ∈ BW := bw_on tb_5 (i := 39) (by decide +kernel) (by decide +kernel)
theorem bw_1000 : Cond.instanceMethod yX5_copyFrom ∈ BW := bw_on tb_5 (i := 40) (by decide +kernel) (by decide +kernel)
theorem bw_1001 : Cond.selects RX5 yX5_copyFrom yX5_copyFrom ∈ BW := bw_on tb_5 (i := 41) (by decide +kernel) (by decide +kernel)
theorem bw_1002 : Cond.code yX5_copyFrom cX5_copyFrom 2 none ∈ BW := bw_on tb_5 (i := 42) (by decide +kernel) (by decide +kernel)
theorem bw_1003 : Cond.methodLink RX0 96 yX9_copyFrom ∈ BW := bw_on tb_5 (i := 43) (by decide +kernel) (by decide +kernel)
theorem bw_1005 : Cond.instanceMethod yX11_judgedIn ∈ BW := bw_on tb_5 (i := 45) (by decide +kernel) (by decide +kernel)
theorem bw_1006 : Cond.selects RX11 yX11_judgedIn yX11_judgedIn ∈ BW := bw_on tb_5 (i := 46) (by decide +kernel) (by decide +kernel)
theorem bw_1007 : Cond.code yX11_judgedIn cX11_judgedIn 3 (some .int) ∈ BW := bw_on tb_5 (i := 47) (by decide +kernel) (by decide +kernel)
theorem bw_1009 : Cond.instanceMethod yX11_fits ∈ BW := bw_on tb_5 (i := 49) (by decide +kernel) (by decide +kernel)
theorem bw_1010 : Cond.selects RX11 yX11_fits yX11_fits ∈ BW := bw_on tb_5 (i := 50) (by decide +kernel) (by decide +kernel)
theorem bw_1011 : Cond.code yX11_fits cX11_fits 4 (some .int) ∈ BW := bw_on tb_5 (i := 51) (by decide +kernel) (by decide +kernel)
theorem bw_1012 : Cond.methodLink RX11 327 yX11_readThrees ∈ BW := bw_on tb_5 (i := 52) (by decide +kernel) (by decide +kernel)
theorem bw_1014 : Cond.instanceMethod yX11_readThrees ∈ BW := bw_on tb_5 (i := 54) (by decide +kernel) (by decide +kernel)
theorem bw_1015 : Cond.code yX11_readThrees cX11_readThrees 12 (some .int) ∈ BW := bw_on tb_5 (i := 55) (by decide +kernel) (by decide +kernel)
theorem bw_1016 : Cond.constantLong RX11 440 (9) ∈ BW := bw_on tb_5 (i := 56) (by decide +kernel) (by decide +kernel)
theorem bw_1017 : Cond.methodLink RX11 442 yX11_takeThree ∈ BW := bw_on tb_5 (i := 57) (by decide +kernel) (by decide +kernel)
theorem bw_1019 : Cond.instanceMethod yX11_takeThree ∈ BW := bw_on tb_5 (i := 59) (by decide +kernel) (by decide +kernel)
theorem bw_1020 : Cond.code yX11_takeThree cX11_takeThree 5 none ∈ BW := bw_on tb_5 (i := 60) (by decide +kernel) (by decide +kernel)
theorem bw_1021 : Cond.methodLink RX11 446 yX0_cueFor ∈ BW := bw_on tb_5 (i := 61) (by decide +kernel) (by decide +kernel)
theorem bw_1022 : Cond.instanceMethod yX0_cueFor ∈ BW := bw_on tb_5 (i := 62) (by decide +kernel) (by decide +kernel)
theorem bw_1023 : Cond.selects RX0 yX0_cueFor yX0_cueFor ∈ BW := bw_on tb_5 (i := 63) (by decide +kernel) (by decide +kernel)
theorem bw_1024 : Cond.code yX0_cueFor cX0_cueFor 6 (some .int) ∈ BW := bw_on tb_5 (i := 64) (by decide +kernel) (by decide +kernel)
theorem bw_1025 : Cond.methodLink RX11 330 yX11_ways ∈ BW := bw_on tb_5 (i := 65) (by decide +kernel) (by decide +kernel)
theorem bw_1027 : Cond.instanceMethod yX11_ways ∈ BW := bw_on tb_5 (i := 67) (by decide +kernel) (by decide +kernel)
theorem bw_1028 : Cond.code yX11_ways cX11_ways 1 (some .int) ∈ BW := bw_on tb_5 (i := 68) (by decide +kernel) (by decide +kernel)
theorem bw_1030 : Cond.instanceMethod yX11_sure ∈ BW := bw_on tb_5 (i := 70) (by decide +kernel) (by decide +kernel)
theorem bw_1031 : Cond.selects RX11 yX11_sure yX11_sure ∈ BW := bw_on tb_5 (i := 71) (by decide +kernel) (by decide +kernel)
theorem bw_1032 : Cond.code yX11_sure cX11_sure 5 (some .int) ∈ BW := bw_on tb_5 (i := 72) (by decide +kernel) (by decide +kernel)
theorem bw_1033 : Cond.methodLink RX11 333 yX11_isOpen ∈ BW := bw_on tb_5 (i := 73) (by decide +kernel) (by decide +kernel)
theorem bw_1035 : Cond.instanceMethod yX11_isOpen ∈ BW := bw_on tb_5 (i := 75) (by decide +kernel) (by decide +kernel)
theorem bw_1036 : Cond.code yX11_isOpen cX11_isOpen 2 (some .boolean) ∈ BW := bw_on tb_5 (i := 76) (by decide +kernel) (by decide +kernel)
theorem bw_1037 : Cond.methodLink RX11 336 yX11_isIn ∈ BW := bw_on tb_5 (i := 77) (by decide +kernel) (by decide +kernel)
theorem bw_1039 : Cond.instanceMethod yX11_odds ∈ BW := bw_on tb_5 (i := 79) (by decide +kernel) (by decide +kernel)
theorem bw_1040 : Cond.selects RX11 yX11_odds yX11_odds ∈ BW := bw_on tb_5 (i := 80) (by decide +kernel) (by decide +kernel)
theorem bw_1041 : Cond.code yX11_odds cX11_odds 5 (some .boolean) ∈ BW := bw_on tb_5 (i := 81) (by decide +kernel) (by decide +kernel)
theorem bw_1042 : Cond.constantLong RX11 339 (2) ∈ BW := bw_on tb_5 (i := 82) (by decide +kernel) (by decide +kernel)
theorem bw_1043 : Cond.methodLink RX11 341 yX11_tellFraction ∈ BW := bw_on tb_5 (i := 83) (by decide +kernel) (by decide +kernel)
theorem bw_1045 : Cond.instanceMethod yX11_tellFraction ∈ BW := bw_on tb_5 (i := 85) (by decide +kernel) (by decide +kernel)
theorem bw_1046 : Cond.code yX11_tellFraction cX11_tellFraction 7 (some .boolean) ∈ BW := bw_on tb_5 (i := 86) (by decide +kernel) (by decide +kernel)
theorem bw_1047 : Cond.methodLink RX11 429 yX11_commonDivisor ∈ BW := bw_on tb_5 (i := 87) (by decide +kernel) (by decide +kernel)
theorem bw_1048 : Cond.static yX11_commonDivisor ∈ BW := bw_on tb_5 (i := 88) (by decide +kernel) (by decide +kernel)
theorem bw_1049 : Cond.code yX11_commonDivisor cX11_commonDivisor 11 (some .long) ∈ BW := bw_on tb_5 (i := 89) (by decide +kernel) (by decide +kernel)
theorem bw_1051 : Cond.instanceMethod yX11_ask ∈ BW := bw_on tb_5 (i := 91) (by decide +kernel) (by decide +kernel)
theorem bw_1052 : Cond.selects RX11 yX11_ask yX11_ask ∈ BW := bw_on tb_5 (i := 92) (by decide +kernel) (by decide +kernel)
theorem bw_1053 : Cond.code yX11_ask cX11_ask 6 (some .int) ∈ BW := bw_on tb_5 (i := 93) (by decide +kernel) (by decide +kernel)
theorem bw_1054 : Cond.methodLink RX11 345 yX11_bestQuestion ∈ BW := bw_on tb_5 (i := 94) (by decide +kernel) (by decide +kernel)
theorem bw_1056 : Cond.instanceMethod yX11_bestQuestion ∈ BW := bw_on tb_5 (i := 96) (by decide +kernel) (by decide +kernel)
theorem bw_1057 : Cond.code yX11_bestQuestion cX11_bestQuestion 5 (some .int) ∈ BW := bw_on tb_5 (i := 97) (by decide +kernel) (by decide +kernel)
theorem bw_1059 : Cond.instanceMethod yX11_least ∈ BW := bw_on tb_5 (i := 99) (by decide +kernel) (by decide +kernel)
theorem bw_1060 : Cond.selects RX11 yX11_least yX11_least ∈ BW := bw_on tb_5 (i := 100) (by decide +kernel) (by decide +kernel)
theorem bw_1061 : Cond.code yX11_least cX11_least 4 (some .int) ∈ BW := bw_on tb_5 (i := 101) (by decide +kernel) (by decide +kernel)
theorem bw_1062 : Cond.methodLink RX11 348 yX11_leastPlan ∈ BW := bw_on tb_5 (i := 102) (by decide +kernel) (by decide +kernel)
theorem bw_1064 : Cond.instanceMethod yX11_leastPlan ∈ BW := bw_on tb_5 (i := 104) (by decide +kernel) (by decide +kernel)
theorem bw_1065 : Cond.code yX11_leastPlan cX11_leastPlan 10 (some .int) ∈ BW := bw_on tb_5 (i := 105) (by decide +kernel) (by decide +kernel)
theorem bw_1067 : Cond.instanceMethod yX11_leastBy ∈ BW := bw_on tb_5 (i := 107) (by decide +kernel) (by decide +kernel)
theorem bw_1068 : Cond.selects RX11 yX11_leastBy yX11_leastBy ∈ BW := bw_on tb_5 (i := 108) (by decide +kernel) (by decide +kernel)
theorem bw_1069 : Cond.code yX11_leastBy cX11_leastBy 5 (some .int) ∈ BW := bw_on tb_5 (i := 109) (by decide +kernel) (by decide +kernel)
theorem bw_1071 : Cond.instanceMethod yX11_reach ∈ BW := bw_on tb_5 (i := 111) (by decide +kernel) (by decide +kernel)
theorem bw_1072 : Cond.selects RX11 yX11_reach yX11_reach ∈ BW := bw_on tb_5 (i := 112) (by decide +kernel) (by decide +kernel)
theorem bw_1073 : Cond.code yX11_reach cX11_reach 2 (some .int) ∈ BW := bw_on tb_5 (i := 113) (by decide +kernel) (by decide +kernel)
theorem bw_1074 : Cond.methodLink RX11 351 yX10_countIn ∈ BW := bw_on tb_5 (i := 114) (by decide +kernel) (by decide +kernel)
theorem bw_1075 : Cond.instanceMethod yX10_countIn ∈ BW := bw_on tb_5 (i := 115) (by decide +kernel) (by decide +kernel)
theorem bw_1076 : Cond.selects RX10 yX10_countIn yX10_countIn ∈ BW := bw_on tb_5 (i := 116) (by decide +kernel) (by decide +kernel)
theorem bw_1077 : Cond.code yX10_countIn cX10_countIn 4 none ∈ BW := bw_on tb_5 (i := 117) (by decide +kernel) (by decide +kernel)
theorem bw_1079 : Cond.methodLink RX10 26 yX10_countSmells ∈ BW := bw_on tb_5 (i := 119) (by decide +kernel) (by decide +kernel)
theorem bw_1081 : Cond.instanceMethod yX10_countSmells ∈ BW := bw_on tb_5 (i := 121) (by decide +kernel) (by decide +kernel)
theorem bw_1082 : Cond.code yX10_countSmells cX10_countSmells 11 none ∈ BW := bw_on tb_5 (i := 122) (by decide +kernel) (by decide +kernel)
theorem bw_1083 : Cond.methodLink RX10 30 yX0_countOf ∈ BW := bw_on tb_5 (i := 123) (by decide +kernel) (by decide +kernel)
theorem bw_1084 : Cond.methodLink RX10 36 yX0_ruleAt ∈ BW := bw_on tb_5 (i := 124) (by decide +kernel) (by decide +kernel)
theorem bw_1086 : Cond.methodLink RX10 49 yX6_bearsOn ∈ BW := bw_on tb_5 (i := 126) (by decide +kernel) (by decide +kernel)
theorem bw_1089 : Cond.instanceMethod yX11_idle ∈ BW := bw_on tb_5 (i := 129) (by decide +kernel) (by decide +kernel)
theorem bw_1090 : Cond.selects RX11 yX11_idle yX11_idle ∈ BW := bw_on tb_5 (i := 130) (by decide +kernel) (by decide +kernel)
theorem bw_1091 : Cond.code yX11_idle cX11_idle 3 (some .int) ∈ BW := bw_on tb_5 (i := 131) (by decide +kernel) (by decide +kernel)
theorem bw_1093 : Cond.instanceMethod yX11_tells ∈ BW := bw_on tb_5 (i := 133) (by decide +kernel) (by decide +kernel)
theorem bw_1094 : Cond.selects RX11 yX11_tells yX11_tells ∈ BW := bw_on tb_5 (i := 134) (by decide +kernel) (by decide +kernel)
theorem bw_1095 : Cond.code yX11_tells cX11_tells 5 (some .boolean) ∈ BW := bw_on tb_5 (i := 135) (by decide +kernel) (by decide +kernel)
theorem bw_1097 : Cond.instanceMethod yX11_mute ∈ BW := bw_on tb_5 (i := 137) (by decide +kernel) (by decide +kernel)
theorem bw_1098 : Cond.selects RX11 yX11_mute yX11_mute ∈ BW := bw_on tb_5 (i := 138) (by decide +kernel) (by decide +kernel)
theorem bw_1099 : Cond.code yX11_mute cX11_mute 1 (some .int) ∈ BW := bw_on tb_5 (i := 139) (by decide +kernel) (by decide +kernel)
theorem bw_1101 : Cond.instanceMethod yX11_verdict ∈ BW := bw_on tb_5 (i := 141) (by decide +kernel) (by decide +kernel)
theorem bw_1102 : Cond.selects RX11 yX11_verdict yX11_verdict ∈ BW := bw_on tb_5 (i := 142) (by decide +kernel) (by decide +kernel)
theorem bw_1103 : Cond.code yX11_verdict cX11_verdict 2 (some .boolean) ∈ BW := bw_on tb_5 (i := 143) (by decide +kernel) (by decide +kernel)
theorem bw_1104 : Cond.methodLink RX11 366 yX0_rightWeight ∈ BW := bw_on tb_5 (i := 144) (by decide +kernel) (by decide +kernel)
theorem bw_1105 : Cond.instanceMethod yX0_rightWeight ∈ BW := bw_on tb_5 (i := 145) (by decide +kernel) (by decide +kernel)
theorem bw_1106 : Cond.selects RX0 yX0_rightWeight yX0_rightWeight ∈ BW := bw_on tb_5 (i := 146) (by decide +kernel) (by decide +kernel)
theorem bw_1107 : Cond.code yX0_rightWeight cX0_rightWeight 6 (some .long) ∈ BW := bw_on tb_5 (i := 147) (by decide +kernel) (by decide +kernel)
theorem bw_1108 : Cond.methodLink RX0 130 yX0_votesOf ∈ BW := bw_on tb_5 (i := 148) (by decide +kernel) (by decide +kernel)
theorem bw_1109 : Cond.methodLink RX0 133 yX0_weightOf ∈ BW := bw_on tb_5 (i := 149) (by decide +kernel) (by decide +kernel)
theorem bw_1111 : Cond.instanceMethod yX0_weightOf ∈ BW := bw_on tb_5 (i := 151) (by decide +kernel) (by decide +kernel)
theorem bw_1112 : Cond.code yX0_weightOf cX0_weightOf 7 (some .long) ∈ BW := bw_on tb_5 (i := 152) (by decide +kernel) (by decide +kernel)
theorem bw_1114 : Cond.instanceMethod yX11_sworn ∈ BW := bw_on tb_5 (i := 154) (by decide +kernel) (by decide +kernel)
theorem bw_1115 : Cond.selects RX11 yX11_sworn yX11_sworn ∈ BW := bw_on tb_5 (i := 155) (by decide +kernel) (by decide +kernel)
theorem bw_1116 : Cond.code yX11_sworn cX11_sworn 8 (some .int) ∈ BW := bw_on tb_5 (i := 156) (by decide +kernel) (by decide +kernel)
theorem bw_1117 : Cond.constantLong RX11 369 (-1) ∈ BW := bw_on tb_5 (i := 157) (by decide +kernel) (by decide +kernel)
theorem bw_1119 : Cond.instanceMethod yX11_power ∈ BW := bw_on tb_5 (i := 159) (by decide +kernel) (by decide +kernel)
theorem bw_1120 : Cond.selects RX11 yX11_power yX11_power ∈ BW := bw_on tb_5 (i := 160) (by decide +kernel) (by decide +kernel)
theorem bw_1121 : Cond.code yX11_power cX11_power 8 (some .boolean) ∈ BW := bw_on tb_5 (i := 161) (by decide +kernel) (by decide +kernel)
theorem bw_1122 : Cond.methodLink RX11 371 yX11_ordersOf ∈ BW := bw_on tb_5 (i := 162) (by decide +kernel) (by decide +kernel)
theorem bw_1123 : Cond.static yX11_ordersOf ∈ BW := bw_on tb_5 (i := 163) (by decide +kernel) (by decide +kernel)
theorem bw_1124 : Cond.code yX11_ordersOf cX11_ordersOf 3 (some .int) ∈ BW := bw_on tb_5 (i := 164) (by decide +kernel) (by decide +kernel)
theorem bw_1126 : Cond.instanceMethod yX11_clash ∈ BW := bw_on tb_5 (i := 166) (by decide +kernel) (by decide +kernel)
theorem bw_1127 : Cond.selects RX11 yX11_clash yX11_clash ∈ BW := bw_on tb_5 (i := 167) (by decide +kernel) (by decide +kernel)
theorem bw_1128 : Cond.code yX11_clash cX11_clash 4 (some .int) ∈ BW := bw_on tb_5 (i := 168) (by decide +kernel) (by decide +kernel)
theorem bw_1129 : Cond.methodLink RX11 374 yX0_senseBefore ∈ BW := bw_on tb_5 (i := 169) (by decide +kernel) (by decide +kernel)
theorem bw_1130 : Cond.instanceMethod yX0_senseBefore ∈ BW := bw_on tb_5 (i := 170) (by decide +kernel) (by decide +kernel)
theorem bw_1131 : Cond.selects RX0 yX0_senseBefore yX0_senseBefore ∈ BW := bw_on tb_5 (i := 171) (by decide +kernel) (by decide +kernel)
theorem bw_1132 : Cond.code yX0_senseBefore cX0_senseBefore 3 (some .int) ∈ BW := bw_on tb_5 (i := 172) (by decide +kernel) (by decide +kernel)
theorem bw_1134 : Cond.instanceMethod yX11_struck ∈ BW := bw_on tb_5 (i := 174) (by decide +kernel) (by decide +kernel)
theorem bw_1135 : Cond.selects RX11 yX11_struck yX11_struck ∈ BW := bw_on tb_5 (i := 175) (by decide +kernel) (by decide +kernel)
theorem bw_1136 : Cond.code yX11_struck cX11_struck 1 (some .int) ∈ BW := bw_on tb_5 (i := 176) (by decide +kernel) (by decide +kernel)
theorem bw_1137 : Cond.methodLink RX11 377 yX11_wordsToStrike ∈ BW := bw_on tb_5 (i := 177) (by decide +kernel) (by decide +kernel)
theorem bw_1139 : Cond.instanceMethod yX11_wordsToStrike ∈ BW := bw_on tb_5 (i := 179) (by decide +kernel) (by decide +kernel)
theorem bw_1140 : Cond.code yX11_wordsToStrike cX11_wordsToStrike 6 (some .int) ∈ BW := bw_on tb_5 (i := 180) (by decide +kernel) (by decide +kernel)
theorem bw_1141 : Cond.methodLink RX11 449 yX0_wordsOf ∈ BW := bw_on tb_5 (i := 181) (by decide +kernel) (by decide +kernel)
theorem bw_1142 : Cond.instanceMethod yX0_wordsOf ∈ BW := bw_on tb_5 (i := 182) (by decide +kernel) (by decide +kernel)
theorem bw_1143 : Cond.selects RX0 yX0_wordsOf yX0_wordsOf ∈ BW := bw_on tb_5 (i := 183) (by decide +kernel) (by decide +kernel)
theorem bw_1144 : Cond.code yX0_wordsOf cX0_wordsOf 5 (some .int) ∈ BW := bw_on tb_5 (i := 184) (by decide +kernel) (by decide +kernel)
theorem bw_1145 : Cond.methodLink RX11 452 yX11_lesserSet ∈ BW := bw_on tb_5 (i := 185) (by decide +kernel) (by decide +kernel)
theorem bw_1146 : Cond.static yX11_lesserSet ∈ BW := bw_on tb_5 (i := 186) (by decide +kernel) (by decide +kernel)
theorem bw_1147 : Cond.code yX11_lesserSet cX11_lesserSet 3 (some .int) ∈ BW := bw_on tb_5 (i := 187) (by decide +kernel) (by decide +kernel)
theorem bw_1148 : Cond.methodLink RX11 455 Lib.Math.min.name ∈ BW := bw_on tb_5 (i := 188) (by decide +kernel) (by decide +kernel)
theorem bw_1150 : Cond.instanceMethod yX11_struckSet ∈ BW := bw_on tb_5 (i := 190) (by decide +kernel) (by decide +kernel)
theorem bw_1151 : Cond.selects RX11 yX11_struckSet yX11_struckSet ∈ BW := bw_on tb_5 (i := 191) (by decide +kernel) (by decide +kernel)
theorem bw_1152 : Cond.code yX11_struckSet cX11_struckSet 1 (some .int) ∈ BW := bw_on tb_5 (i := 192) (by decide +kernel) (by decide +kernel)
theorem bw_1154 : Cond.instanceMethod yX11_best ∈ BW := bw_on tb_5 (i := 194) (by decide +kernel) (by decide +kernel)
theorem bw_1155 : Cond.selects RX11 yX11_best yX11_best ∈ BW := bw_on tb_5 (i := 195) (by decide +kernel) (by decide +kernel)
theorem bw_1156 : Cond.code yX11_best cX11_best 1 (some .int) ∈ BW := bw_on tb_5 (i := 196) (by decide +kernel) (by decide +kernel)
theorem bw_1157 : Cond.methodLink RX11 380 yX3_settle ∈ BW := bw_on tb_5 (i := 197) (by decide +kernel) (by decide +kernel)
theorem bw_1158 : Cond.instanceMethod yX3_settle ∈ BW := bw_on tb_5 (i := 198) (by decide +kernel) (by decide +kernel)
theorem bw_1159 : Cond.selects RX3 yX3_settle yX3_settle ∈ BW := bw_on tb_5 (i := 199) (by decide +kernel) (by decide +kernel)
theorem bw_1160 : Cond.code yX3_settle cX3_settle 6 none ∈ BW := bw_on tb_5 (i := 200) (by decide +kernel) (by decide +kernel)
theorem bw_1161 : Cond.methodLink RX3 22 yX0_setOfFate ∈ BW := bw_on tb_5 (i := 201) (by decide +kernel) (by decide +kernel)
theorem bw_1162 : Cond.methodLink RX3 28 yJ6_bitCount_0f7a4 ∈ BW := bw_on tb_5 (i := 202) (by decide +kernel) (by decide +kernel)
theorem bw_1163 : Cond.methodLink RX3 33 yX3_mostFrom ∈ BW := bw_on tb_5 (i := 203) (by decide +kernel) (by decide +kernel)
theorem bw_1165 : Cond.instanceMethod yX3_mostFrom ∈ BW := bw_on tb_5 (i := 205) (by decide +kernel) (by decide +kernel)
theorem bw_1166 : Cond.code yX3_mostFrom cX3_mostFrom 6 (some .int) ∈ BW := bw_on tb_5 (i := 206) (by decide +kernel) (by decide +kernel)
theorem bw_1167 : Cond.methodLink RX3 48 yX0_countOf ∈ BW := bw_on tb_5 (i := 207) (by decide +kernel) (by decide +kernel)
theorem bw_1169 : Cond.methodLink RX3 55 yX3_freeWith ∈ BW := bw_on tb_5 (i := 209) (by decide +kernel) (by decide +kernel)
theorem bw_1171 : Cond.instanceMethod yX3_freeWith ∈ BW := bw_on tb_5 (i := 211) (by decide +kernel) (by decide +kernel)
theorem bw_1172 : Cond.code yX3_freeWith cX3_freeWith 6 (some .int) ∈ BW := bw_on tb_5 (i := 212) (by decide +kernel) (by decide +kernel)
theorem bw_1173 : Cond.methodLink RX3 67 Lib.Math.min.name ∈ BW := bw_on tb_5 (i := 213) (by decide +kernel) (by decide +kernel)
theorem bw_1174 : Cond.methodLink RX3 70 yX0_senseBefore ∈ BW := bw_on tb_5 (i := 214) (by decide +kernel) (by decide +kernel)
theorem bw_1176 : Cond.methodLink RX3 58 Lib.Math.max.name ∈ BW := bw_on tb_5 (i := 216) (by decide +kernel) (by decide +kernel)
theorem bw_1177 : Cond.static Lib.Math.max.name ∈ BW := bw_on tb_5 (i := 217) (by decide +kernel) (by decide +kernel)
theorem bw_1178 : Cond.code Lib.Math.max.name Lib.Math.max.code 2 (some .int) ∈ BW := bw_on tb_5 (i := 218) (by decide +kernel) (by decide +kernel)
theorem bw_1180 : Cond.methodLink RX3 41 yX3_firstOfBest ∈ BW := bw_on tb_5 (i := 220) (by decide +kernel) (by decide +kernel)
theorem bw_1182 : Cond.instanceMethod yX3_firstOfBest ∈ BW := bw_on tb_5 (i := 222) (by decide +kernel) (by decide +kernel)
theorem bw_1183 : Cond.code yX3_firstOfBest cX3_firstOfBest 5 (some .int) ∈ BW := bw_on tb_5 (i := 223) (by decide +kernel) (by decide +kernel)
theorem bw_1184 : Cond.methodLink RX11 383 yX3_mostFree ∈ BW := bw_on tb_5 (i := 224) (by decide +kernel) (by decide +kernel)
theorem bw_1185 : Cond.instanceMethod yX3_mostFree ∈ BW := bw_on tb_5 (i := 225) (by decide +kernel) (by decide +kernel)
theorem bw_1186 : Cond.selects RX3 yX3_mostFree yX3_mostFree ∈ BW := bw_on tb_5 (i := 226) (by decide +kernel) (by decide +kernel)
theorem bw_1187 : Cond.code yX3_mostFree cX3_mostFree 1 (some .int) ∈ BW := bw_on tb_5 (i := 227) (by decide +kernel) (by decide +kernel)
theorem bw_1189 : Cond.instanceMethod yX11_bestAt ∈ BW := bw_on tb_5 (i := 229) (by decide +kernel) (by decide +kernel)
theorem bw_1190 : Cond.selects RX11 yX11_bestAt yX11_bestAt ∈ BW := bw_on tb_5 (i := 230) (by decide +kernel) (by decide +kernel)
theorem bw_1191 : Cond.code yX11_bestAt cX11_bestAt 2 (some .int) ∈ BW := bw_on tb_5 (i := 231) (by decide +kernel) (by decide +kernel)
theorem bw_1193 : Cond.instanceMethod yX11_game ∈ BW := bw_on tb_5 (i := 233) (by decide +kernel) (by decide +kernel)
theorem bw_1194 : Cond.selects RX11 yX11_game yX11_game ∈ BW := bw_on tb_5 (i := 234) (by decide +kernel) (by decide +kernel)
theorem bw_1195 : Cond.code yX11_game cX11_game 2 (some .int) ∈ BW := bw_on tb_5 (i := 235) (by decide +kernel) (by decide +kernel)
theorem bw_1196 : Cond.methodLink RX11 390 yX1_begin ∈ BW := bw_on tb_5 (i := 236) (by decide +kernel) (by decide +kernel)
theorem bw_1197 : Cond.instanceMethod yX1_begin ∈ BW := bw_on tb_5 (i := 237) (by decide +kernel) (by decide +kernel)
theorem bw_1198 : Cond.selects RX1 yX1_begin yX1_begin ∈ BW := bw_on tb_5 (i := 238) (by decide +kernel) (by decide +kernel)
theorem bw_1199 : Cond.code yX1_begin cX1_begin 5 (some .int) ∈ BW := bw_on tb_5 (i := 239) (by decide +kernel) (by decide +kernel)
theorem bw_1200 : Cond.methodLink RX1 18 yX0_countOf ∈ BW := bw_on tb_6 (i := 0) (by decide +kernel) (by decide +kernel)
theorem bw_1201 : Cond.methodLink RX1 24 yX1_worth ∈ BW := bw_on tb_6 (i := 1) (by decide +kernel) (by decide +kernel)
theorem bw_1202 : Cond.static yX1_worth ∈ BW := bw_on tb_6 (i := 2) (by decide +kernel) (by decide +kernel)
theorem bw_1203 : Cond.code yX1_worth cX1_worth 3 (some .int) ∈ BW := bw_on tb_6 (i := 3) (by decide +kernel) (by decide +kernel)
theorem bw_1204 : Cond.methodLink RX1 49 yX0_has ∈ BW := bw_on tb_6 (i := 4) (by decide +kernel) (by decide +kernel)
theorem bw_1205 : Cond.methodLink RX1 68 yX0_senseBefore ∈ BW := bw_on tb_6 (i := 5) (by decide +kernel) (by decide +kernel)
theorem bw_1206 : Cond.methodLink RX1 28 yX1_play ∈ BW := bw_on tb_6 (i := 6) (by decide +kernel) (by decide +kernel)
theorem bw_1207 : Cond.static yX1_play ∈ BW := bw_on tb_6 (i := 7) (by decide +kernel) (by decide +kernel)
theorem bw_1208 : Cond.code yX1_play cX1_play 13 (some .int) ∈ BW := bw_on tb_6 (i := 8) (by decide +kernel) (by decide +kernel)
theorem bw_1209 : Cond.methodLink RX1 32 yX1_canBe ∈ BW := bw_on tb_6 (i := 9) (by decide +kernel) (by decide +kernel)
theorem bw_1210 : Cond.static yX1_canBe ∈ BW := bw_on tb_6 (i := 10) (by decide +kernel) (by decide +kernel)
theorem bw_1211 : Cond.code yX1_canBe cX1_canBe 4 (some .boolean) ∈ BW := bw_on tb_6 (i := 11) (by decide +kernel) (by decide +kernel)
theorem bw_1212 : Cond.methodLink RX1 53 yX0_personAt ∈ BW := bw_on tb_6 (i := 12) (by decide +kernel) (by decide +kernel)
theorem bw_1213 : Cond.methodLink RX1 36 yX1_change ∈ BW := bw_on tb_6 (i := 13) (by decide +kernel) (by decide +kernel)
theorem bw_1214 : Cond.static yX1_change ∈ BW := bw_on tb_6 (i := 14) (by decide +kernel) (by decide +kernel)
theorem bw_1215 : Cond.code yX1_change cX1_change 5 none ∈ BW := bw_on tb_6 (i := 15) (by decide +kernel) (by decide +kernel)
theorem bw_1216 : Cond.methodLink RX1 40 Lib.Math.max.name ∈ BW := bw_on tb_6 (i := 16) (by decide +kernel) (by decide +kernel)
theorem bw_1217 : Cond.methodLink RX1 46 Lib.Math.min.name ∈ BW := bw_on tb_6 (i := 17) (by decide +kernel) (by decide +kernel)
theorem bw_1219 : Cond.instanceMethod yX11_moveOf ∈ BW := bw_on tb_6 (i := 19) (by decide +kernel) (by decide +kernel)
theorem bw_1220 : Cond.selects RX11 yX11_moveOf yX11_moveOf ∈ BW := bw_on tb_6 (i := 20) (by decide +kernel) (by decide +kernel)
theorem bw_1221 : Cond.code yX11_moveOf cX11_moveOf 3 (some .int) ∈ BW := bw_on tb_6 (i := 21) (by decide +kernel) (by decide +kernel)
theorem bw_1223 : Cond.instanceMethod yX11_copyFed ∈ BW := bw_on tb_6 (i := 23) (by decide +kernel) (by decide +kernel)
theorem bw_1224 : Cond.selects RX11 yX11_copyFed yX11_copyFed ∈ BW := bw_on tb_6 (i := 24) (by decide +kernel) (by decide +kernel)
theorem bw_1225 : Cond.code yX11_copyFed cX11_copyFed 5 (some .int) ∈ BW := bw_on tb_6 (i := 25) (by decide +kernel) (by decide +kernel)
theorem bw_1227 : Cond.instanceMethod yX11_live ∈ BW := bw_on tb_6 (i := 27) (by decide +kernel) (by decide +kernel)
theorem bw_1228 : Cond.selects RX11 yX11_live yX11_live ∈ BW := bw_on tb_6 (i := 28) (by decide +kernel) (by decide +kernel)
theorem bw_1229 : Cond.code yX11_live cX11_live 5 (some .int) ∈ BW := bw_on tb_6 (i := 29) (by decide +kernel) (by decide +kernel)
theorem bw_1230 : Cond.methodLink RX11 401 yX2_begin ∈ BW := bw_on tb_6 (i := 30) (by decide +kernel) (by decide +kernel)
theorem bw_1231 : Cond.instanceMethod yX2_begin ∈ BW := bw_on tb_6 (i := 31) (by decide +kernel) (by decide +kernel)
theorem bw_1232 : Cond.selects RX2 yX2_begin yX2_begin ∈ BW := bw_on tb_6 (i := 32) (by decide +kernel) (by decide +kernel)
theorem bw_1233 : Cond.code yX2_begin cX2_begin 2 none ∈ BW := bw_on tb_6 (i := 33) (by decide +kernel) (by decide +kernel)
theorem bw_1235 : Cond.static yX2_runSteps ∈ BW := bw_on tb_6 (i := 35) (by decide +kernel) (by decide +kernel)
theorem bw_1236 : Cond.code yX2_runSteps cX2_runSteps 12 none ∈ BW := bw_on tb_6 (i := 36) (by decide +kernel) (by decide +kernel)
theorem bw_1237 : Cond.methodLink RX2 51 yX2_comesTo ∈ BW := bw_on tb_6 (i := 37) (by decide +kernel) (by decide +kernel)
theorem bw_1239 : Cond.instanceMethod yX2_comesTo ∈ BW := bw_on tb_6 (i := 39) (by decide +kernel) (by decide +kernel)
theorem bw_1240 : Cond.code yX2_comesTo cX2_comesTo 1 (some .boolean) ∈ BW := bw_on tb_6 (i := 40) (by decide +kernel) (by decide +kernel)
theorem bw_1241 : Cond.methodLink RX2 55 yX9_cellAt ∈ BW := bw_on tb_6 (i := 41) (by decide +kernel) (by decide +kernel)
theorem bw_1242 : Cond.instanceMethod yX9_cellAt ∈ BW := bw_on tb_6 (i := 42) (by decide +kernel) (by decide +kernel)
theorem bw_1243 : Cond.selects RX9 yX9_cellAt yX9_cellAt ∈ BW := bw_on tb_6 (i := 43) (by decide +kernel) (by decide +kernel)
theorem bw_1244 : Cond.code yX9_cellAt cX9_cellAt 3 (some .int) ∈ BW := bw_on tb_6 (i := 44) (by decide +kernel) (by decide +kernel)
theorem bw_1246 : Cond.methodLink RX2 59 yX2_holds ∈ BW := bw_on tb_6 (i := 46) (by decide +kernel) (by decide +kernel)
theorem bw_1247 : Cond.static yX2_holds ∈ BW := bw_on tb_6 (i := 47) (by decide +kernel) (by decide +kernel)
theorem bw_1248 : Cond.code yX2_holds cX2_holds 4 (some .boolean) ∈ BW := bw_on tb_6 (i := 48) (by decide +kernel) (by decide +kernel)
theorem bw_1249 : Cond.methodLink RX2 74 yX0_cueBefore ∈ BW := bw_on tb_6 (i := 49) (by decide +kernel) (by decide +kernel)
theorem bw_1250 : Cond.methodLink RX2 77 yX0_personAt ∈ BW := bw_on tb_6 (i := 50) (by decide +kernel) (by decide +kernel)
theorem bw_1251 : Cond.methodLink RX2 63 yX2_runSteps ∈ BW := bw_on tb_6 (i := 51) (by decide +kernel) (by decide +kernel)
theorem bw_1252 : Cond.methodLink RX2 67 yX2_does ∈ BW := bw_on tb_6 (i := 52) (by decide +kernel) (by decide +kernel)
theorem bw_1254 : Cond.instanceMethod yX2_does ∈ BW := bw_on tb_6 (i := 54) (by decide +kernel) (by decide +kernel)
theorem bw_1255 : Cond.code yX2_does cX2_does 6 (some .boolean) ∈ BW := bw_on tb_6 (i := 55) (by decide +kernel) (by decide +kernel)
theorem bw_1256 : Cond.methodLink RX2 86 yX0_hasRoomFor ∈ BW := bw_on tb_6 (i := 56) (by decide +kernel) (by decide +kernel)
theorem bw_1257 : Cond.methodLink RX2 90 yX0_sitBefore ∈ BW := bw_on tb_6 (i := 57) (by decide +kernel) (by decide +kernel)
theorem bw_1258 : Cond.methodLink RX2 94 yX0_canHoldTerm ∈ BW := bw_on tb_6 (i := 58) (by decide +kernel) (by decide +kernel)
theorem bw_1259 : Cond.instanceMethod yX0_canHoldTerm ∈ BW := bw_on tb_6 (i := 59) (by decide +kernel) (by decide +kernel)
theorem bw_1260 : Cond.selects RX0 yX0_canHoldTerm yX0_canHoldTerm ∈ BW := bw_on tb_6 (i := 60) (by decide +kernel) (by decide +kernel)
theorem bw_1261 : Cond.code yX0_canHoldTerm cX0_canHoldTerm 2 (some .boolean) ∈ BW := bw_on tb_6 (i := 61) (by decide +kernel) (by decide +kernel)
theorem bw_1262 : Cond.methodLink RX0 161 yX0_setOfFate ∈ BW := bw_on tb_6 (i := 62) (by decide +kernel) (by decide +kernel)
theorem bw_1263 : Cond.methodLink RX0 164 yJ6_bitCount_0f7a4 ∈ BW := bw_on tb_6 (i := 63) (by decide +kernel) (by decide +kernel)
theorem bw_1264 : Cond.methodLink RX0 169 yX0_hasRoomFor ∈ BW := bw_on tb_6 (i := 64) (by decide +kernel) (by decide +kernel)
theorem bw_1265 : Cond.methodLink RX2 97 yX0_holdTerm ∈ BW := bw_on tb_6 (i := 65) (by decide +kernel) (by decide +kernel)
theorem bw_1266 : Cond.methodLink RX2 101 yX0_feedPerson ∈ BW := bw_on tb_6 (i := 66) (by decide +kernel) (by decide +kernel)
theorem bw_1267 : Cond.methodLink RX2 105 yX0_setSmell ∈ BW := bw_on tb_6 (i := 67) (by decide +kernel) (by decide +kernel)
theorem bw_1268 : Cond.methodLink RX2 109 yX0_coolDown ∈ BW := bw_on tb_6 (i := 68) (by decide +kernel) (by decide +kernel)
theorem bw_1269 : Cond.methodLink RX2 112 yX2_feedsAny ∈ BW := bw_on tb_6 (i := 69) (by decide +kernel) (by decide +kernel)
theorem bw_1271 : Cond.instanceMethod yX2_feedsAny ∈ BW := bw_on tb_6 (i := 71) (by decide +kernel) (by decide +kernel)
theorem bw_1272 : Cond.code yX2_feedsAny cX2_feedsAny 4 (some .boolean) ∈ BW := bw_on tb_6 (i := 72) (by decide +kernel) (by decide +kernel)
theorem bw_1273 : Cond.methodLink RX2 116 yX0_countOf ∈ BW := bw_on tb_6 (i := 73) (by decide +kernel) (by decide +kernel)
theorem bw_1274 : Cond.methodLink RX2 119 yX2_draw ∈ BW := bw_on tb_6 (i := 74) (by decide +kernel) (by decide +kernel)
theorem bw_1276 : Cond.instanceMethod yX2_draw ∈ BW := bw_on tb_6 (i := 76) (by decide +kernel) (by decide +kernel)
theorem bw_1277 : Cond.code yX2_draw cX2_draw 2 (some .int) ∈ BW := bw_on tb_6 (i := 77) (by decide +kernel) (by decide +kernel)
theorem bw_1278 : Cond.constant RX2 122 (65536) ∈ BW := bw_on tb_6 (i := 78) (by decide +kernel) (by decide +kernel)
theorem bw_1279 : Cond.methodLink RX11 407 yX2_keep ∈ BW := bw_on tb_6 (i := 79) (by decide +kernel) (by decide +kernel)
theorem bw_1280 : Cond.instanceMethod yX2_keep ∈ BW := bw_on tb_6 (i := 80) (by decide +kernel) (by decide +kernel)
theorem bw_1281 : Cond.selects RX2 yX2_keep yX2_keep ∈ BW := bw_on tb_6 (i := 81) (by decide +kernel) (by decide +kernel)
theorem bw_1282 : Cond.code yX2_keep cX2_keep 3 none ∈ BW := bw_on tb_6 (i := 82) (by decide +kernel) (by decide +kernel)
theorem bw_1284 : Cond.methodLink RX11 410 yX2_keepSteps ∈ BW := bw_on tb_6 (i := 84) (by decide +kernel) (by decide +kernel)
theorem bw_1285 : Cond.instanceMethod yX2_keepSteps ∈ BW := bw_on tb_6 (i := 85) (by decide +kernel) (by decide +kernel)
theorem bw_1286 : Cond.selects RX2 yX2_keepSteps yX2_keepSteps ∈ BW := bw_on tb_6 (i := 86) (by decide +kernel) (by decide +kernel)
theorem bw_1287 : Cond.code yX2_keepSteps cX2_keepSteps 1 none ∈ BW := bw_on tb_6 (i := 87) (by decide +kernel) (by decide +kernel)
theorem bw_1288 : Cond.methodLink RX2 39 yX2_keep ∈ BW := bw_on tb_6 (i := 88) (by decide +kernel) (by decide +kernel)
theorem bw_1290 : Cond.instanceMethod yX11_lived ∈ BW := bw_on tb_6 (i := 90) (by decide +kernel) (by decide +kernel)
theorem bw_1291 : Cond.selects RX11 yX11_lived yX11_lived ∈ BW := bw_on tb_6 (i := 91) (by decide +kernel) (by decide +kernel)
theorem bw_1292 : Cond.code yX11_lived cX11_lived 2 (some .int) ∈ BW := bw_on tb_6 (i := 92) (by decide +kernel) (by decide +kernel)
theorem bw_1294 : Cond.instanceMethod yX11_mean ∈ BW := bw_on tb_6 (i := 94) (by decide +kernel) (by decide +kernel)
theorem bw_1295 : Cond.selects RX11 yX11_mean yX11_mean ∈ BW := bw_on tb_6 (i := 95) (by decide +kernel) (by decide +kernel)
theorem bw_1296 : Cond.code yX11_mean cX11_mean 6 (some .boolean) ∈ BW := bw_on tb_6 (i := 96) (by decide +kernel) (by decide +kernel)
theorem bw_1297 : Cond.methodLink RX11 422 yX0_allFed ∈ BW := bw_on tb_6 (i := 97) (by decide +kernel) (by decide +kernel)
theorem bw_1298 : Cond.instanceMethod yX0_allFed ∈ BW := bw_on tb_6 (i := 98) (by decide +kernel) (by decide +kernel)
theorem bw_1299 : Cond.selects RX0 yX0_allFed yX0_allFed ∈ BW := bw_on tb_6 (i := 99) (by decide +kernel) (by decide +kernel)
theorem bw_1300 : Cond.code yX0_allFed cX0_allFed 3 (some .int) ∈ BW := bw_on tb_6 (i := 100) (by decide +kernel) (by decide +kernel)
theorem bw_1302 : Cond.instanceMethod yX11_mark ∈ BW := bw_on tb_6 (i := 102) (by decide +kernel) (by decide +kernel)
theorem bw_1303 : Cond.selects RX11 yX11_mark yX11_mark ∈ BW := bw_on tb_6 (i := 103) (by decide +kernel) (by decide +kernel)
theorem bw_1304 : Cond.code yX11_mark cX11_mark 1 (some .int) ∈ BW := bw_on tb_6 (i := 104) (by decide +kernel) (by decide +kernel)
theorem bw_1305 : Cond.methodLink RX11 425 yX11_markAt ∈ BW := bw_on tb_6 (i := 105) (by decide +kernel) (by decide +kernel)
theorem bw_1307 : Cond.instanceMethod yX11_markAt ∈ BW := bw_on tb_6 (i := 107) (by decide +kernel) (by decide +kernel)
theorem bw_1308 : Cond.code yX11_markAt cX11_markAt 3 (some (.object "CatWitness$Court")) ∈ BW := bw_on tb_6 (i := 108) (by decide +kernel) (by decide +kernel)
theorem bw_1310 : Cond.instanceMethod yX11_undo ∈ BW := bw_on tb_6 (i := 110) (by decide +kernel) (by decide +kernel)
theorem bw_1311 : Cond.selects RX11 yX11_undo yX11_undo ∈ BW := bw_on tb_6 (i := 111) (by decide +kernel) (by decide +kernel)
theorem bw_1312 : Cond.code yX11_undo cX11_undo 1 (some .int) ∈ BW := bw_on tb_6 (i := 112) (by decide +kernel) (by decide +kernel)
theorem bw_1319 : Cond.methodLink RX12 81 yX12_plain ∈ BW := bw_on tb_6 (i := 119) (by decide +kernel) (by decide +kernel)
theorem bw_1321 : Cond.instanceMethod yX12_plain ∈ BW := bw_on tb_6 (i := 121) (by decide +kernel) (by decide +kernel)
theorem bw_1322 : Cond.code yX12_plain cX12_plain 3 none ∈ BW := bw_on tb_6 (i := 122) (by decide +kernel) (by decide +kernel)
theorem bw_1323 : Cond.fieldLink RX12 7 RX12 "at" "[I" ∈ BW := bw_on tb_6 (i := 123) (by decide +kernel) (by decide +kernel)
theorem bw_1324 : Cond.fieldLink RX12 13 RX12 "names" "[J" ∈ BW := bw_on tb_6 (i := 124) (by decide +kernel) (by decide +kernel)
theorem bw_1325 : Cond.fieldLink RX12 85 RX12 "status" "I" ∈ BW := bw_on tb_6 (i := 125) (by decide +kernel) (by decide +kernel)
theorem bw_1326 : Cond.fieldLink RX12 88 RX12 "top" "J" ∈ BW := bw_on tb_6 (i := 126) (by decide +kernel) (by decide +kernel)
theorem bw_1327 : Cond.fieldLink RX12 17 RX12 "bottom" "J" ∈ BW := bw_on tb_6 (i := 127) (by decide +kernel) (by decide +kernel)
theorem bw_1328 : Cond.fieldLink RX12 21 RX12 "sort" "[I" ∈ BW := bw_on tb_6 (i := 128) (by decide +kernel) (by decide +kernel)
theorem bw_1329 : Cond.fieldLink RX12 24 RX12 "trayMany" "[I" ∈ BW := bw_on tb_6 (i := 129) (by decide +kernel) (by decide +kernel)
theorem bw_1330 : Cond.fieldLink RX12 27 RX12 "trays" "[J" ∈ BW := bw_on tb_6 (i := 130) (by decide +kernel) (by decide +kernel)
theorem bw_1331 : Cond.fieldLink RX12 30 RX12 "tape" "[B" ∈ BW := bw_on tb_6 (i := 131) (by decide +kernel) (by decide +kernel)
theorem bw_1332 : Cond.fieldLink RX12 34 RX12 "text" "[B" ∈ BW := bw_on tb_6 (i := 132) (by decide +kernel) (by decide +kernel)
theorem bw_1333 : Cond.fieldLink RX12 115 RX12 "taped" "I" ∈ BW := bw_on tb_6 (i := 133) (by decide +kernel) (by decide +kernel)
theorem bw_1334 : Cond.fieldLink RX12 121 RX12 "size" "I" ∈ BW := bw_on tb_6 (i := 134) (by decide +kernel) (by decide +kernel)
theorem bw_1335 : Cond.fieldLink RX12 136 RX12 "token" "I" ∈ BW := bw_on tb_6 (i := 135) (by decide +kernel) (by decide +kernel)
theorem bw_1336 : Cond.fieldLink RX12 130 RX12 "from" "I" ∈ BW := bw_on tb_6 (i := 136) (by decide +kernel) (by decide +kernel)
theorem bw_1337 : Cond.fieldLink RX12 124 RX12 "end" "I" ∈ BW := bw_on tb_6 (i := 137) (by decide +kernel) (by decide +kernel)
theorem bw_1338 : Cond.fieldLink RX12 133 RX12 "value" "I" ∈ BW := bw_on tb_6 (i := 138) (by decide +kernel) (by decide +kernel)
theorem bw_1339 : Cond.fieldLink RX12 37 RX12 "faultKind" "I" ∈ BW := bw_on tb_6 (i := 139) (by decide +kernel) (by decide +kernel)
theorem bw_1340 : Cond.fieldLink RX12 41 RX12 "faultPlace" "I" ∈ BW := bw_on tb_6 (i := 140) (by decide +kernel) (by decide +kernel)
theorem bw_1341 : Cond.fieldLink RX12 161 RX12 "faults" "I" ∈ BW := bw_on tb_6 (i := 141) (by decide +kernel) (by decide +kernel)
theorem bw_1342 : Cond.fieldLink RX12 164 RX12 "seen" "I" ∈ BW := bw_on tb_6 (i := 142) (by decide +kernel) (by decide +kernel)
theorem bw_1343 : Cond.fieldLink RX12 44 RX12 "opened" "[I" ∈ BW := bw_on tb_6 (i := 143) (by decide +kernel) (by decide +kernel)
theorem bw_1344 : Cond.fieldLink RX12 269 RX12 "depth" "I" ∈ BW := bw_on tb_6 (i := 144) (by decide +kernel) (by decide +kernel)
theorem bw_1345 : Cond.fieldLink RX12 272 RX12 "counted" "I" ∈ BW := bw_on tb_6 (i := 145) (by decide +kernel) (by decide +kernel)
theorem bw_1346 : Cond.fieldLink RX12 47 RX12 "fitsBy" "[Z" ∈ BW := bw_on tb_6 (i := 146) (by decide +kernel) (by decide +kernel)
theorem bw_1347 : Cond.fieldLink RX12 389 RX12 "fitMany" "I" ∈ BW := bw_on tb_6 (i := 147) (by decide +kernel) (by decide +kernel)
theorem bw_1348 : Cond.fieldLink RX12 51 RX12 "shownBy" "[I" ∈ BW := bw_on tb_6 (i := 148) (by decide +kernel) (by decide +kernel)
theorem bw_1349 : Cond.fieldLink RX12 416 RX12 "deedsLeast" "I" ∈ BW := bw_on tb_6 (i := 149) (by decide +kernel) (by decide +kernel)
theorem bw_1350 : Cond.fieldLink RX12 419 RX12 "mealsLeast" "I" ∈ BW := bw_on tb_6 (i := 150) (by decide +kernel) (by decide +kernel)
theorem bw_1351 : Cond.fieldLink RX12 422 RX12 "smellsLeast" "I" ∈ BW := bw_on tb_6 (i := 151) (by decide +kernel) (by decide +kernel)
theorem bw_1352 : Cond.fieldLink RX12 54 RX12 "firstBy" "[I" ∈ BW := bw_on tb_6 (i := 152) (by decide +kernel) (by decide +kernel)
theorem bw_1353 : Cond.fieldLink RX12 57 RX12 "guiltyBy" "[I" ∈ BW := bw_on tb_6 (i := 153) (by decide +kernel) (by decide +kernel)
theorem bw_1354 : Cond.fieldLink RX12 60 RX12 "freeBy" "[I" ∈ BW := bw_on tb_6 (i := 154) (by decide +kernel) (by decide +kernel)
theorem bw_1355 : Cond.fieldLink RX12 63 RX12 "doneAt" "[I" ∈ BW := bw_on tb_6 (i := 155) (by decide +kernel) (by decide +kernel)
theorem bw_1356 : Cond.fieldLink RX12 66 RX12 "cameAt" "[I" ∈ BW := bw_on tb_6 (i := 156) (by decide +kernel) (by decide +kernel)
theorem bw_1357 : Cond.fieldLink RX12 69 RX12 "bestDeed" "[I" ∈ BW := bw_on tb_6 (i := 157) (by decide +kernel) (by decide +kernel)
theorem bw_1358 : Cond.fieldLink RX12 478 RX12 "drawn" "I" ∈ BW := bw_on tb_6 (i := 158) (by decide +kernel) (by decide +kernel)
theorem bw_1359 : Cond.fieldLink RX12 494 RX12 "ranSteps" "I" ∈ BW := bw_on tb_6 (i := 159) (by decide +kernel) (by decide +kernel)
theorem bw_1360 : Cond.fieldLink RX12 72 RX12 "loops" "[I" ∈ BW := bw_on tb_6 (i := 160) (by decide +kernel) (by decide +kernel)
theorem bw_1361 : Cond.fieldLink RX12 75 RX12 "ran" "[I" ∈ BW := bw_on tb_6 (i := 161) (by decide +kernel) (by decide +kernel)
theorem bw_1362 : Cond.fieldLink RX12 78 RX12 "told1" "[I" ∈ BW := bw_on tb_6 (i := 162) (by decide +kernel) (by decide +kernel)
theorem bw_1363 : Cond.fieldLink RX12 511 RX12 "isTold" "Z" ∈ BW := bw_on tb_6 (i := 163) (by decide +kernel) (by decide +kernel)
theorem bw_1364 : Cond.fieldLink RX12 515 RX12 "marks" "I" ∈ BW := bw_on tb_6 (i := 164) (by decide +kernel) (by decide +kernel)
theorem bw_1452 : Cond.instanceMethod yX12_status ∈ BW := bw_on tb_7 (i := 12) (by decide +kernel) (by decide +kernel)
theorem bw_1453 : Cond.selects RX12 yX12_status yX12_status ∈ BW := bw_on tb_7 (i := 13) (by decide +kernel) (by decide +kernel)
theorem bw_1454 : Cond.code yX12_status cX12_status 1 (some .int) ∈ BW := bw_on tb_7 (i := 14) (by decide +kernel) (by decide +kernel)
theorem bw_1456 : Cond.instanceMethod yX12_top ∈ BW := bw_on tb_7 (i := 16) (by decide +kernel) (by decide +kernel)
theorem bw_1457 : Cond.selects RX12 yX12_top yX12_top ∈ BW := bw_on tb_7 (i := 17) (by decide +kernel) (by decide +kernel)
theorem bw_1458 : Cond.code yX12_top cX12_top 1 (some .long) ∈ BW := bw_on tb_7 (i := 18) (by decide +kernel) (by decide +kernel)
theorem bw_1460 : Cond.instanceMethod yX12_bottom ∈ BW := bw_on tb_7 (i := 20) (by decide +kernel) (by decide +kernel)
theorem bw_1461 : Cond.selects RX12 yX12_bottom yX12_bottom ∈ BW := bw_on tb_7 (i := 21) (by decide +kernel) (by decide +kernel)
theorem bw_1462 : Cond.code yX12_bottom cX12_bottom 1 (some .long) ∈ BW := bw_on tb_7 (i := 22) (by decide +kernel) (by decide +kernel)
theorem bw_1464 : Cond.instanceMethod yX12_tray ∈ BW := bw_on tb_7 (i := 24) (by decide +kernel) (by decide +kernel)
theorem bw_1465 : Cond.selects RX12 yX12_tray yX12_tray ∈ BW := bw_on tb_7 (i := 25) (by decide +kernel) (by decide +kernel)
theorem bw_1466 : Cond.code yX12_tray cX12_tray 5 (some .boolean) ∈ BW := bw_on tb_7 (i := 26) (by decide +kernel) (by decide +kernel)
theorem bw_1467 : Cond.methodLink RX12 102 yX12_isTray ∈ BW := bw_on tb_7 (i := 27) (by decide +kernel) (by decide +kernel)
theorem bw_1468 : Cond.static yX12_isTray ∈ BW := bw_on tb_7 (i := 28) (by decide +kernel) (by decide +kernel)
theorem bw_1469 : Cond.code yX12_isTray cX12_isTray 1 (some .boolean) ∈ BW := bw_on tb_7 (i := 29) (by decide +kernel) (by decide +kernel)
theorem bw_1470 : Cond.methodLink RX12 98 yX12_is ∈ BW := bw_on tb_7 (i := 30) (by decide +kernel) (by decide +kernel)
theorem bw_1472 : Cond.instanceMethod yX12_is ∈ BW := bw_on tb_7 (i := 32) (by decide +kernel) (by decide +kernel)
theorem bw_1473 : Cond.code yX12_is cX12_is 2 (some .boolean) ∈ BW := bw_on tb_7 (i := 33) (by decide +kernel) (by decide +kernel)
theorem bw_1475 : Cond.instanceMethod yX12_write ∈ BW := bw_on tb_7 (i := 35) (by decide +kernel) (by decide +kernel)
theorem bw_1476 : Cond.selects RX12 yX12_write yX12_write ∈ BW := bw_on tb_7 (i := 36) (by decide +kernel) (by decide +kernel)
theorem bw_1477 : Cond.code yX12_write cX12_write 6 (some .boolean) ∈ BW := bw_on tb_7 (i := 37) (by decide +kernel) (by decide +kernel)
theorem bw_1478 : Cond.methodLink RX12 105 yX12_wrongPlace ∈ BW := bw_on tb_7 (i := 38) (by decide +kernel) (by decide +kernel)
theorem bw_1480 : Cond.instanceMethod yX12_wrongPlace ∈ BW := bw_on tb_7 (i := 40) (by decide +kernel) (by decide +kernel)
theorem bw_1481 : Cond.code yX12_wrongPlace cX12_wrongPlace 3 (some .int) ∈ BW := bw_on tb_7 (i := 41) (by decide +kernel) (by decide +kernel)
theorem bw_1482 : Cond.methodLink RX12 109 yX12_cut ∈ BW := bw_on tb_7 (i := 42) (by decide +kernel) (by decide +kernel)
theorem bw_1483 : Cond.static yX12_cut ∈ BW := bw_on tb_7 (i := 43) (by decide +kernel) (by decide +kernel)
theorem bw_1484 : Cond.code yX12_cut cX12_cut 3 (some .long) ∈ BW := bw_on tb_7 (i := 44) (by decide +kernel) (by decide +kernel)
theorem bw_1486 : Cond.instanceMethod yX12_read ∈ BW := bw_on tb_7 (i := 46) (by decide +kernel) (by decide +kernel)
theorem bw_1487 : Cond.selects RX12 yX12_read yX12_read ∈ BW := bw_on tb_7 (i := 47) (by decide +kernel) (by decide +kernel)
theorem bw_1488 : Cond.code yX12_read cX12_read 3 (some .long) ∈ BW := bw_on tb_7 (i := 48) (by decide +kernel) (by decide +kernel)
theorem bw_1489 : Cond.constantLong RX12 113 (-1) ∈ BW := bw_on tb_7 (i := 49) (by decide +kernel) (by decide +kernel)
theorem bw_1491 : Cond.instanceMethod yX12_pour ∈ BW := bw_on tb_7 (i := 51) (by decide +kernel) (by decide +kernel)
theorem bw_1492 : Cond.selects RX12 yX12_pour yX12_pour ∈ BW := bw_on tb_7 (i := 52) (by decide +kernel) (by decide +kernel)
theorem bw_1493 : Cond.code yX12_pour cX12_pour 8 (some .boolean) ∈ BW := bw_on tb_7 (i := 53) (by decide +kernel) (by decide +kernel)
theorem bw_1495 : Cond.instanceMethod yX12_feed ∈ BW := bw_on tb_7 (i := 55) (by decide +kernel) (by decide +kernel)
theorem bw_1496 : Cond.selects RX12 yX12_feed yX12_feed ∈ BW := bw_on tb_7 (i := 56) (by decide +kernel) (by decide +kernel)
theorem bw_1497 : Cond.code yX12_feed cX12_feed 6 (some .int) ∈ BW := bw_on tb_7 (i := 57) (by decide +kernel) (by decide +kernel)
theorem bw_1498 : Cond.methodLink RX12 118 yX12_four ∈ BW := bw_on tb_7 (i := 58) (by decide +kernel) (by decide +kernel)
theorem bw_1500 : Cond.instanceMethod yX12_four ∈ BW := bw_on tb_7 (i := 60) (by decide +kernel) (by decide +kernel)
theorem bw_1501 : Cond.code yX12_four cX12_four 3 none ∈ BW := bw_on tb_7 (i := 61) (by decide +kernel) (by decide +kernel)
theorem bw_1503 : Cond.instanceMethod yX12_fault ∈ BW := bw_on tb_7 (i := 63) (by decide +kernel) (by decide +kernel)
theorem bw_1504 : Cond.selects RX12 yX12_fault yX12_fault ∈ BW := bw_on tb_7 (i := 64) (by decide +kernel) (by decide +kernel)
theorem bw_1505 : Cond.code yX12_fault cX12_fault 2 (some .int) ∈ BW := bw_on tb_7 (i := 65) (by decide +kernel) (by decide +kernel)
theorem bw_1507 : Cond.instanceMethod yX12_court ∈ BW := bw_on tb_7 (i := 67) (by decide +kernel) (by decide +kernel)
theorem bw_1508 : Cond.selects RX12 yX12_court yX12_court ∈ BW := bw_on tb_7 (i := 68) (by decide +kernel) (by decide +kernel)
theorem bw_1509 : Cond.code yX12_court cX12_court 4 (some .int) ∈ BW := bw_on tb_7 (i := 69) (by decide +kernel) (by decide +kernel)
theorem bw_1510 : Cond.methodLink RX12 251 yX12_begins ∈ BW := bw_on tb_7 (i := 70) (by decide +kernel) (by decide +kernel)
theorem bw_1512 : Cond.instanceMethod yX12_begins ∈ BW := bw_on tb_7 (i := 72) (by decide +kernel) (by decide +kernel)
theorem bw_1513 : Cond.code yX12_begins cX12_begins 4 (some .boolean) ∈ BW := bw_on tb_7 (i := 73) (by decide +kernel) (by decide +kernel)
theorem bw_1514 : Cond.methodLink RX12 167 yX12_ahead ∈ BW := bw_on tb_7 (i := 74) (by decide +kernel) (by decide +kernel)
theorem bw_1516 : Cond.instanceMethod yX12_ahead ∈ BW := bw_on tb_7 (i := 76) (by decide +kernel) (by decide +kernel)
theorem bw_1517 : Cond.code yX12_ahead cX12_ahead 2 none ∈ BW := bw_on tb_7 (i := 77) (by decide +kernel) (by decide +kernel)
theorem bw_1518 : Cond.methodLink RX12 127 yX12_byteAt ∈ BW := bw_on tb_7 (i := 78) (by decide +kernel) (by decide +kernel)
theorem bw_1520 : Cond.instanceMethod yX12_byteAt ∈ BW := bw_on tb_7 (i := 80) (by decide +kernel) (by decide +kernel)
theorem bw_1521 : Cond.code yX12_byteAt cX12_byteAt 2 (some .int) ∈ BW := bw_on tb_7 (i := 81) (by decide +kernel) (by decide +kernel)
theorem bw_1522 : Cond.methodLink RX12 139 yX12_isSmall ∈ BW := bw_on tb_7 (i := 82) (by decide +kernel) (by decide +kernel)
theorem bw_1523 : Cond.static yX12_isSmall ∈ BW := bw_on tb_7 (i := 83) (by decide +kernel) (by decide +kernel)
theorem bw_1524 : Cond.code yX12_isSmall cX12_isSmall 1 (some .boolean) ∈ BW := bw_on tb_7 (i := 84) (by decide +kernel) (by decide +kernel)
theorem bw_1525 : Cond.methodLink RX12 142 yX12_isDigit ∈ BW := bw_on tb_7 (i := 85) (by decide +kernel) (by decide +kernel)
theorem bw_1526 : Cond.static yX12_isDigit ∈ BW := bw_on tb_7 (i := 86) (by decide +kernel) (by decide +kernel)
theorem bw_1527 : Cond.code yX12_isDigit cX12_isDigit 1 (some .boolean) ∈ BW := bw_on tb_7 (i := 87) (by decide +kernel) (by decide +kernel)
theorem bw_1528 : Cond.constant RX12 145 (100000) ∈ BW := bw_on tb_7 (i := 88) (by decide +kernel) (by decide +kernel)
theorem bw_1529 : Cond.methodLink RX12 146 Lib.Math.min.name ∈ BW := bw_on tb_7 (i := 89) (by decide +kernel) (by decide +kernel)
theorem bw_1530 : Cond.methodLink RX12 91 yX12_refuse ∈ BW := bw_on tb_7 (i := 90) (by decide +kernel) (by decide +kernel)
theorem bw_1532 : Cond.instanceMethod yX12_refuse ∈ BW := bw_on tb_7 (i := 92) (by decide +kernel) (by decide +kernel)
theorem bw_1533 : Cond.code yX12_refuse cX12_refuse 2 (some .int) ∈ BW := bw_on tb_7 (i := 93) (by decide +kernel) (by decide +kernel)
theorem bw_1534 : Cond.methodLink RX12 254 yX12_courtPart ∈ BW := bw_on tb_7 (i := 94) (by decide +kernel) (by decide +kernel)
theorem bw_1536 : Cond.instanceMethod yX12_courtPart ∈ BW := bw_on tb_7 (i := 96) (by decide +kernel) (by decide +kernel)
theorem bw_1537 : Cond.code yX12_courtPart cX12_courtPart 3 (some .boolean) ∈ BW := bw_on tb_7 (i := 97) (by decide +kernel) (by decide +kernel)
theorem bw_1539 : Cond.methodLink RX12 176 yX12_inWords ∈ BW := bw_on tb_7 (i := 99) (by decide +kernel) (by decide +kernel)
theorem bw_1541 : Cond.instanceMethod yX12_inWords ∈ BW := bw_on tb_7 (i := 101) (by decide +kernel) (by decide +kernel)
theorem bw_1542 : Cond.code yX12_inWords cX12_inWords 7 (some .int) ∈ BW := bw_on tb_7 (i := 102) (by decide +kernel) (by decide +kernel)
theorem bw_1543 : Cond.methodLink RX12 151 yJ0_length_8abf5 ∈ BW := bw_on tb_7 (i := 103) (by decide +kernel) (by decide +kernel)
theorem bw_1544 : Cond.methodLink RX12 157 yJ0_charAt_5068e ∈ BW := bw_on tb_7 (i := 104) (by decide +kernel) (by decide +kernel)
theorem bw_1545 : Cond.methodLink RX12 173 yX12_fails ∈ BW := bw_on tb_7 (i := 105) (by decide +kernel) (by decide +kernel)
theorem bw_1547 : Cond.instanceMethod yX12_fails ∈ BW := bw_on tb_7 (i := 107) (by decide +kernel) (by decide +kernel)
theorem bw_1548 : Cond.code yX12_fails cX12_fails 2 (some .boolean) ∈ BW := bw_on tb_7 (i := 108) (by decide +kernel) (by decide +kernel)
theorem bw_1549 : Cond.methodLink RX12 230 yX12_aSmell ∈ BW := bw_on tb_7 (i := 109) (by decide +kernel) (by decide +kernel)
theorem bw_1551 : Cond.instanceMethod yX12_aSmell ∈ BW := bw_on tb_7 (i := 111) (by decide +kernel) (by decide +kernel)
theorem bw_1552 : Cond.code yX12_aSmell cX12_aSmell 1 (some .boolean) ∈ BW := bw_on tb_7 (i := 112) (by decide +kernel) (by decide +kernel)
theorem bw_1553 : Cond.methodLink RX12 201 yX12_newOne ∈ BW := bw_on tb_7 (i := 113) (by decide +kernel) (by decide +kernel)
theorem bw_1555 : Cond.instanceMethod yX12_newOne ∈ BW := bw_on tb_7 (i := 115) (by decide +kernel) (by decide +kernel)
theorem bw_1556 : Cond.code yX12_newOne cX12_newOne 4 (some .boolean) ∈ BW := bw_on tb_7 (i := 116) (by decide +kernel) (by decide +kernel)
theorem bw_1557 : Cond.methodLink RX12 189 yX12_isFull ∈ BW := bw_on tb_7 (i := 117) (by decide +kernel) (by decide +kernel)
theorem bw_1559 : Cond.instanceMethod yX12_isFull ∈ BW := bw_on tb_7 (i := 119) (by decide +kernel) (by decide +kernel)
theorem bw_1560 : Cond.code yX12_isFull cX12_isFull 3 (some .boolean) ∈ BW := bw_on tb_7 (i := 120) (by decide +kernel) (by decide +kernel)
theorem bw_1561 : Cond.methodLink RX12 193 yX12_isName ∈ BW := bw_on tb_7 (i := 121) (by decide +kernel) (by decide +kernel)
theorem bw_1563 : Cond.instanceMethod yX12_isName ∈ BW := bw_on tb_7 (i := 123) (by decide +kernel) (by decide +kernel)
theorem bw_1564 : Cond.code yX12_isName cX12_isName 2 (some .boolean) ∈ BW := bw_on tb_7 (i := 124) (by decide +kernel) (by decide +kernel)
theorem bw_1565 : Cond.methodLink RX12 197 yX12_isTaken ∈ BW := bw_on tb_7 (i := 125) (by decide +kernel) (by decide +kernel)
theorem bw_1567 : Cond.instanceMethod yX12_isTaken ∈ BW := bw_on tb_7 (i := 127) (by decide +kernel) (by decide +kernel)
theorem bw_1568 : Cond.code yX12_isTaken cX12_isTaken 1 (some .boolean) ∈ BW := bw_on tb_7 (i := 128) (by decide +kernel) (by decide +kernel)
theorem bw_1569 : Cond.methodLink RX12 186 yX12_findHere ∈ BW := bw_on tb_7 (i := 129) (by decide +kernel) (by decide +kernel)
theorem bw_1571 : Cond.instanceMethod yX12_findHere ∈ BW := bw_on tb_7 (i := 131) (by decide +kernel) (by decide +kernel)
theorem bw_1572 : Cond.code yX12_findHere cX12_findHere 4 (some .int) ∈ BW := bw_on tb_7 (i := 132) (by decide +kernel) (by decide +kernel)
theorem bw_1573 : Cond.methodLink RX12 180 yX12_nameHere ∈ BW := bw_on tb_7 (i := 133) (by decide +kernel) (by decide +kernel)
theorem bw_1575 : Cond.instanceMethod yX12_nameHere ∈ BW := bw_on tb_7 (i := 135) (by decide +kernel) (by decide +kernel)
theorem bw_1576 : Cond.code yX12_nameHere cX12_nameHere 4 (some .long) ∈ BW := bw_on tb_7 (i := 136) (by decide +kernel) (by decide +kernel)
theorem bw_1577 : Cond.methodLink RX12 233 yX12_aCue ∈ BW := bw_on tb_7 (i := 137) (by decide +kernel) (by decide +kernel)
theorem bw_1579 : Cond.instanceMethod yX12_aCue ∈ BW := bw_on tb_7 (i := 139) (by decide +kernel) (by decide +kernel)
theorem bw_1580 : Cond.code yX12_aCue cX12_aCue 2 (some .boolean) ∈ BW := bw_on tb_7 (i := 140) (by decide +kernel) (by decide +kernel)
theorem bw_1581 : Cond.methodLink RX12 205 yX12_wantWord ∈ BW := bw_on tb_7 (i := 141) (by decide +kernel) (by decide +kernel)
theorem bw_1583 : Cond.instanceMethod yX12_wantWord ∈ BW := bw_on tb_7 (i := 143) (by decide +kernel) (by decide +kernel)
theorem bw_1584 : Cond.code yX12_wantWord cX12_wantWord 3 (some .boolean) ∈ BW := bw_on tb_7 (i := 144) (by decide +kernel) (by decide +kernel)
theorem bw_1585 : Cond.methodLink RX12 236 yX12_aRule ∈ BW := bw_on tb_7 (i := 145) (by decide +kernel) (by decide +kernel)
theorem bw_1587 : Cond.instanceMethod yX12_aRule ∈ BW := bw_on tb_7 (i := 147) (by decide +kernel) (by decide +kernel)
theorem bw_1588 : Cond.code yX12_aRule cX12_aRule 3 (some .boolean) ∈ BW := bw_on tb_7 (i := 148) (by decide +kernel) (by decide +kernel)
theorem bw_1589 : Cond.methodLink RX12 215 yX12_ruleRow ∈ BW := bw_on tb_7 (i := 149) (by decide +kernel) (by decide +kernel)
theorem bw_1590 : Cond.static yX12_ruleRow ∈ BW := bw_on tb_7 (i := 150) (by decide +kernel) (by decide +kernel)
theorem bw_1591 : Cond.code yX12_ruleRow cX12_ruleRow 1 (some .int) ∈ BW := bw_on tb_7 (i := 151) (by decide +kernel) (by decide +kernel)
theorem bw_1592 : Cond.methodLink RX12 218 yX12_oldOne ∈ BW := bw_on tb_7 (i := 152) (by decide +kernel) (by decide +kernel)
theorem bw_1594 : Cond.instanceMethod yX12_oldOne ∈ BW := bw_on tb_7 (i := 154) (by decide +kernel) (by decide +kernel)
theorem bw_1595 : Cond.code yX12_oldOne cX12_oldOne 4 (some .boolean) ∈ BW := bw_on tb_7 (i := 155) (by decide +kernel) (by decide +kernel)
theorem bw_1596 : Cond.methodLink RX12 221 yX12_against ∈ BW := bw_on tb_7 (i := 156) (by decide +kernel) (by decide +kernel)
theorem bw_1598 : Cond.instanceMethod yX12_against ∈ BW := bw_on tb_7 (i := 158) (by decide +kernel) (by decide +kernel)
theorem bw_1599 : Cond.code yX12_against cX12_against 4 (some .boolean) ∈ BW := bw_on tb_7 (i := 159) (by decide +kernel) (by decide +kernel)
theorem bw_1600 : Cond.methodLink RX12 209 yX12_isThere ∈ BW := bw_on tb_7 (i := 160) (by decide +kernel) (by decide +kernel)
theorem bw_1602 : Cond.instanceMethod yX12_isThere ∈ BW := bw_on tb_7 (i := 162) (by decide +kernel) (by decide +kernel)
theorem bw_1603 : Cond.code yX12_isThere cX12_isThere 2 (some .boolean) ∈ BW := bw_on tb_7 (i := 163) (by decide +kernel) (by decide +kernel)
theorem bw_1604 : Cond.methodLink RX12 170 yX12_isSign ∈ BW := bw_on tb_7 (i := 164) (by decide +kernel) (by decide +kernel)
theorem bw_1606 : Cond.instanceMethod yX12_isSign ∈ BW := bw_on tb_7 (i := 166) (by decide +kernel) (by decide +kernel)
theorem bw_1607 : Cond.code yX12_isSign cX12_isSign 2 (some .boolean) ∈ BW := bw_on tb_7 (i := 167) (by decide +kernel) (by decide +kernel)
theorem bw_1608 : Cond.methodLink RX12 212 yX12_number ∈ BW := bw_on tb_7 (i := 168) (by decide +kernel) (by decide +kernel)
theorem bw_1610 : Cond.instanceMethod yX12_number ∈ BW := bw_on tb_7 (i := 170) (by decide +kernel) (by decide +kernel)
theorem bw_1611 : Cond.code yX12_number cX12_number 4 (some .boolean) ∈ BW := bw_on tb_7 (i := 171) (by decide +kernel) (by decide +kernel)
theorem bw_1612 : Cond.methodLink RX12 239 yX12_aPerson ∈ BW := bw_on tb_7 (i := 172) (by decide +kernel) (by decide +kernel)
theorem bw_1614 : Cond.instanceMethod yX12_aPerson ∈ BW := bw_on tb_7 (i := 174) (by decide +kernel) (by decide +kernel)
theorem bw_1615 : Cond.code yX12_aPerson cX12_aPerson 2 (some .boolean) ∈ BW := bw_on tb_7 (i := 175) (by decide +kernel) (by decide +kernel)
theorem bw_1616 : Cond.methodLink RX12 224 yX12_personRow ∈ BW := bw_on tb_7 (i := 176) (by decide +kernel) (by decide +kernel)
theorem bw_1617 : Cond.static yX12_personRow ∈ BW := bw_on tb_7 (i := 177) (by decide +kernel) (by decide +kernel)
theorem bw_1618 : Cond.code yX12_personRow cX12_personRow 1 (some .int) ∈ BW := bw_on tb_7 (i := 178) (by decide +kernel) (by decide +kernel)
theorem bw_1619 : Cond.methodLink RX12 227 yX12_smellsTo ∈ BW := bw_on tb_7 (i := 179) (by decide +kernel) (by decide +kernel)
theorem bw_1621 : Cond.instanceMethod yX12_smellsTo ∈ BW := bw_on tb_7 (i := 181) (by decide +kernel) (by decide +kernel)
theorem bw_1622 : Cond.code yX12_smellsTo cX12_smellsTo 4 (some .boolean) ∈ BW := bw_on tb_7 (i := 182) (by decide +kernel) (by decide +kernel)
theorem bw_1623 : Cond.methodLink RX12 242 yX12_aReader ∈ BW := bw_on tb_7 (i := 183) (by decide +kernel) (by decide +kernel)
theorem bw_1625 : Cond.instanceMethod yX12_aReader ∈ BW := bw_on tb_7 (i := 185) (by decide +kernel) (by decide +kernel)
theorem bw_1626 : Cond.code yX12_aReader cX12_aReader 2 (some .boolean) ∈ BW := bw_on tb_7 (i := 186) (by decide +kernel) (by decide +kernel)
theorem bw_1627 : Cond.methodLink RX12 245 yX12_aWord ∈ BW := bw_on tb_7 (i := 187) (by decide +kernel) (by decide +kernel)
theorem bw_1629 : Cond.instanceMethod yX12_aWord ∈ BW := bw_on tb_7 (i := 189) (by decide +kernel) (by decide +kernel)
theorem bw_1630 : Cond.code yX12_aWord cX12_aWord 3 (some .boolean) ∈ BW := bw_on tb_7 (i := 190) (by decide +kernel) (by decide +kernel)
theorem bw_1631 : Cond.methodLink RX12 248 yX12_wantSign ∈ BW := bw_on tb_7 (i := 191) (by decide +kernel) (by decide +kernel)
theorem bw_1633 : Cond.instanceMethod yX12_wantSign ∈ BW := bw_on tb_7 (i := 193) (by decide +kernel) (by decide +kernel)
theorem bw_1634 : Cond.code yX12_wantSign cX12_wantSign 2 (some .boolean) ∈ BW := bw_on tb_7 (i := 194) (by decide +kernel) (by decide +kernel)
theorem bw_1635 : Cond.methodLink RX12 257 yX12_taken ∈ BW := bw_on tb_7 (i := 195) (by decide +kernel) (by decide +kernel)
theorem bw_1637 : Cond.instanceMethod yX12_taken ∈ BW := bw_on tb_7 (i := 197) (by decide +kernel) (by decide +kernel)
theorem bw_1638 : Cond.code yX12_taken cX12_taken 2 (some .int) ∈ BW := bw_on tb_7 (i := 198) (by decide +kernel) (by decide +kernel)
theorem bw_1639 : Cond.methodLink RX12 95 yX12_gives ∈ BW := bw_on tb_7 (i := 199) (by decide +kernel) (by decide +kernel)
theorem bw_1641 : Cond.instanceMethod yX12_gives ∈ BW := bw_on tb_7 (i := 201) (by decide +kernel) (by decide +kernel)
theorem bw_1642 : Cond.code yX12_gives cX12_gives 2 (some .int) ∈ BW := bw_on tb_7 (i := 202) (by decide +kernel) (by decide +kernel)
theorem bw_1644 : Cond.instanceMethod yX12_weeks ∈ BW := bw_on tb_7 (i := 204) (by decide +kernel) (by decide +kernel)
theorem bw_1645 : Cond.selects RX12 yX12_weeks yX12_weeks ∈ BW := bw_on tb_7 (i := 205) (by decide +kernel) (by decide +kernel)
theorem bw_1646 : Cond.code yX12_weeks cX12_weeks 4 (some .int) ∈ BW := bw_on tb_7 (i := 206) (by decide +kernel) (by decide +kernel)
theorem bw_1647 : Cond.methodLink RX12 278 yX12_weekStep ∈ BW := bw_on tb_7 (i := 207) (by decide +kernel) (by decide +kernel)
theorem bw_1649 : Cond.instanceMethod yX12_weekStep ∈ BW := bw_on tb_7 (i := 209) (by decide +kernel) (by decide +kernel)
theorem bw_1650 : Cond.code yX12_weekStep cX12_weekStep 6 (some .boolean) ∈ BW := bw_on tb_7 (i := 210) (by decide +kernel) (by decide +kernel)
theorem bw_1651 : Cond.methodLink RX12 275 yX12_weekOrder ∈ BW := bw_on tb_7 (i := 211) (by decide +kernel) (by decide +kernel)
theorem bw_1653 : Cond.instanceMethod yX12_weekOrder ∈ BW := bw_on tb_7 (i := 213) (by decide +kernel) (by decide +kernel)
theorem bw_1654 : Cond.code yX12_weekOrder cX12_weekOrder 3 (some .boolean) ∈ BW := bw_on tb_7 (i := 214) (by decide +kernel) (by decide +kernel)
theorem bw_1655 : Cond.methodLink RX12 260 yX12_personTo ∈ BW := bw_on tb_7 (i := 215) (by decide +kernel) (by decide +kernel)
theorem bw_1657 : Cond.instanceMethod yX12_personTo ∈ BW := bw_on tb_7 (i := 217) (by decide +kernel) (by decide +kernel)
theorem bw_1658 : Cond.code yX12_personTo cX12_personTo 2 (some .boolean) ∈ BW := bw_on tb_7 (i := 218) (by decide +kernel) (by decide +kernel)
theorem bw_1659 : Cond.methodLink RX12 263 yX12_smellTo ∈ BW := bw_on tb_7 (i := 219) (by decide +kernel) (by decide +kernel)
theorem bw_1661 : Cond.instanceMethod yX12_smellTo ∈ BW := bw_on tb_7 (i := 221) (by decide +kernel) (by decide +kernel)
theorem bw_1662 : Cond.code yX12_smellTo cX12_smellTo 2 (some .boolean) ∈ BW := bw_on tb_7 (i := 222) (by decide +kernel) (by decide +kernel)
theorem bw_1663 : Cond.methodLink RX12 266 yX12_test ∈ BW := bw_on tb_7 (i := 223) (by decide +kernel) (by decide +kernel)
theorem bw_1665 : Cond.instanceMethod yX12_test ∈ BW := bw_on tb_7 (i := 225) (by decide +kernel) (by decide +kernel)
theorem bw_1666 : Cond.code yX12_test cX12_test 3 (some .boolean) ∈ BW := bw_on tb_7 (i := 226) (by decide +kernel) (by decide +kernel)
theorem bw_1668 : Cond.instanceMethod yX12_told ∈ BW := bw_on tb_7 (i := 228) (by decide +kernel) (by decide +kernel)
theorem bw_1669 : Cond.selects RX12 yX12_told yX12_told ∈ BW := bw_on tb_7 (i := 229) (by decide +kernel) (by decide +kernel)
theorem bw_1670 : Cond.code yX12_told cX12_told 2 (some .int) ∈ BW := bw_on tb_7 (i := 230) (by decide +kernel) (by decide +kernel)
theorem bw_1671 : Cond.methodLink RX12 287 yX12_allVotes ∈ BW := bw_on tb_7 (i := 231) (by decide +kernel) (by decide +kernel)
theorem bw_1673 : Cond.instanceMethod yX12_allVotes ∈ BW := bw_on tb_7 (i := 233) (by decide +kernel) (by decide +kernel)
theorem bw_1674 : Cond.code yX12_allVotes cX12_allVotes 3 (some .int) ∈ BW := bw_on tb_7 (i := 234) (by decide +kernel) (by decide +kernel)
theorem bw_1675 : Cond.methodLink RX12 284 yX12_votesOf ∈ BW := bw_on tb_7 (i := 235) (by decide +kernel) (by decide +kernel)
theorem bw_1677 : Cond.instanceMethod yX12_votesOf ∈ BW := bw_on tb_7 (i := 237) (by decide +kernel) (by decide +kernel)
theorem bw_1678 : Cond.code yX12_votesOf cX12_votesOf 2 (some .int) ∈ BW := bw_on tb_7 (i := 238) (by decide +kernel) (by decide +kernel)
theorem bw_1679 : Cond.methodLink RX12 290 yX12_peopleThat ∈ BW := bw_on tb_7 (i := 239) (by decide +kernel) (by decide +kernel)
theorem bw_1681 : Cond.instanceMethod yX12_peopleThat ∈ BW := bw_on tb_8 (i := 1) (by decide +kernel) (by decide +kernel)
theorem bw_1682 : Cond.code yX12_peopleThat cX12_peopleThat 5 (some .int) ∈ BW := bw_on tb_8 (i := 2) (by decide +kernel) (by decide +kernel)
theorem bw_1683 : Cond.methodLink RX12 281 yX12_personOf ∈ BW := bw_on tb_8 (i := 3) (by decide +kernel) (by decide +kernel)
theorem bw_1685 : Cond.instanceMethod yX12_personOf ∈ BW := bw_on tb_8 (i := 5) (by decide +kernel) (by decide +kernel)
theorem bw_1686 : Cond.code yX12_personOf cX12_personOf 3 (some .int) ∈ BW := bw_on tb_8 (i := 6) (by decide +kernel) (by decide +kernel)
theorem bw_1688 : Cond.instanceMethod yX12_sense ∈ BW := bw_on tb_8 (i := 8) (by decide +kernel) (by decide +kernel)
theorem bw_1689 : Cond.selects RX12 yX12_sense yX12_sense ∈ BW := bw_on tb_8 (i := 9) (by decide +kernel) (by decide +kernel)
theorem bw_1690 : Cond.code yX12_sense cX12_sense 2 (some .int) ∈ BW := bw_on tb_8 (i := 10) (by decide +kernel) (by decide +kernel)
theorem bw_1691 : Cond.methodLink RX12 293 yX12_isCue ∈ BW := bw_on tb_8 (i := 11) (by decide +kernel) (by decide +kernel)
theorem bw_1693 : Cond.instanceMethod yX12_isCue ∈ BW := bw_on tb_8 (i := 13) (by decide +kernel) (by decide +kernel)
theorem bw_1694 : Cond.code yX12_isCue cX12_isCue 2 (some .boolean) ∈ BW := bw_on tb_8 (i := 14) (by decide +kernel) (by decide +kernel)
theorem bw_1696 : Cond.instanceMethod yX12_rule ∈ BW := bw_on tb_8 (i := 16) (by decide +kernel) (by decide +kernel)
theorem bw_1697 : Cond.selects RX12 yX12_rule yX12_rule ∈ BW := bw_on tb_8 (i := 17) (by decide +kernel) (by decide +kernel)
theorem bw_1698 : Cond.code yX12_rule cX12_rule 3 (some .int) ∈ BW := bw_on tb_8 (i := 18) (by decide +kernel) (by decide +kernel)
theorem bw_1699 : Cond.methodLink RX12 296 yX12_isRule ∈ BW := bw_on tb_8 (i := 19) (by decide +kernel) (by decide +kernel)
theorem bw_1701 : Cond.instanceMethod yX12_isRule ∈ BW := bw_on tb_8 (i := 21) (by decide +kernel) (by decide +kernel)
theorem bw_1702 : Cond.code yX12_isRule cX12_isRule 2 (some .boolean) ∈ BW := bw_on tb_8 (i := 22) (by decide +kernel) (by decide +kernel)
theorem bw_1703 : Cond.methodLink RX12 299 yX12_ruleOf ∈ BW := bw_on tb_8 (i := 23) (by decide +kernel) (by decide +kernel)
theorem bw_1705 : Cond.instanceMethod yX12_ruleOf ∈ BW := bw_on tb_8 (i := 25) (by decide +kernel) (by decide +kernel)
theorem bw_1706 : Cond.code yX12_ruleOf cX12_ruleOf 3 (some .int) ∈ BW := bw_on tb_8 (i := 26) (by decide +kernel) (by decide +kernel)
theorem bw_1707 : Cond.methodLink RX12 302 yX12_orNone ∈ BW := bw_on tb_8 (i := 27) (by decide +kernel) (by decide +kernel)
theorem bw_1709 : Cond.instanceMethod yX12_orNone ∈ BW := bw_on tb_8 (i := 29) (by decide +kernel) (by decide +kernel)
theorem bw_1710 : Cond.code yX12_orNone cX12_orNone 2 (some .int) ∈ BW := bw_on tb_8 (i := 30) (by decide +kernel) (by decide +kernel)
theorem bw_1712 : Cond.instanceMethod yX12_person ∈ BW := bw_on tb_8 (i := 32) (by decide +kernel) (by decide +kernel)
theorem bw_1713 : Cond.selects RX12 yX12_person yX12_person ∈ BW := bw_on tb_8 (i := 33) (by decide +kernel) (by decide +kernel)
theorem bw_1714 : Cond.code yX12_person cX12_person 3 (some .int) ∈ BW := bw_on tb_8 (i := 34) (by decide +kernel) (by decide +kernel)
theorem bw_1715 : Cond.methodLink RX12 305 yX12_isPerson ∈ BW := bw_on tb_8 (i := 35) (by decide +kernel) (by decide +kernel)
theorem bw_1717 : Cond.instanceMethod yX12_isPerson ∈ BW := bw_on tb_8 (i := 37) (by decide +kernel) (by decide +kernel)
theorem bw_1718 : Cond.code yX12_isPerson cX12_isPerson 3 (some .boolean) ∈ BW := bw_on tb_8 (i := 38) (by decide +kernel) (by decide +kernel)
theorem bw_1720 : Cond.instanceMethod yX12_reader ∈ BW := bw_on tb_8 (i := 40) (by decide +kernel) (by decide +kernel)
theorem bw_1721 : Cond.selects RX12 yX12_reader yX12_reader ∈ BW := bw_on tb_8 (i := 41) (by decide +kernel) (by decide +kernel)
theorem bw_1722 : Cond.code yX12_reader cX12_reader 3 (some .int) ∈ BW := bw_on tb_8 (i := 42) (by decide +kernel) (by decide +kernel)
theorem bw_1723 : Cond.methodLink RX12 309 yX12_isReader ∈ BW := bw_on tb_8 (i := 43) (by decide +kernel) (by decide +kernel)
theorem bw_1725 : Cond.instanceMethod yX12_isReader ∈ BW := bw_on tb_8 (i := 45) (by decide +kernel) (by decide +kernel)
theorem bw_1726 : Cond.code yX12_isReader cX12_isReader 2 (some .boolean) ∈ BW := bw_on tb_8 (i := 46) (by decide +kernel) (by decide +kernel)
theorem bw_1727 : Cond.methodLink RX12 312 yX12_slipOf ∈ BW := bw_on tb_8 (i := 47) (by decide +kernel) (by decide +kernel)
theorem bw_1729 : Cond.instanceMethod yX12_slipOf ∈ BW := bw_on tb_8 (i := 49) (by decide +kernel) (by decide +kernel)
theorem bw_1730 : Cond.code yX12_slipOf cX12_slipOf 2 (some .int) ∈ BW := bw_on tb_8 (i := 50) (by decide +kernel) (by decide +kernel)
theorem bw_1732 : Cond.instanceMethod yX12_word ∈ BW := bw_on tb_8 (i := 52) (by decide +kernel) (by decide +kernel)
theorem bw_1733 : Cond.selects RX12 yX12_word yX12_word ∈ BW := bw_on tb_8 (i := 53) (by decide +kernel) (by decide +kernel)
theorem bw_1734 : Cond.code yX12_word cX12_word 3 (some .int) ∈ BW := bw_on tb_8 (i := 54) (by decide +kernel) (by decide +kernel)
theorem bw_1736 : Cond.instanceMethod yX12_cue ∈ BW := bw_on tb_8 (i := 56) (by decide +kernel) (by decide +kernel)
theorem bw_1737 : Cond.selects RX12 yX12_cue yX12_cue ∈ BW := bw_on tb_8 (i := 57) (by decide +kernel) (by decide +kernel)
theorem bw_1738 : Cond.code yX12_cue cX12_cue 2 (some .int) ∈ BW := bw_on tb_8 (i := 58) (by decide +kernel) (by decide +kernel)
theorem bw_1739 : Cond.methodLink RX12 332 yX12_cueFor ∈ BW := bw_on tb_8 (i := 59) (by decide +kernel) (by decide +kernel)
theorem bw_1741 : Cond.instanceMethod yX12_cueFor ∈ BW := bw_on tb_8 (i := 61) (by decide +kernel) (by decide +kernel)
theorem bw_1742 : Cond.code yX12_cueFor cX12_cueFor 4 (some .int) ∈ BW := bw_on tb_8 (i := 62) (by decide +kernel) (by decide +kernel)
theorem bw_1743 : Cond.methodLink RX12 329 yX12_ruleFor ∈ BW := bw_on tb_8 (i := 63) (by decide +kernel) (by decide +kernel)
theorem bw_1745 : Cond.instanceMethod yX12_ruleFor ∈ BW := bw_on tb_8 (i := 65) (by decide +kernel) (by decide +kernel)
theorem bw_1746 : Cond.code yX12_ruleFor cX12_ruleFor 3 (some .int) ∈ BW := bw_on tb_8 (i := 66) (by decide +kernel) (by decide +kernel)
theorem bw_1747 : Cond.methodLink RX12 325 yX12_firstOf ∈ BW := bw_on tb_8 (i := 67) (by decide +kernel) (by decide +kernel)
theorem bw_1749 : Cond.instanceMethod yX12_firstOf ∈ BW := bw_on tb_8 (i := 69) (by decide +kernel) (by decide +kernel)
theorem bw_1750 : Cond.code yX12_firstOf cX12_firstOf 6 (some .int) ∈ BW := bw_on tb_8 (i := 70) (by decide +kernel) (by decide +kernel)
theorem bw_1751 : Cond.methodLink RX12 321 yX12_doesBear ∈ BW := bw_on tb_8 (i := 71) (by decide +kernel) (by decide +kernel)
theorem bw_1753 : Cond.instanceMethod yX12_doesBear ∈ BW := bw_on tb_8 (i := 73) (by decide +kernel) (by decide +kernel)
theorem bw_1754 : Cond.code yX12_doesBear cX12_doesBear 8 (some .boolean) ∈ BW := bw_on tb_8 (i := 74) (by decide +kernel) (by decide +kernel)
theorem bw_1755 : Cond.methodLink RX12 315 yX12_isIn ∈ BW := bw_on tb_8 (i := 75) (by decide +kernel) (by decide +kernel)
theorem bw_1757 : Cond.instanceMethod yX12_isIn ∈ BW := bw_on tb_8 (i := 77) (by decide +kernel) (by decide +kernel)
theorem bw_1758 : Cond.code yX12_isIn cX12_isIn 3 (some .boolean) ∈ BW := bw_on tb_8 (i := 78) (by decide +kernel) (by decide +kernel)
theorem bw_1759 : Cond.methodLink RX12 318 yX12_isSo ∈ BW := bw_on tb_8 (i := 79) (by decide +kernel) (by decide +kernel)
theorem bw_1760 : Cond.static yX12_isSo ∈ BW := bw_on tb_8 (i := 80) (by decide +kernel) (by decide +kernel)
theorem bw_1761 : Cond.code yX12_isSo cX12_isSo 3 (some .boolean) ∈ BW := bw_on tb_8 (i := 81) (by decide +kernel) (by decide +kernel)
theorem bw_1763 : Cond.instanceMethod yX12_cueAt ∈ BW := bw_on tb_8 (i := 83) (by decide +kernel) (by decide +kernel)
theorem bw_1764 : Cond.selects RX12 yX12_cueAt yX12_cueAt ∈ BW := bw_on tb_8 (i := 84) (by decide +kernel) (by decide +kernel)
theorem bw_1765 : Cond.code yX12_cueAt cX12_cueAt 3 (some .int) ∈ BW := bw_on tb_8 (i := 85) (by decide +kernel) (by decide +kernel)
theorem bw_1766 : Cond.constantLong RX12 335 (9) ∈ BW := bw_on tb_8 (i := 86) (by decide +kernel) (by decide +kernel)
theorem bw_1767 : Cond.methodLink RX12 337 yX12_isFrom ∈ BW := bw_on tb_8 (i := 87) (by decide +kernel) (by decide +kernel)
theorem bw_1768 : Cond.static yX12_isFrom ∈ BW := bw_on tb_8 (i := 88) (by decide +kernel) (by decide +kernel)
theorem bw_1769 : Cond.code yX12_isFrom cX12_isFrom 6 (some .boolean) ∈ BW := bw_on tb_8 (i := 89) (by decide +kernel) (by decide +kernel)
theorem bw_1771 : Cond.instanceMethod yX12_bears ∈ BW := bw_on tb_8 (i := 91) (by decide +kernel) (by decide +kernel)
theorem bw_1772 : Cond.selects RX12 yX12_bears yX12_bears ∈ BW := bw_on tb_8 (i := 92) (by decide +kernel) (by decide +kernel)
theorem bw_1773 : Cond.code yX12_bears cX12_bears 2 (some .int) ∈ BW := bw_on tb_8 (i := 93) (by decide +kernel) (by decide +kernel)
theorem bw_1775 : Cond.instanceMethod yX12_bearing ∈ BW := bw_on tb_8 (i := 95) (by decide +kernel) (by decide +kernel)
theorem bw_1776 : Cond.selects RX12 yX12_bearing yX12_bearing ∈ BW := bw_on tb_8 (i := 96) (by decide +kernel) (by decide +kernel)
theorem bw_1777 : Cond.code yX12_bearing cX12_bearing 4 (some .int) ∈ BW := bw_on tb_8 (i := 97) (by decide +kernel) (by decide +kernel)
theorem bw_1779 : Cond.instanceMethod yX12_shown ∈ BW := bw_on tb_8 (i := 99) (by decide +kernel) (by decide +kernel)
theorem bw_1780 : Cond.selects RX12 yX12_shown yX12_shown ∈ BW := bw_on tb_8 (i := 100) (by decide +kernel) (by decide +kernel)
theorem bw_1781 : Cond.code yX12_shown cX12_shown 4 (some .int) ∈ BW := bw_on tb_8 (i := 101) (by decide +kernel) (by decide +kernel)
theorem bw_1783 : Cond.instanceMethod yX12_sit ∈ BW := bw_on tb_8 (i := 103) (by decide +kernel) (by decide +kernel)
theorem bw_1784 : Cond.selects RX12 yX12_sit yX12_sit ∈ BW := bw_on tb_8 (i := 104) (by decide +kernel) (by decide +kernel)
theorem bw_1785 : Cond.code yX12_sit cX12_sit 3 (some .int) ∈ BW := bw_on tb_8 (i := 105) (by decide +kernel) (by decide +kernel)
theorem bw_1786 : Cond.methodLink RX12 341 yX12_sits ∈ BW := bw_on tb_8 (i := 106) (by decide +kernel) (by decide +kernel)
theorem bw_1788 : Cond.instanceMethod yX12_sits ∈ BW := bw_on tb_8 (i := 108) (by decide +kernel) (by decide +kernel)
theorem bw_1789 : Cond.code yX12_sits cX12_sits 3 (some .int) ∈ BW := bw_on tb_8 (i := 109) (by decide +kernel) (by decide +kernel)
theorem bw_1791 : Cond.instanceMethod yX12_term ∈ BW := bw_on tb_8 (i := 111) (by decide +kernel) (by decide +kernel)
theorem bw_1792 : Cond.selects RX12 yX12_term yX12_term ∈ BW := bw_on tb_8 (i := 112) (by decide +kernel) (by decide +kernel)
theorem bw_1793 : Cond.code yX12_term cX12_term 1 (some .int) ∈ BW := bw_on tb_8 (i := 113) (by decide +kernel) (by decide +kernel)
theorem bw_1794 : Cond.methodLink RX12 347 yX12_isTooMuch ∈ BW := bw_on tb_8 (i := 114) (by decide +kernel) (by decide +kernel)
theorem bw_1796 : Cond.instanceMethod yX12_isTooMuch ∈ BW := bw_on tb_8 (i := 116) (by decide +kernel) (by decide +kernel)
theorem bw_1797 : Cond.code yX12_isTooMuch cX12_isTooMuch 1 (some .boolean) ∈ BW := bw_on tb_8 (i := 117) (by decide +kernel) (by decide +kernel)
theorem bw_1798 : Cond.methodLink RX12 344 yX12_bits ∈ BW := bw_on tb_8 (i := 118) (by decide +kernel) (by decide +kernel)
theorem bw_1799 : Cond.static yX12_bits ∈ BW := bw_on tb_8 (i := 119) (by decide +kernel) (by decide +kernel)
theorem bw_1800 : Cond.code yX12_bits cX12_bits 3 (some .int) ∈ BW := bw_on tb_8 (i := 120) (by decide +kernel) (by decide +kernel)
theorem bw_1801 : Cond.methodLink RX12 350 yX12_terms ∈ BW := bw_on tb_8 (i := 121) (by decide +kernel) (by decide +kernel)
theorem bw_1803 : Cond.instanceMethod yX12_terms ∈ BW := bw_on tb_8 (i := 123) (by decide +kernel) (by decide +kernel)
theorem bw_1804 : Cond.code yX12_terms cX12_terms 6 (some .int) ∈ BW := bw_on tb_8 (i := 124) (by decide +kernel) (by decide +kernel)
theorem bw_1806 : Cond.instanceMethod yX12_meal ∈ BW := bw_on tb_8 (i := 126) (by decide +kernel) (by decide +kernel)
theorem bw_1807 : Cond.selects RX12 yX12_meal yX12_meal ∈ BW := bw_on tb_8 (i := 127) (by decide +kernel) (by decide +kernel)
theorem bw_1808 : Cond.code yX12_meal cX12_meal 3 (some .int) ∈ BW := bw_on tb_8 (i := 128) (by decide +kernel) (by decide +kernel)
theorem bw_1809 : Cond.constantLong RX12 353 (99) ∈ BW := bw_on tb_8 (i := 129) (by decide +kernel) (by decide +kernel)
theorem bw_1810 : Cond.methodLink RX12 355 yX12_meals ∈ BW := bw_on tb_8 (i := 130) (by decide +kernel) (by decide +kernel)
theorem bw_1812 : Cond.instanceMethod yX12_meals ∈ BW := bw_on tb_8 (i := 132) (by decide +kernel) (by decide +kernel)
theorem bw_1813 : Cond.code yX12_meals cX12_meals 4 (some .boolean) ∈ BW := bw_on tb_8 (i := 133) (by decide +kernel) (by decide +kernel)
theorem bw_1815 : Cond.instanceMethod yX12_scent ∈ BW := bw_on tb_8 (i := 135) (by decide +kernel) (by decide +kernel)
theorem bw_1816 : Cond.selects RX12 yX12_scent yX12_scent ∈ BW := bw_on tb_8 (i := 136) (by decide +kernel) (by decide +kernel)
theorem bw_1817 : Cond.code yX12_scent cX12_scent 4 (some .boolean) ∈ BW := bw_on tb_8 (i := 137) (by decide +kernel) (by decide +kernel)
theorem bw_1818 : Cond.methodLink RX12 358 yX12_isSmell ∈ BW := bw_on tb_8 (i := 138) (by decide +kernel) (by decide +kernel)
theorem bw_1820 : Cond.instanceMethod yX12_isSmell ∈ BW := bw_on tb_8 (i := 140) (by decide +kernel) (by decide +kernel)
theorem bw_1821 : Cond.code yX12_isSmell cX12_isSmell 2 (some .boolean) ∈ BW := bw_on tb_8 (i := 141) (by decide +kernel) (by decide +kernel)
theorem bw_1822 : Cond.methodLink RX12 361 yX12_scents ∈ BW := bw_on tb_8 (i := 142) (by decide +kernel) (by decide +kernel)
theorem bw_1824 : Cond.instanceMethod yX12_scents ∈ BW := bw_on tb_8 (i := 144) (by decide +kernel) (by decide +kernel)
theorem bw_1825 : Cond.code yX12_scents cX12_scents 4 (some .boolean) ∈ BW := bw_on tb_8 (i := 145) (by decide +kernel) (by decide +kernel)
theorem bw_1827 : Cond.instanceMethod yX12_night ∈ BW := bw_on tb_8 (i := 147) (by decide +kernel) (by decide +kernel)
theorem bw_1828 : Cond.selects RX12 yX12_night yX12_night ∈ BW := bw_on tb_8 (i := 148) (by decide +kernel) (by decide +kernel)
theorem bw_1829 : Cond.code yX12_night cX12_night 2 (some .int) ∈ BW := bw_on tb_8 (i := 149) (by decide +kernel) (by decide +kernel)
theorem bw_1830 : Cond.methodLink RX12 365 yX12_nights ∈ BW := bw_on tb_8 (i := 150) (by decide +kernel) (by decide +kernel)
theorem bw_1832 : Cond.instanceMethod yX12_nights ∈ BW := bw_on tb_8 (i := 152) (by decide +kernel) (by decide +kernel)
theorem bw_1833 : Cond.code yX12_nights cX12_nights 2 (some .boolean) ∈ BW := bw_on tb_8 (i := 153) (by decide +kernel) (by decide +kernel)
theorem bw_1835 : Cond.instanceMethod yX12_appeal ∈ BW := bw_on tb_8 (i := 155) (by decide +kernel) (by decide +kernel)
theorem bw_1836 : Cond.selects RX12 yX12_appeal yX12_appeal ∈ BW := bw_on tb_8 (i := 156) (by decide +kernel) (by decide +kernel)
theorem bw_1837 : Cond.code yX12_appeal cX12_appeal 3 (some .int) ∈ BW := bw_on tb_8 (i := 157) (by decide +kernel) (by decide +kernel)
theorem bw_1839 : Cond.instanceMethod yX12_blame ∈ BW := bw_on tb_8 (i := 159) (by decide +kernel) (by decide +kernel)
theorem bw_1840 : Cond.selects RX12 yX12_blame yX12_blame ∈ BW := bw_on tb_8 (i := 160) (by decide +kernel) (by decide +kernel)
theorem bw_1841 : Cond.code yX12_blame cX12_blame 4 (some .boolean) ∈ BW := bw_on tb_8 (i := 161) (by decide +kernel) (by decide +kernel)
theorem bw_1843 : Cond.instanceMethod yX12_reread ∈ BW := bw_on tb_8 (i := 163) (by decide +kernel) (by decide +kernel)
theorem bw_1844 : Cond.selects RX12 yX12_reread yX12_reread ∈ BW := bw_on tb_8 (i := 164) (by decide +kernel) (by decide +kernel)
theorem bw_1845 : Cond.code yX12_reread cX12_reread 3 (some .boolean) ∈ BW := bw_on tb_8 (i := 165) (by decide +kernel) (by decide +kernel)
theorem bw_1846 : Cond.constantLong RX12 368 (2) ∈ BW := bw_on tb_8 (i := 166) (by decide +kernel) (by decide +kernel)
theorem bw_1848 : Cond.instanceMethod yX12_enact ∈ BW := bw_on tb_8 (i := 168) (by decide +kernel) (by decide +kernel)
theorem bw_1849 : Cond.selects RX12 yX12_enact yX12_enact ∈ BW := bw_on tb_8 (i := 169) (by decide +kernel) (by decide +kernel)
theorem bw_1850 : Cond.code yX12_enact cX12_enact 6 (some .int) ∈ BW := bw_on tb_8 (i := 170) (by decide +kernel) (by decide +kernel)
theorem bw_1852 : Cond.instanceMethod yX12_repeal ∈ BW := bw_on tb_8 (i := 172) (by decide +kernel) (by decide +kernel)
theorem bw_1853 : Cond.selects RX12 yX12_repeal yX12_repeal ∈ BW := bw_on tb_8 (i := 173) (by decide +kernel) (by decide +kernel)
theorem bw_1854 : Cond.code yX12_repeal cX12_repeal 3 (some .int) ∈ BW := bw_on tb_8 (i := 174) (by decide +kernel) (by decide +kernel)
theorem bw_1856 : Cond.instanceMethod yX12_strain ∈ BW := bw_on tb_8 (i := 176) (by decide +kernel) (by decide +kernel)
theorem bw_1857 : Cond.selects RX12 yX12_strain yX12_strain ∈ BW := bw_on tb_8 (i := 177) (by decide +kernel) (by decide +kernel)
theorem bw_1858 : Cond.code yX12_strain cX12_strain 3 (some .boolean) ∈ BW := bw_on tb_8 (i := 178) (by decide +kernel) (by decide +kernel)
theorem bw_1859 : Cond.constantLong RX12 370 (16) ∈ BW := bw_on tb_8 (i := 179) (by decide +kernel) (by decide +kernel)
theorem bw_1861 : Cond.instanceMethod yX12_freeIn ∈ BW := bw_on tb_8 (i := 181) (by decide +kernel) (by decide +kernel)
theorem bw_1862 : Cond.selects RX12 yX12_freeIn yX12_freeIn ∈ BW := bw_on tb_8 (i := 182) (by decide +kernel) (by decide +kernel)
theorem bw_1863 : Cond.code yX12_freeIn cX12_freeIn 3 (some .int) ∈ BW := bw_on tb_8 (i := 183) (by decide +kernel) (by decide +kernel)
theorem bw_1864 : Cond.constantLong RX12 372 (40) ∈ BW := bw_on tb_8 (i := 184) (by decide +kernel) (by decide +kernel)
theorem bw_1865 : Cond.methodLink RX12 374 yX12_keeps ∈ BW := bw_on tb_8 (i := 185) (by decide +kernel) (by decide +kernel)
theorem bw_1867 : Cond.instanceMethod yX12_keeps ∈ BW := bw_on tb_8 (i := 187) (by decide +kernel) (by decide +kernel)
theorem bw_1868 : Cond.code yX12_keeps cX12_keeps 3 none ∈ BW := bw_on tb_8 (i := 188) (by decide +kernel) (by decide +kernel)
theorem bw_1869 : Cond.methodLink RX12 377 yX12_restores ∈ BW := bw_on tb_8 (i := 189) (by decide +kernel) (by decide +kernel)
theorem bw_1871 : Cond.instanceMethod yX12_restores ∈ BW := bw_on tb_8 (i := 191) (by decide +kernel) (by decide +kernel)
theorem bw_1872 : Cond.code yX12_restores cX12_restores 3 none ∈ BW := bw_on tb_8 (i := 192) (by decide +kernel) (by decide +kernel)
theorem bw_1874 : Cond.instanceMethod yX12_judgedIn ∈ BW := bw_on tb_8 (i := 194) (by decide +kernel) (by decide +kernel)
theorem bw_1875 : Cond.selects RX12 yX12_judgedIn yX12_judgedIn ∈ BW := bw_on tb_8 (i := 195) (by decide +kernel) (by decide +kernel)
theorem bw_1876 : Cond.code yX12_judgedIn cX12_judgedIn 4 (some .int) ∈ BW := bw_on tb_8 (i := 196) (by decide +kernel) (by decide +kernel)
theorem bw_1878 : Cond.instanceMethod yX12_fits ∈ BW := bw_on tb_8 (i := 198) (by decide +kernel) (by decide +kernel)
theorem bw_1879 : Cond.selects RX12 yX12_fits yX12_fits ∈ BW := bw_on tb_8 (i := 199) (by decide +kernel) (by decide +kernel)
theorem bw_1880 : Cond.code yX12_fits cX12_fits 4 (some .int) ∈ BW := bw_on tb_8 (i := 200) (by decide +kernel) (by decide +kernel)
theorem bw_1881 : Cond.methodLink RX12 395 yX12_wrongSeen ∈ BW := bw_on tb_8 (i := 201) (by decide +kernel) (by decide +kernel)
theorem bw_1883 : Cond.instanceMethod yX12_wrongSeen ∈ BW := bw_on tb_8 (i := 203) (by decide +kernel) (by decide +kernel)
theorem bw_1884 : Cond.code yX12_wrongSeen cX12_wrongSeen 5 (some .int) ∈ BW := bw_on tb_8 (i := 204) (by decide +kernel) (by decide +kernel)
theorem bw_1885 : Cond.constantLong RX12 380 (20) ∈ BW := bw_on tb_8 (i := 205) (by decide +kernel) (by decide +kernel)
theorem bw_1886 : Cond.methodLink RX12 398 yX12_laysFits ∈ BW := bw_on tb_8 (i := 206) (by decide +kernel) (by decide +kernel)
theorem bw_1888 : Cond.instanceMethod yX12_laysFits ∈ BW := bw_on tb_8 (i := 208) (by decide +kernel) (by decide +kernel)
theorem bw_1889 : Cond.code yX12_laysFits cX12_laysFits 4 none ∈ BW := bw_on tb_8 (i := 209) (by decide +kernel) (by decide +kernel)
theorem bw_1890 : Cond.methodLink RX12 392 yX12_doesFit ∈ BW := bw_on tb_8 (i := 210) (by decide +kernel) (by decide +kernel)
theorem bw_1892 : Cond.instanceMethod yX12_doesFit ∈ BW := bw_on tb_8 (i := 212) (by decide +kernel) (by decide +kernel)
theorem bw_1893 : Cond.code yX12_doesFit cX12_doesFit 6 (some .boolean) ∈ BW := bw_on tb_8 (i := 213) (by decide +kernel) (by decide +kernel)
theorem bw_1894 : Cond.methodLink RX12 385 yX12_wouldShow ∈ BW := bw_on tb_8 (i := 214) (by decide +kernel) (by decide +kernel)
theorem bw_1896 : Cond.instanceMethod yX12_wouldShow ∈ BW := bw_on tb_8 (i := 216) (by decide +kernel) (by decide +kernel)
theorem bw_1897 : Cond.code yX12_wouldShow cX12_wouldShow 5 (some .int) ∈ BW := bw_on tb_8 (i := 217) (by decide +kernel) (by decide +kernel)
theorem bw_1898 : Cond.methodLink RX12 382 yX12_cueOf ∈ BW := bw_on tb_8 (i := 218) (by decide +kernel) (by decide +kernel)
theorem bw_1900 : Cond.instanceMethod yX12_cueOf ∈ BW := bw_on tb_8 (i := 220) (by decide +kernel) (by decide +kernel)
theorem bw_1901 : Cond.code yX12_cueOf cX12_cueOf 6 (some .int) ∈ BW := bw_on tb_8 (i := 221) (by decide +kernel) (by decide +kernel)
theorem bw_1903 : Cond.instanceMethod yX12_sure ∈ BW := bw_on tb_8 (i := 223) (by decide +kernel) (by decide +kernel)
theorem bw_1904 : Cond.selects RX12 yX12_sure yX12_sure ∈ BW := bw_on tb_8 (i := 224) (by decide +kernel) (by decide +kernel)
theorem bw_1905 : Cond.code yX12_sure cX12_sure 6 (some .int) ∈ BW := bw_on tb_8 (i := 225) (by decide +kernel) (by decide +kernel)
theorem bw_1906 : Cond.methodLink RX12 402 yX12_guiltyIn ∈ BW := bw_on tb_8 (i := 226) (by decide +kernel) (by decide +kernel)
theorem bw_1908 : Cond.instanceMethod yX12_guiltyIn ∈ BW := bw_on tb_8 (i := 228) (by decide +kernel) (by decide +kernel)
theorem bw_1909 : Cond.code yX12_guiltyIn cX12_guiltyIn 4 (some .int) ∈ BW := bw_on tb_8 (i := 229) (by decide +kernel) (by decide +kernel)
theorem bw_1911 : Cond.instanceMethod yX12_odds ∈ BW := bw_on tb_8 (i := 231) (by decide +kernel) (by decide +kernel)
theorem bw_1912 : Cond.selects RX12 yX12_odds yX12_odds ∈ BW := bw_on tb_8 (i := 232) (by decide +kernel) (by decide +kernel)
theorem bw_1913 : Cond.code yX12_odds cX12_odds 5 (some .boolean) ∈ BW := bw_on tb_8 (i := 233) (by decide +kernel) (by decide +kernel)
theorem bw_1914 : Cond.methodLink RX12 405 yX12_tellsBy ∈ BW := bw_on tb_8 (i := 234) (by decide +kernel) (by decide +kernel)
theorem bw_1916 : Cond.instanceMethod yX12_tellsBy ∈ BW := bw_on tb_8 (i := 236) (by decide +kernel) (by decide +kernel)
theorem bw_1917 : Cond.code yX12_tellsBy cX12_tellsBy 11 (some .boolean) ∈ BW := bw_on tb_8 (i := 237) (by decide +kernel) (by decide +kernel)
theorem bw_1919 : Cond.instanceMethod yX12_ask ∈ BW := bw_on tb_8 (i := 239) (by decide +kernel) (by decide +kernel)
theorem bw_1920 : Cond.selects RX12 yX12_ask yX12_ask ∈ BW := bw_on tb_9 (i := 0) (by decide +kernel) (by decide +kernel)
theorem bw_1921 : Cond.code yX12_ask cX12_ask 9 (some .int) ∈ BW := bw_on tb_9 (i := 1) (by decide +kernel) (by decide +kernel)
theorem bw_1922 : Cond.constant RX12 412 (1000000) ∈ BW := bw_on tb_9 (i := 2) (by decide +kernel) (by decide +kernel)
theorem bw_1923 : Cond.methodLink RX12 413 yX12_mostAlike ∈ BW := bw_on tb_9 (i := 3) (by decide +kernel) (by decide +kernel)
theorem bw_1925 : Cond.instanceMethod yX12_mostAlike ∈ BW := bw_on tb_9 (i := 5) (by decide +kernel) (by decide +kernel)
theorem bw_1926 : Cond.code yX12_mostAlike cX12_mostAlike 6 (some .int) ∈ BW := bw_on tb_9 (i := 6) (by decide +kernel) (by decide +kernel)
theorem bw_1927 : Cond.methodLink RX12 409 Lib.Math.max.name ∈ BW := bw_on tb_9 (i := 7) (by decide +kernel) (by decide +kernel)
theorem bw_1929 : Cond.instanceMethod yX12_least ∈ BW := bw_on tb_9 (i := 9) (by decide +kernel) (by decide +kernel)
theorem bw_1930 : Cond.selects RX12 yX12_least yX12_least ∈ BW := bw_on tb_9 (i := 10) (by decide +kernel) (by decide +kernel)
theorem bw_1931 : Cond.code yX12_least cX12_least 3 (some .int) ∈ BW := bw_on tb_9 (i := 11) (by decide +kernel) (by decide +kernel)
theorem bw_1932 : Cond.methodLink RX12 425 yX12_laysLeast ∈ BW := bw_on tb_9 (i := 12) (by decide +kernel) (by decide +kernel)
theorem bw_1934 : Cond.instanceMethod yX12_laysLeast ∈ BW := bw_on tb_9 (i := 14) (by decide +kernel) (by decide +kernel)
theorem bw_1935 : Cond.code yX12_laysLeast cX12_laysLeast 7 none ∈ BW := bw_on tb_9 (i := 15) (by decide +kernel) (by decide +kernel)
theorem bw_1937 : Cond.instanceMethod yX12_leastBy ∈ BW := bw_on tb_9 (i := 17) (by decide +kernel) (by decide +kernel)
theorem bw_1938 : Cond.selects RX12 yX12_leastBy yX12_leastBy ∈ BW := bw_on tb_9 (i := 18) (by decide +kernel) (by decide +kernel)
theorem bw_1939 : Cond.code yX12_leastBy cX12_leastBy 4 (some .int) ∈ BW := bw_on tb_9 (i := 19) (by decide +kernel) (by decide +kernel)
theorem bw_1941 : Cond.instanceMethod yX12_reach ∈ BW := bw_on tb_9 (i := 21) (by decide +kernel) (by decide +kernel)
theorem bw_1942 : Cond.selects RX12 yX12_reach yX12_reach ∈ BW := bw_on tb_9 (i := 22) (by decide +kernel) (by decide +kernel)
theorem bw_1943 : Cond.code yX12_reach cX12_reach 2 (some .int) ∈ BW := bw_on tb_9 (i := 23) (by decide +kernel) (by decide +kernel)
theorem bw_1944 : Cond.methodLink RX12 428 yX12_laysWorlds ∈ BW := bw_on tb_9 (i := 24) (by decide +kernel) (by decide +kernel)
theorem bw_1946 : Cond.instanceMethod yX12_laysWorlds ∈ BW := bw_on tb_9 (i := 26) (by decide +kernel) (by decide +kernel)
theorem bw_1947 : Cond.code yX12_laysWorlds cX12_laysWorlds 4 none ∈ BW := bw_on tb_9 (i := 27) (by decide +kernel) (by decide +kernel)
theorem bw_1949 : Cond.instanceMethod yX12_idle ∈ BW := bw_on tb_9 (i := 29) (by decide +kernel) (by decide +kernel)
theorem bw_1950 : Cond.selects RX12 yX12_idle yX12_idle ∈ BW := bw_on tb_9 (i := 30) (by decide +kernel) (by decide +kernel)
theorem bw_1951 : Cond.code yX12_idle cX12_idle 3 (some .int) ∈ BW := bw_on tb_9 (i := 31) (by decide +kernel) (by decide +kernel)
theorem bw_1953 : Cond.instanceMethod yX12_tells ∈ BW := bw_on tb_9 (i := 33) (by decide +kernel) (by decide +kernel)
theorem bw_1954 : Cond.selects RX12 yX12_tells yX12_tells ∈ BW := bw_on tb_9 (i := 34) (by decide +kernel) (by decide +kernel)
theorem bw_1955 : Cond.code yX12_tells cX12_tells 5 (some .boolean) ∈ BW := bw_on tb_9 (i := 35) (by decide +kernel) (by decide +kernel)
theorem bw_1957 : Cond.instanceMethod yX12_mute ∈ BW := bw_on tb_9 (i := 37) (by decide +kernel) (by decide +kernel)
theorem bw_1958 : Cond.selects RX12 yX12_mute yX12_mute ∈ BW := bw_on tb_9 (i := 38) (by decide +kernel) (by decide +kernel)
theorem bw_1959 : Cond.code yX12_mute cX12_mute 1 (some .int) ∈ BW := bw_on tb_9 (i := 39) (by decide +kernel) (by decide +kernel)
theorem bw_1961 : Cond.instanceMethod yX12_verdict ∈ BW := bw_on tb_9 (i := 41) (by decide +kernel) (by decide +kernel)
theorem bw_1962 : Cond.selects RX12 yX12_verdict yX12_verdict ∈ BW := bw_on tb_9 (i := 42) (by decide +kernel) (by decide +kernel)
theorem bw_1963 : Cond.code yX12_verdict cX12_verdict 2 (some .boolean) ∈ BW := bw_on tb_9 (i := 43) (by decide +kernel) (by decide +kernel)
theorem bw_1964 : Cond.methodLink RX12 431 yX12_rightOf ∈ BW := bw_on tb_9 (i := 44) (by decide +kernel) (by decide +kernel)
theorem bw_1966 : Cond.instanceMethod yX12_rightOf ∈ BW := bw_on tb_9 (i := 46) (by decide +kernel) (by decide +kernel)
theorem bw_1967 : Cond.code yX12_rightOf cX12_rightOf 10 (some .long) ∈ BW := bw_on tb_9 (i := 47) (by decide +kernel) (by decide +kernel)
theorem bw_1969 : Cond.instanceMethod yX12_sworn ∈ BW := bw_on tb_9 (i := 49) (by decide +kernel) (by decide +kernel)
theorem bw_1970 : Cond.selects RX12 yX12_sworn yX12_sworn ∈ BW := bw_on tb_9 (i := 50) (by decide +kernel) (by decide +kernel)
theorem bw_1971 : Cond.code yX12_sworn cX12_sworn 8 (some .int) ∈ BW := bw_on tb_9 (i := 51) (by decide +kernel) (by decide +kernel)
theorem bw_1972 : Cond.constantLong RX12 435 (6) ∈ BW := bw_on tb_9 (i := 52) (by decide +kernel) (by decide +kernel)
theorem bw_1974 : Cond.instanceMethod yX12_power ∈ BW := bw_on tb_9 (i := 54) (by decide +kernel) (by decide +kernel)
theorem bw_1975 : Cond.selects RX12 yX12_power yX12_power ∈ BW := bw_on tb_9 (i := 55) (by decide +kernel) (by decide +kernel)
theorem bw_1976 : Cond.code yX12_power cX12_power 8 (some .boolean) ∈ BW := bw_on tb_9 (i := 56) (by decide +kernel) (by decide +kernel)
theorem bw_1977 : Cond.methodLink RX12 437 yX12_orders ∈ BW := bw_on tb_9 (i := 57) (by decide +kernel) (by decide +kernel)
theorem bw_1978 : Cond.static yX12_orders ∈ BW := bw_on tb_9 (i := 58) (by decide +kernel) (by decide +kernel)
theorem bw_1979 : Cond.code yX12_orders cX12_orders 4 (some .long) ∈ BW := bw_on tb_9 (i := 59) (by decide +kernel) (by decide +kernel)
theorem bw_1981 : Cond.instanceMethod yX12_clash ∈ BW := bw_on tb_9 (i := 61) (by decide +kernel) (by decide +kernel)
theorem bw_1982 : Cond.selects RX12 yX12_clash yX12_clash ∈ BW := bw_on tb_9 (i := 62) (by decide +kernel) (by decide +kernel)
theorem bw_1983 : Cond.code yX12_clash cX12_clash 1 (some .int) ∈ BW := bw_on tb_9 (i := 63) (by decide +kernel) (by decide +kernel)
theorem bw_1984 : Cond.methodLink RX12 446 yX12_clashing ∈ BW := bw_on tb_9 (i := 64) (by decide +kernel) (by decide +kernel)
theorem bw_1986 : Cond.instanceMethod yX12_clashing ∈ BW := bw_on tb_9 (i := 66) (by decide +kernel) (by decide +kernel)
theorem bw_1987 : Cond.code yX12_clashing cX12_clashing 3 (some .int) ∈ BW := bw_on tb_9 (i := 67) (by decide +kernel) (by decide +kernel)
theorem bw_1988 : Cond.methodLink RX12 440 yX12_wordOf ∈ BW := bw_on tb_9 (i := 68) (by decide +kernel) (by decide +kernel)
theorem bw_1990 : Cond.instanceMethod yX12_wordOf ∈ BW := bw_on tb_9 (i := 70) (by decide +kernel) (by decide +kernel)
theorem bw_1991 : Cond.code yX12_wordOf cX12_wordOf 3 (some .int) ∈ BW := bw_on tb_9 (i := 71) (by decide +kernel) (by decide +kernel)
theorem bw_1992 : Cond.methodLink RX12 443 yX12_senseFor ∈ BW := bw_on tb_9 (i := 72) (by decide +kernel) (by decide +kernel)
theorem bw_1994 : Cond.instanceMethod yX12_senseFor ∈ BW := bw_on tb_9 (i := 74) (by decide +kernel) (by decide +kernel)
theorem bw_1995 : Cond.code yX12_senseFor cX12_senseFor 4 (some .int) ∈ BW := bw_on tb_9 (i := 75) (by decide +kernel) (by decide +kernel)
theorem bw_1997 : Cond.instanceMethod yX12_struck ∈ BW := bw_on tb_9 (i := 77) (by decide +kernel) (by decide +kernel)
theorem bw_1998 : Cond.selects RX12 yX12_struck yX12_struck ∈ BW := bw_on tb_9 (i := 78) (by decide +kernel) (by decide +kernel)
theorem bw_1999 : Cond.code yX12_struck cX12_struck 1 (some .int) ∈ BW := bw_on tb_9 (i := 79) (by decide +kernel) (by decide +kernel)
theorem bw_2000 : Cond.methodLink RX12 452 yX12_striking ∈ BW := bw_on tb_9 (i := 80) (by decide +kernel) (by decide +kernel)
theorem bw_2002 : Cond.instanceMethod yX12_striking ∈ BW := bw_on tb_9 (i := 82) (by decide +kernel) (by decide +kernel)
theorem bw_2003 : Cond.code yX12_striking cX12_striking 4 (some .int) ∈ BW := bw_on tb_9 (i := 83) (by decide +kernel) (by decide +kernel)
theorem bw_2004 : Cond.methodLink RX12 449 yX12_areUnlike ∈ BW := bw_on tb_9 (i := 84) (by decide +kernel) (by decide +kernel)
theorem bw_2006 : Cond.instanceMethod yX12_areUnlike ∈ BW := bw_on tb_9 (i := 86) (by decide +kernel) (by decide +kernel)
theorem bw_2007 : Cond.code yX12_areUnlike cX12_areUnlike 4 (some .boolean) ∈ BW := bw_on tb_9 (i := 87) (by decide +kernel) (by decide +kernel)
theorem bw_2009 : Cond.instanceMethod yX12_struckSet ∈ BW := bw_on tb_9 (i := 89) (by decide +kernel) (by decide +kernel)
theorem bw_2010 : Cond.selects RX12 yX12_struckSet yX12_struckSet ∈ BW := bw_on tb_9 (i := 90) (by decide +kernel) (by decide +kernel)
theorem bw_2011 : Cond.code yX12_struckSet cX12_struckSet 1 (some .int) ∈ BW := bw_on tb_9 (i := 91) (by decide +kernel) (by decide +kernel)
theorem bw_2013 : Cond.instanceMethod yX12_best ∈ BW := bw_on tb_9 (i := 93) (by decide +kernel) (by decide +kernel)
theorem bw_2014 : Cond.selects RX12 yX12_best yX12_best ∈ BW := bw_on tb_9 (i := 94) (by decide +kernel) (by decide +kernel)
theorem bw_2015 : Cond.code yX12_best cX12_best 1 (some .int) ∈ BW := bw_on tb_9 (i := 95) (by decide +kernel) (by decide +kernel)
theorem bw_2016 : Cond.methodLink RX12 455 yX12_laysOrders ∈ BW := bw_on tb_9 (i := 96) (by decide +kernel) (by decide +kernel)
theorem bw_2018 : Cond.instanceMethod yX12_laysOrders ∈ BW := bw_on tb_9 (i := 98) (by decide +kernel) (by decide +kernel)
theorem bw_2019 : Cond.code yX12_laysOrders cX12_laysOrders 5 (some .int) ∈ BW := bw_on tb_9 (i := 99) (by decide +kernel) (by decide +kernel)
theorem bw_2021 : Cond.instanceMethod yX12_bestAt ∈ BW := bw_on tb_9 (i := 101) (by decide +kernel) (by decide +kernel)
theorem bw_2022 : Cond.selects RX12 yX12_bestAt yX12_bestAt ∈ BW := bw_on tb_9 (i := 102) (by decide +kernel) (by decide +kernel)
theorem bw_2023 : Cond.code yX12_bestAt cX12_bestAt 7 (some .int) ∈ BW := bw_on tb_9 (i := 103) (by decide +kernel) (by decide +kernel)
theorem bw_2025 : Cond.instanceMethod yX12_game ∈ BW := bw_on tb_9 (i := 105) (by decide +kernel) (by decide +kernel)
theorem bw_2026 : Cond.selects RX12 yX12_game yX12_game ∈ BW := bw_on tb_9 (i := 106) (by decide +kernel) (by decide +kernel)
theorem bw_2027 : Cond.code yX12_game cX12_game 2 (some .int) ∈ BW := bw_on tb_9 (i := 107) (by decide +kernel) (by decide +kernel)
theorem bw_2028 : Cond.constantLong RX12 473 (3) ∈ BW := bw_on tb_9 (i := 108) (by decide +kernel) (by decide +kernel)
theorem bw_2029 : Cond.methodLink RX12 475 yX12_playing ∈ BW := bw_on tb_9 (i := 109) (by decide +kernel) (by decide +kernel)
theorem bw_2031 : Cond.instanceMethod yX12_playing ∈ BW := bw_on tb_9 (i := 111) (by decide +kernel) (by decide +kernel)
theorem bw_2032 : Cond.code yX12_playing cX12_playing 3 (some .int) ∈ BW := bw_on tb_9 (i := 112) (by decide +kernel) (by decide +kernel)
theorem bw_2033 : Cond.methodLink RX12 461 yX12_standing ∈ BW := bw_on tb_9 (i := 113) (by decide +kernel) (by decide +kernel)
theorem bw_2035 : Cond.instanceMethod yX12_standing ∈ BW := bw_on tb_9 (i := 115) (by decide +kernel) (by decide +kernel)
theorem bw_2036 : Cond.code yX12_standing cX12_standing 4 (some .int) ∈ BW := bw_on tb_9 (i := 116) (by decide +kernel) (by decide +kernel)
theorem bw_2037 : Cond.methodLink RX12 464 yX12_levelAt ∈ BW := bw_on tb_9 (i := 117) (by decide +kernel) (by decide +kernel)
theorem bw_2038 : Cond.static yX12_levelAt ∈ BW := bw_on tb_9 (i := 118) (by decide +kernel) (by decide +kernel)
theorem bw_2039 : Cond.code yX12_levelAt cX12_levelAt 1 (some .int) ∈ BW := bw_on tb_9 (i := 119) (by decide +kernel) (by decide +kernel)
theorem bw_2040 : Cond.methodLink RX12 458 yX12_deeds ∈ BW := bw_on tb_9 (i := 120) (by decide +kernel) (by decide +kernel)
theorem bw_2042 : Cond.instanceMethod yX12_deeds ∈ BW := bw_on tb_9 (i := 122) (by decide +kernel) (by decide +kernel)
theorem bw_2043 : Cond.code yX12_deeds cX12_deeds 1 (some .int) ∈ BW := bw_on tb_9 (i := 123) (by decide +kernel) (by decide +kernel)
theorem bw_2044 : Cond.methodLink RX12 467 yX12_settles ∈ BW := bw_on tb_9 (i := 124) (by decide +kernel) (by decide +kernel)
theorem bw_2046 : Cond.instanceMethod yX12_settles ∈ BW := bw_on tb_9 (i := 126) (by decide +kernel) (by decide +kernel)
theorem bw_2047 : Cond.code yX12_settles cX12_settles 4 none ∈ BW := bw_on tb_9 (i := 127) (by decide +kernel) (by decide +kernel)
theorem bw_2048 : Cond.methodLink RX12 470 yX12_doesDeed ∈ BW := bw_on tb_9 (i := 128) (by decide +kernel) (by decide +kernel)
theorem bw_2050 : Cond.instanceMethod yX12_doesDeed ∈ BW := bw_on tb_9 (i := 130) (by decide +kernel) (by decide +kernel)
theorem bw_2051 : Cond.code yX12_doesDeed cX12_doesDeed 4 (some .boolean) ∈ BW := bw_on tb_9 (i := 131) (by decide +kernel) (by decide +kernel)
theorem bw_2053 : Cond.instanceMethod yX12_moveOf ∈ BW := bw_on tb_9 (i := 133) (by decide +kernel) (by decide +kernel)
theorem bw_2054 : Cond.selects RX12 yX12_moveOf yX12_moveOf ∈ BW := bw_on tb_9 (i := 134) (by decide +kernel) (by decide +kernel)
theorem bw_2055 : Cond.code yX12_moveOf cX12_moveOf 4 (some .int) ∈ BW := bw_on tb_9 (i := 135) (by decide +kernel) (by decide +kernel)
theorem bw_2057 : Cond.instanceMethod yX12_copyFed ∈ BW := bw_on tb_9 (i := 137) (by decide +kernel) (by decide +kernel)
theorem bw_2058 : Cond.selects RX12 yX12_copyFed yX12_copyFed ∈ BW := bw_on tb_9 (i := 138) (by decide +kernel) (by decide +kernel)
theorem bw_2059 : Cond.code yX12_copyFed cX12_copyFed 3 (some .int) ∈ BW := bw_on tb_9 (i := 139) (by decide +kernel) (by decide +kernel)
theorem bw_2061 : Cond.instanceMethod yX12_live ∈ BW := bw_on tb_9 (i := 141) (by decide +kernel) (by decide +kernel)
theorem bw_2062 : Cond.selects RX12 yX12_live yX12_live ∈ BW := bw_on tb_9 (i := 142) (by decide +kernel) (by decide +kernel)
theorem bw_2063 : Cond.code yX12_live cX12_live 3 (some .int) ∈ BW := bw_on tb_9 (i := 143) (by decide +kernel) (by decide +kernel)
theorem bw_2064 : Cond.constantLong RX12 506 (9999) ∈ BW := bw_on tb_9 (i := 144) (by decide +kernel) (by decide +kernel)
theorem bw_2065 : Cond.methodLink RX12 508 yX12_lives ∈ BW := bw_on tb_9 (i := 145) (by decide +kernel) (by decide +kernel)
theorem bw_2067 : Cond.instanceMethod yX12_lives ∈ BW := bw_on tb_9 (i := 147) (by decide +kernel) (by decide +kernel)
theorem bw_2068 : Cond.code yX12_lives cX12_lives 4 none ∈ BW := bw_on tb_9 (i := 148) (by decide +kernel) (by decide +kernel)
theorem bw_2069 : Cond.methodLink RX12 497 yX12_does ∈ BW := bw_on tb_9 (i := 149) (by decide +kernel) (by decide +kernel)
theorem bw_2071 : Cond.instanceMethod yX12_does ∈ BW := bw_on tb_9 (i := 151) (by decide +kernel) (by decide +kernel)
theorem bw_2072 : Cond.code yX12_does cX12_does 4 (some .boolean) ∈ BW := bw_on tb_9 (i := 152) (by decide +kernel) (by decide +kernel)
theorem bw_2073 : Cond.methodLink RX12 485 yX12_sitsBy ∈ BW := bw_on tb_9 (i := 153) (by decide +kernel) (by decide +kernel)
theorem bw_2075 : Cond.instanceMethod yX12_sitsBy ∈ BW := bw_on tb_9 (i := 155) (by decide +kernel) (by decide +kernel)
theorem bw_2076 : Cond.code yX12_sitsBy cX12_sitsBy 2 (some .boolean) ∈ BW := bw_on tb_9 (i := 156) (by decide +kernel) (by decide +kernel)
theorem bw_2077 : Cond.methodLink RX12 488 yX12_termsBy ∈ BW := bw_on tb_9 (i := 157) (by decide +kernel) (by decide +kernel)
theorem bw_2079 : Cond.instanceMethod yX12_termsBy ∈ BW := bw_on tb_9 (i := 159) (by decide +kernel) (by decide +kernel)
theorem bw_2080 : Cond.code yX12_termsBy cX12_termsBy 2 (some .boolean) ∈ BW := bw_on tb_9 (i := 160) (by decide +kernel) (by decide +kernel)
theorem bw_2081 : Cond.methodLink RX12 491 yX12_feedsAny ∈ BW := bw_on tb_9 (i := 161) (by decide +kernel) (by decide +kernel)
theorem bw_2083 : Cond.instanceMethod yX12_feedsAny ∈ BW := bw_on tb_9 (i := 163) (by decide +kernel) (by decide +kernel)
theorem bw_2084 : Cond.code yX12_feedsAny cX12_feedsAny 3 (some .boolean) ∈ BW := bw_on tb_9 (i := 164) (by decide +kernel) (by decide +kernel)
theorem bw_2085 : Cond.methodLink RX12 482 yX12_draw ∈ BW := bw_on tb_9 (i := 165) (by decide +kernel) (by decide +kernel)
theorem bw_2087 : Cond.instanceMethod yX12_draw ∈ BW := bw_on tb_9 (i := 167) (by decide +kernel) (by decide +kernel)
theorem bw_2088 : Cond.code yX12_draw cX12_draw 2 (some .int) ∈ BW := bw_on tb_9 (i := 168) (by decide +kernel) (by decide +kernel)
theorem bw_2089 : Cond.constant RX12 481 (65536) ∈ BW := bw_on tb_9 (i := 169) (by decide +kernel) (by decide +kernel)
theorem bw_2090 : Cond.methodLink RX12 500 yX12_holds ∈ BW := bw_on tb_9 (i := 170) (by decide +kernel) (by decide +kernel)
theorem bw_2092 : Cond.instanceMethod yX12_holds ∈ BW := bw_on tb_9 (i := 172) (by decide +kernel) (by decide +kernel)
theorem bw_2093 : Cond.code yX12_holds cX12_holds 4 (some .boolean) ∈ BW := bw_on tb_9 (i := 173) (by decide +kernel) (by decide +kernel)
theorem bw_2094 : Cond.methodLink RX12 503 yX12_behindEnds ∈ BW := bw_on tb_9 (i := 174) (by decide +kernel) (by decide +kernel)
theorem bw_2096 : Cond.instanceMethod yX12_behindEnds ∈ BW := bw_on tb_9 (i := 176) (by decide +kernel) (by decide +kernel)
theorem bw_2097 : Cond.code yX12_behindEnds cX12_behindEnds 5 (some .int) ∈ BW := bw_on tb_9 (i := 177) (by decide +kernel) (by decide +kernel)
theorem bw_2099 : Cond.instanceMethod yX12_lived ∈ BW := bw_on tb_9 (i := 179) (by decide +kernel) (by decide +kernel)
theorem bw_2100 : Cond.selects RX12 yX12_lived yX12_lived ∈ BW := bw_on tb_9 (i := 180) (by decide +kernel) (by decide +kernel)
theorem bw_2101 : Cond.code yX12_lived cX12_lived 2 (some .int) ∈ BW := bw_on tb_9 (i := 181) (by decide +kernel) (by decide +kernel)
theorem bw_2103 : Cond.instanceMethod yX12_mean ∈ BW := bw_on tb_9 (i := 183) (by decide +kernel) (by decide +kernel)
theorem bw_2104 : Cond.selects RX12 yX12_mean yX12_mean ∈ BW := bw_on tb_9 (i := 184) (by decide +kernel) (by decide +kernel)
theorem bw_2105 : Cond.code yX12_mean cX12_mean 7 (some .boolean) ∈ BW := bw_on tb_9 (i := 185) (by decide +kernel) (by decide +kernel)
theorem bw_2107 : Cond.instanceMethod yX12_mark ∈ BW := bw_on tb_9 (i := 187) (by decide +kernel) (by decide +kernel)
theorem bw_2108 : Cond.selects RX12 yX12_mark yX12_mark ∈ BW := bw_on tb_9 (i := 188) (by decide +kernel) (by decide +kernel)
theorem bw_2109 : Cond.code yX12_mark cX12_mark 1 (some .int) ∈ BW := bw_on tb_9 (i := 189) (by decide +kernel) (by decide +kernel)
theorem bw_2110 : Cond.methodLink RX12 518 yX12_copies ∈ BW := bw_on tb_9 (i := 190) (by decide +kernel) (by decide +kernel)
theorem bw_2112 : Cond.instanceMethod yX12_copies ∈ BW := bw_on tb_9 (i := 192) (by decide +kernel) (by decide +kernel)
theorem bw_2113 : Cond.code yX12_copies cX12_copies 4 none ∈ BW := bw_on tb_9 (i := 193) (by decide +kernel) (by decide +kernel)
theorem bw_2115 : Cond.instanceMethod yX12_undo ∈ BW := bw_on tb_9 (i := 195) (by decide +kernel) (by decide +kernel)
theorem bw_2116 : Cond.selects RX12 yX12_undo yX12_undo ∈ BW := bw_on tb_9 (i := 196) (by decide +kernel) (by decide +kernel)
theorem bw_2117 : Cond.code yX12_undo cX12_undo 1 (some .int) ∈ BW := bw_on tb_9 (i := 197) (by decide +kernel) (by decide +kernel)
theorem bw_2119 : Cond.fieldLink RJ0 9 RJ0 "value" "[B" ∈ BW := bw_on tb_9 (i := 199) (by decide +kernel) (by decide +kernel)
theorem bw_2120 : Cond.fieldLink RJ0 15 RJ0 "coder" "B" ∈ BW := bw_on tb_9 (i := 200) (by decide +kernel) (by decide +kernel)
theorem nw_0 : Cond.methodLinkNest RX0 48 yX9_init "CatWitness" ∈ NW := List.mem_of_getElem? (i := 0) (by decide +kernel)
theorem nw_1 : Cond.methodLinkNest RX0 53 yX6_init "CatWitness" ∈ NW := List.mem_of_getElem? (i := 1) (by decide +kernel)
theorem nw_2 : Cond.methodLinkNest RX0 58 yX5_init "CatWitness" ∈ NW := List.mem_of_getElem? (i := 2) (by decide +kernel)
theorem nw_3 : Cond.methodLinkNest RX11 33 yX8_init "CatWitness" ∈ NW := List.mem_of_getElem? (i := 3) (by decide +kernel)
theorem nw_4 : Cond.methodLinkNest RX11 56 yX10_init "CatWitness" ∈ NW := List.mem_of_getElem? (i := 4) (by decide +kernel)
theorem nw_5 : Cond.methodLinkNest RX11 63 yX3_init "CatWitness" ∈ NW := List.mem_of_getElem? (i := 5) (by decide +kernel)
theorem nw_6 : Cond.methodLinkNest RX11 70 yX1_init "CatWitness" ∈ NW := List.mem_of_getElem? (i := 6) (by decide +kernel)
theorem nw_7 : Cond.methodLinkNest RX11 77 yX2_init "CatWitness" ∈ NW := List.mem_of_getElem? (i := 7) (by decide +kernel)
theorem nw_8 : Cond.methodLinkNest RX8 22 yX11_within "CatWitness" ∈ NW := List.mem_of_getElem? (i := 8) (by decide +kernel)
theorem nw_9 : Cond.methodLinkNest RX7 64 yX11_put "CatWitness" ∈ NW := List.mem_of_getElem? (i := 9) (by decide +kernel)
theorem nw_f : (Cond.fieldLinkNest "CatWitness$Court" 99 "CatWitness" "MOST" "[I" "CatWitness") ∈ NW := List.mem_of_getElem? (i := 10) (by decide +kernel)
theorem nw_11 : Cond.methodLinkNest RX0 102 yX11_cell "CatWitness" ∈ NW := List.mem_of_getElem? (i := 11) (by decide +kernel)
theorem nw_12 : Cond.methodLinkNest RX0 110 yX11_within "CatWitness" ∈ NW := List.mem_of_getElem? (i := 12) (by decide +kernel)
theorem nw_13 : Cond.methodLinkNest RX0 106 yX11_put "CatWitness" ∈ NW := List.mem_of_getElem? (i := 13) (by decide +kernel)
theorem nw_14 : Cond.methodLinkNest RX4 95 yX11_put "CatWitness" ∈ NW := List.mem_of_getElem? (i := 14) (by decide +kernel)
theorem nw_15 : Cond.methodLinkNest RX4 173 yX11_isIn "CatWitness" ∈ NW := List.mem_of_getElem? (i := 15) (by decide +kernel)
theorem nw_16 : Cond.methodLinkNest RX4 210 yX11_cell "CatWitness" ∈ NW := List.mem_of_getElem? (i := 16) (by decide +kernel)
theorem nw_17 : Cond.methodLinkNest RX9 31 yX11_put "CatWitness" ∈ NW := List.mem_of_getElem? (i := 17) (by decide +kernel)
theorem nw_18 : Cond.methodLinkNest RX9 21 yX11_copyRow "CatWitness" ∈ NW := List.mem_of_getElem? (i := 18) (by decide +kernel)
theorem nw_19 : Cond.methodLinkNest RX0 127 yX11_isIn "CatWitness" ∈ NW := List.mem_of_getElem? (i := 19) (by decide +kernel)
theorem nw_20 : Cond.methodLinkNest RX0 73 yX11_copyRow "CatWitness" ∈ NW := List.mem_of_getElem? (i := 20) (by decide +kernel)
theorem nw_21 : Cond.methodLinkNest RX10 22 yX11_put "CatWitness" ∈ NW := List.mem_of_getElem? (i := 21) (by decide +kernel)
theorem nw_22 : Cond.methodLinkNest RX10 45 yX11_isIn "CatWitness" ∈ NW := List.mem_of_getElem? (i := 22) (by decide +kernel)
theorem nw_23 : Cond.methodLinkNest RX10 53 yX11_cell "CatWitness" ∈ NW := List.mem_of_getElem? (i := 23) (by decide +kernel)
theorem nw_24 : Cond.methodLinkNest RX3 51 yX11_isIn "CatWitness" ∈ NW := List.mem_of_getElem? (i := 24) (by decide +kernel)
theorem nw_25 : Cond.methodLinkNest RX3 44 yX11_cell "CatWitness" ∈ NW := List.mem_of_getElem? (i := 25) (by decide +kernel)
theorem nw_26 : Cond.methodLinkNest RX3 37 yX11_put "CatWitness" ∈ NW := List.mem_of_getElem? (i := 26) (by decide +kernel)
theorem nw_27 : Cond.methodLinkNest RX11 403 yX2_runSteps "CatWitness" ∈ NW := List.mem_of_getElem? (i := 27) (by decide +kernel)
theorem nw_28 : Cond.methodLinkNest RX9 27 yX11_cell "CatWitness" ∈ NW := List.mem_of_getElem? (i := 28) (by decide +kernel)
theorem nw_29 : Cond.methodLinkNest RX2 35 yX11_put "CatWitness" ∈ NW := List.mem_of_getElem? (i := 29) (by decide +kernel)
theorem sf_J0_length_8abf5 : SF yJ0_length_8abf5 cJ0_length_8abf5 1 (some .int) 0 := ⟨bw_232, bw_8, ⟨by decide +kernel, by decide +kernel⟩, by decide +kernel⟩
theorem sv_J0_length_8abf5 : Cond.instanceMethod yJ0_length_8abf5 ∈ BW ∧ Cond.selects RJ0 yJ0_length_8abf5 yJ0_length_8abf5 ∈ BW := ⟨bw_230, bw_231⟩
theorem sf_J0_charAt_5068e : SF yJ0_charAt_5068e cJ0_charAt_5068e 2 (some .char) 1 := ⟨bw_242, bw_8, ⟨by decide +kernel, by decide +kernel⟩, by decide +kernel⟩
theorem sv_J0_charAt_5068e : Cond.instanceMethod yJ0_charAt_5068e ∈ BW ∧ Cond.selects RJ0 yJ0_charAt_5068e yJ0_charAt_5068e ∈ BW := ⟨bw_240, bw_241⟩
theorem sf_J0_coder_7d493 : SF yJ0_coder_7d493 cJ0_coder_7d493 1 (some .byte) 0 := ⟨bw_236, bw_8, ⟨by decide +kernel, by decide +kernel⟩, by decide +kernel⟩
theorem sv_J0_coder_7d493 : Cond.instanceMethod yJ0_coder_7d493 ∈ BW ∧ Cond.selects RJ0 yJ0_coder_7d493 yJ0_coder_7d493 ∈ BW := ⟨bw_234, bw_235⟩
theorem sf_J0_isLatin1_aae02 : SF yJ0_isLatin1_aae02 cJ0_isLatin1_aae02 1 (some .boolean) 0 := ⟨bw_246, bw_8, ⟨by decide +kernel, by decide +kernel⟩, by decide +kernel⟩
theorem sv_J0_isLatin1_aae02 : Cond.instanceMethod yJ0_isLatin1_aae02 ∈ BW ∧ Cond.selects RJ0 yJ0_isLatin1_aae02 yJ0_isLatin1_aae02 ∈ BW := ⟨bw_244, bw_245⟩
theorem sf_J0_checkIndex_df160 : SF yJ0_checkIndex_df160 cJ0_checkIndex_df160 2 none 2 := ⟨bw_252, bw_8, ⟨by decide +kernel, by decide +kernel⟩, by decide +kernel⟩
theorem ss_J0_checkIndex_df160 : Cond.static yJ0_checkIndex_df160 ∈ BW := bw_251
theorem sf_J1_charAt_3b067 : SF yJ1_charAt_3b067 cJ1_charAt_3b067 2 (some .char) 2 := ⟨bw_249, bw_9, ⟨by decide +kernel, by decide +kernel⟩, by decide +kernel⟩
theorem ss_J1_charAt_3b067 : Cond.static yJ1_charAt_3b067 ∈ BW := bw_248
theorem sf_J3_checkIndex_8e157 : SF yJ3_checkIndex_8e157 cJ3_checkIndex_8e157 3 (some .int) 3 := ⟨bw_257, bw_10, ⟨by decide +kernel, by decide +kernel⟩, by decide +kernel⟩
theorem ss_J3_checkIndex_8e157 : Cond.static yJ3_checkIndex_8e157 ∈ BW := bw_256
theorem sf_X11_status : SF yX11_status cX11_status 1 (some .int) 0 := ⟨bw_491, bw_1, ⟨by decide +kernel, by decide +kernel⟩, by decide +kernel⟩
theorem sv_X11_status : Cond.instanceMethod yX11_status ∈ BW ∧ Cond.selects RX11 yX11_status yX11_status ∈ BW := ⟨bw_489, bw_490⟩
theorem sf_X11_top : SF yX11_top cX11_top 1 (some .long) 0 := ⟨bw_495, bw_1, ⟨by decide +kernel, by decide +kernel⟩, by decide +kernel⟩
theorem sv_X11_top : Cond.instanceMethod yX11_top ∈ BW ∧ Cond.selects RX11 yX11_top yX11_top ∈ BW := ⟨bw_493, bw_494⟩
theorem sf_X11_bottom : SF yX11_bottom cX11_bottom 1 (some .long) 0 := ⟨bw_499, bw_1, ⟨by decide +kernel, by decide +kernel⟩, by decide +kernel⟩
theorem sv_X11_bottom : Cond.instanceMethod yX11_bottom ∈ BW ∧ Cond.selects RX11 yX11_bottom yX11_bottom ∈ BW := ⟨bw_497, bw_498⟩
theorem sf_X11_within : SF yX11_within cX11_within 2 (some .boolean) 2 := ⟨bw_506, bw_1, ⟨by decide +kernel, by decide +kernel⟩, by decide +kernel⟩
theorem ss_X11_within : Cond.static yX11_within ∈ BW := bw_505
theorem sf_X11_denied : SF yX11_denied cX11_denied 2 (some .boolean) 1 := ⟨bw_510, bw_1, ⟨by decide +kernel, by decide +kernel⟩, by decide +kernel⟩
theorem sv_X11_denied : Cond.instanceMethod yX11_denied ∈ BW ∧ Cond.selects RX11 yX11_denied yX11_denied ∈ BW := ⟨bw_509, bp_0⟩
theorem sf_X11_trayAt : SF yX11_trayAt cX11_trayAt 3 (some (.object "CatWitness$Tray")) 1 := ⟨bw_514, bw_1, ⟨by decide +kernel, by decide +kernel⟩, by decide +kernel⟩
theorem sv_X11_trayAt : Cond.instanceMethod yX11_trayAt ∈ BW ∧ Cond.selects RX11 yX11_trayAt yX11_trayAt ∈ BW := ⟨bw_513, bp_1⟩
theorem sf_X8_renew : SF yX8_renew cX8_renew 4 none 2 := ⟨bw_518, bw_6, ⟨by decide +kernel, by decide +kernel⟩, by decide +kernel⟩
theorem sv_X8_renew : Cond.instanceMethod yX8_renew ∈ BW ∧ Cond.selects RX8 yX8_renew yX8_renew ∈ BW := ⟨bw_516, bw_517⟩
theorem sf_X11_done : SF yX11_done cX11_done 1 (some .boolean) 0 := ⟨bw_522, bw_1, ⟨by decide +kernel, by decide +kernel⟩, by decide +kernel⟩
theorem sv_X11_done : Cond.instanceMethod yX11_done ∈ BW ∧ Cond.selects RX11 yX11_done yX11_done ∈ BW := ⟨bw_521, bp_2⟩
theorem sf_X11_tray : SF yX11_tray cX11_tray 4 (some .boolean) 3 := ⟨bw_503, bw_1, ⟨by decide +kernel, by decide +kernel⟩, by decide +kernel⟩
theorem sv_X11_tray : Cond.instanceMethod yX11_tray ∈ BW ∧ Cond.selects RX11 yX11_tray yX11_tray ∈ BW := ⟨bw_501, bw_502⟩
theorem sf_X8_isMissing : SF yX8_isMissing cX8_isMissing 1 (some .boolean) 0 := ⟨bw_534, bw_6, ⟨by decide +kernel, by decide +kernel⟩, by decide +kernel⟩
theorem sv_X8_isMissing : Cond.instanceMethod yX8_isMissing ∈ BW ∧ Cond.selects RX8 yX8_isMissing yX8_isMissing ∈ BW := ⟨bw_532, bw_533⟩
theorem sf_X8_hasPlace : SF yX8_hasPlace cX8_hasPlace 2 (some .boolean) 1 := ⟨bw_538, bw_6, ⟨by decide +kernel, by decide +kernel⟩, by decide +kernel⟩
theorem sv_X8_hasPlace : Cond.instanceMethod yX8_hasPlace ∈ BW ∧ Cond.selects RX8 yX8_hasPlace yX8_hasPlace ∈ BW := ⟨bw_536, bw_537⟩
theorem sf_X11_placeRefusal : SF yX11_placeRefusal cX11_placeRefusal 3 (some .int) 2 := ⟨bw_530, bw_1, ⟨by decide +kernel, by decide +kernel⟩, by decide +kernel⟩
theorem sv_X11_placeRefusal : Cond.instanceMethod yX11_placeRefusal ∈ BW ∧ Cond.selects RX11 yX11_placeRefusal yX11_placeRefusal ∈ BW := ⟨bw_529, bp_3⟩
theorem sf_X8_cut : SF yX8_cut cX8_cut 3 (some .long) 1 := ⟨bw_547, bw_6, ⟨by decide +kernel, by decide +kernel⟩, by decide +kernel⟩
theorem sv_X8_cut : Cond.instanceMethod yX8_cut ∈ BW ∧ Cond.selects RX8 yX8_cut yX8_cut ∈ BW := ⟨bw_546, bp_4⟩
theorem sf_X8_putNumber : SF yX8_putNumber cX8_putNumber 4 none 2 := ⟨bw_543, bw_6, ⟨by decide +kernel, by decide +kernel⟩, by decide +kernel⟩
theorem sv_X8_putNumber : Cond.instanceMethod yX8_putNumber ∈ BW ∧ Cond.selects RX8 yX8_putNumber yX8_putNumber ∈ BW := ⟨bw_541, bw_542⟩
theorem sf_X11_write : SF yX11_write cX11_write 6 (some .boolean) 3 := ⟨bw_526, bw_1, ⟨by decide +kernel, by decide +kernel⟩, by decide +kernel⟩
theorem sv_X11_write : Cond.instanceMethod yX11_write ∈ BW ∧ Cond.selects RX11 yX11_write yX11_write ∈ BW := ⟨bw_524, bw_525⟩
theorem sf_X11_refused : SF yX11_refused cX11_refused 2 (some .int) 1 := ⟨bw_555, bw_1, ⟨by decide +kernel, by decide +kernel⟩, by decide +kernel⟩
theorem sv_X11_refused : Cond.instanceMethod yX11_refused ∈ BW ∧ Cond.selects RX11 yX11_refused yX11_refused ∈ BW := ⟨bw_554, bp_5⟩
theorem sf_X8_numberAt : SF yX8_numberAt cX8_numberAt 2 (some .long) 1 := ⟨bw_559, bw_6, ⟨by decide +kernel, by decide +kernel⟩, by decide +kernel⟩
theorem sv_X8_numberAt : Cond.instanceMethod yX8_numberAt ∈ BW ∧ Cond.selects RX8 yX8_numberAt yX8_numberAt ∈ BW := ⟨bw_557, bw_558⟩
theorem sf_X11_read : SF yX11_read cX11_read 4 (some .long) 2 := ⟨bw_551, bw_1, ⟨by decide +kernel, by decide +kernel⟩, by decide +kernel⟩
theorem sv_X11_read : Cond.instanceMethod yX11_read ∈ BW ∧ Cond.selects RX11 yX11_read yX11_read ∈ BW := ⟨bw_549, bw_550⟩
theorem sf_X8_hasRun : SF yX8_hasRun cX8_hasRun 3 (some .boolean) 2 := ⟨bw_567, bw_6, ⟨by decide +kernel, by decide +kernel⟩, by decide +kernel⟩
theorem sv_X8_hasRun : Cond.instanceMethod yX8_hasRun ∈ BW ∧ Cond.selects RX8 yX8_hasRun yX8_hasRun ∈ BW := ⟨bw_565, bw_566⟩
theorem sf_X8_takeRun : SF yX8_takeRun cX8_takeRun 7 none 4 := ⟨bw_571, bw_6, ⟨by decide +kernel, by decide +kernel⟩, by decide +kernel⟩
theorem sv_X8_takeRun : Cond.instanceMethod yX8_takeRun ∈ BW ∧ Cond.selects RX8 yX8_takeRun yX8_takeRun ∈ BW := ⟨bw_569, bw_570⟩
theorem sf_X11_pour : SF yX11_pour cX11_pour 8 (some .boolean) 5 := ⟨bw_563, bw_1, ⟨by decide +kernel, by decide +kernel⟩, by decide +kernel⟩
theorem sv_X11_pour : Cond.instanceMethod yX11_pour ∈ BW ∧ Cond.selects RX11 yX11_pour yX11_pour ∈ BW := ⟨bw_561, bw_562⟩
theorem sf_X7_hasRoom : SF yX7_hasRoom cX7_hasRoom 2 (some .boolean) 1 := ⟨bw_581, bw_7, ⟨by decide +kernel, by decide +kernel⟩, by decide +kernel⟩
theorem sv_X7_hasRoom : Cond.instanceMethod yX7_hasRoom ∈ BW ∧ Cond.selects RX7 yX7_hasRoom yX7_hasRoom ∈ BW := ⟨bw_579, bw_580⟩
theorem sf_X11_put : SF yX11_put cX11_put 3 none 3 := ⟨bw_588, bw_1, ⟨by decide +kernel, by decide +kernel⟩, by decide +kernel⟩
theorem ss_X11_put : Cond.static yX11_put ∈ BW := bw_587
theorem sf_X7_addInt : SF yX7_addInt cX7_addInt 3 none 1 := ⟨bw_585, bw_7, ⟨by decide +kernel, by decide +kernel⟩, by decide +kernel⟩
theorem sv_X7_addInt : Cond.instanceMethod yX7_addInt ∈ BW ∧ Cond.selects RX7 yX7_addInt yX7_addInt ∈ BW := ⟨bw_583, bw_584⟩
theorem sf_X11_feed : SF yX11_feed cX11_feed 6 (some .int) 5 := ⟨bw_577, bw_1, ⟨by decide +kernel, by decide +kernel⟩, by decide +kernel⟩
theorem sv_X11_feed : Cond.instanceMethod yX11_feed ∈ BW ∧ Cond.selects RX11 yX11_feed yX11_feed ∈ BW := ⟨bw_575, bw_576⟩
theorem sf_X9_clear : SF yX9_clear cX9_clear 1 none 0 := ⟨bw_604, bw_3, ⟨by decide +kernel, by decide +kernel⟩, by decide +kernel⟩
theorem sv_X9_clear : Cond.instanceMethod yX9_clear ∈ BW ∧ Cond.selects RX9 yX9_clear yX9_clear ∈ BW := ⟨bw_602, bw_603⟩
theorem sf_X0_clear : SF yX0_clear cX0_clear 2 none 0 := ⟨bw_600, bw_2, ⟨by decide +kernel, by decide +kernel⟩, by decide +kernel⟩
theorem sv_X0_clear : Cond.instanceMethod yX0_clear ∈ BW ∧ Cond.selects RX0 yX0_clear yX0_clear ∈ BW := ⟨bw_598, bw_599⟩
theorem sf_X7_byteAt : SF yX7_byteAt cX7_byteAt 2 (some .int) 1 := ⟨bw_616, bw_7, ⟨by decide +kernel, by decide +kernel⟩, by decide +kernel⟩
theorem sv_X7_byteAt : Cond.instanceMethod yX7_byteAt ∈ BW ∧ Cond.selects RX7 yX7_byteAt yX7_byteAt ∈ BW := ⟨bw_615, bp_6⟩
theorem sf_X7_isBlank : SF yX7_isBlank cX7_isBlank 1 (some .boolean) 1 := ⟨bw_619, bw_7, ⟨by decide +kernel, by decide +kernel⟩, by decide +kernel⟩
theorem ss_X7_isBlank : Cond.static yX7_isBlank ∈ BW := bw_618
theorem sf_X7_isLetter : SF yX7_isLetter cX7_isLetter 1 (some .boolean) 1 := ⟨bw_622, bw_7, ⟨by decide +kernel, by decide +kernel⟩, by decide +kernel⟩
theorem ss_X7_isLetter : Cond.static yX7_isLetter ∈ BW := bw_621
theorem sf_X7_withLetter : SF yX7_withLetter cX7_withLetter 3 (some .long) 2 := ⟨bw_279, bw_7, ⟨by decide +kernel, by decide +kernel⟩, by decide +kernel⟩
theorem ss_X7_withLetter : Cond.static yX7_withLetter ∈ BW := bw_278
theorem sf_X7_keywordOrName : SF yX7_keywordOrName cX7_keywordOrName 2 (some .int) 0 := ⟨bw_626, bw_7, ⟨by decide +kernel, by decide +kernel⟩, by decide +kernel⟩
theorem sv_X7_keywordOrName : Cond.instanceMethod yX7_keywordOrName ∈ BW ∧ Cond.selects RX7 yX7_keywordOrName yX7_keywordOrName ∈ BW := ⟨bw_625, bp_7⟩
theorem sf_X7_isDigit : SF yX7_isDigit cX7_isDigit 1 (some .boolean) 1 := ⟨bw_629, bw_7, ⟨by decide +kernel, by decide +kernel⟩, by decide +kernel⟩
theorem ss_X7_isDigit : Cond.static yX7_isDigit ∈ BW := bw_628
theorem sf_X7_isSign : SF yX7_isSign cX7_isSign 1 (some .boolean) 1 := ⟨bw_632, bw_7, ⟨by decide +kernel, by decide +kernel⟩, by decide +kernel⟩
theorem ss_X7_isSign : Cond.static yX7_isSign ∈ BW := bw_631
theorem sf_X7_goOn : SF yX7_goOn cX7_goOn 2 none 0 := ⟨bw_612, bw_7, ⟨by decide +kernel, by decide +kernel⟩, by decide +kernel⟩
theorem sv_X7_goOn : Cond.instanceMethod yX7_goOn ∈ BW ∧ Cond.selects RX7 yX7_goOn yX7_goOn ∈ BW := ⟨bw_610, bw_611⟩
theorem sf_X7_begin : SF yX7_begin cX7_begin 2 none 1 := ⟨bw_608, bw_7, ⟨by decide +kernel, by decide +kernel⟩, by decide +kernel⟩
theorem sv_X7_begin : Cond.instanceMethod yX7_begin ∈ BW ∧ Cond.selects RX7 yX7_begin yX7_begin ∈ BW := ⟨bw_606, bw_607⟩
theorem sf_X7_refuse : SF yX7_refuse cX7_refuse 2 (some .boolean) 1 := ⟨bw_640, bw_7, ⟨by decide +kernel, by decide +kernel⟩, by decide +kernel⟩
theorem sv_X7_refuse : Cond.instanceMethod yX7_refuse ∈ BW ∧ Cond.selects RX7 yX7_refuse yX7_refuse ∈ BW := ⟨bw_638, bw_639⟩
theorem sf_X0_countOf : SF yX0_countOf cX0_countOf 2 (some .int) 1 := ⟨bw_648, bw_2, ⟨by decide +kernel, by decide +kernel⟩, by decide +kernel⟩
theorem sv_X0_countOf : Cond.instanceMethod yX0_countOf ∈ BW ∧ Cond.selects RX0 yX0_countOf yX0_countOf ∈ BW := ⟨bw_646, bw_647⟩
theorem sf_X11_cell : SF yX11_cell cX11_cell 2 (some .int) 2 := ⟨bw_653, bw_1, ⟨by decide +kernel, by decide +kernel⟩, by decide +kernel⟩
theorem ss_X11_cell : Cond.static yX11_cell ∈ BW := bw_652
theorem sf_X0_isFull : SF yX0_isFull cX0_isFull 2 (some .boolean) 1 := ⟨bw_644, bw_2, ⟨by decide +kernel, by decide +kernel⟩, by decide +kernel⟩
theorem sv_X0_isFull : Cond.instanceMethod yX0_isFull ∈ BW ∧ Cond.selects RX0 yX0_isFull yX0_isFull ∈ BW := ⟨bw_642, bw_643⟩
theorem sf_X4_beginPart : SF yX4_beginPart cX4_beginPart 3 (some .boolean) 2 := ⟨bw_636, bw_12, ⟨by decide +kernel, by decide +kernel⟩, by decide +kernel⟩
theorem sv_X4_beginPart : Cond.instanceMethod yX4_beginPart ∈ BW ∧ Cond.selects RX4 yX4_beginPart yX4_beginPart ∈ BW := ⟨bw_635, bp_8⟩
theorem sf_X0_numberOf : SF yX0_numberOf cX0_numberOf 6 (some .int) 2 := ⟨bw_670, bw_2, ⟨by decide +kernel, by decide +kernel⟩, by decide +kernel⟩
theorem sv_X0_numberOf : Cond.instanceMethod yX0_numberOf ∈ BW ∧ Cond.selects RX0 yX0_numberOf yX0_numberOf ∈ BW := ⟨bw_668, bw_669⟩
theorem sf_X0_isTaken : SF yX0_isTaken cX0_isTaken 3 (some .boolean) 1 := ⟨bw_666, bw_2, ⟨by decide +kernel, by decide +kernel⟩, by decide +kernel⟩
theorem sv_X0_isTaken : Cond.instanceMethod yX0_isTaken ∈ BW ∧ Cond.selects RX0 yX0_isTaken yX0_isTaken ∈ BW := ⟨bw_664, bw_665⟩
theorem sf_X0_addOne : SF yX0_addOne cX0_addOne 3 (some .int) 1 := ⟨bw_675, bw_2, ⟨by decide +kernel, by decide +kernel⟩, by decide +kernel⟩
theorem sv_X0_addOne : Cond.instanceMethod yX0_addOne ∈ BW ∧ Cond.selects RX0 yX0_addOne yX0_addOne ∈ BW := ⟨bw_673, bw_674⟩
theorem sf_X0_putName : SF yX0_putName cX0_putName 6 none 3 := ⟨bw_680, bw_2, ⟨by decide +kernel, by decide +kernel⟩, by decide +kernel⟩
theorem sv_X0_putName : Cond.instanceMethod yX0_putName ∈ BW ∧ Cond.selects RX0 yX0_putName yX0_putName ∈ BW := ⟨bw_678, bw_679⟩
theorem sf_X4_takeNewName : SF yX4_takeNewName cX4_takeNewName 3 (some .boolean) 2 := ⟨bw_662, bw_12, ⟨by decide +kernel, by decide +kernel⟩, by decide +kernel⟩
theorem sv_X4_takeNewName : Cond.instanceMethod yX4_takeNewName ∈ BW ∧ Cond.selects RX4 yX4_takeNewName yX4_takeNewName ∈ BW := ⟨bw_661, bp_10⟩
theorem sf_X4_skip : SF yX4_skip cX4_skip 2 (some .boolean) 1 := ⟨bw_692, bw_12, ⟨by decide +kernel, by decide +kernel⟩, by decide +kernel⟩
theorem sv_X4_skip : Cond.instanceMethod yX4_skip ∈ BW ∧ Cond.selects RX4 yX4_skip yX4_skip ∈ BW := ⟨bw_691, bp_13⟩
theorem sf_X4_take : SF yX4_take cX4_take 2 (some .boolean) 1 := ⟨bw_688, bw_12, ⟨by decide +kernel, by decide +kernel⟩, by decide +kernel⟩
theorem sv_X4_take : Cond.instanceMethod yX4_take ∈ BW ∧ Cond.selects RX4 yX4_take yX4_take ∈ BW := ⟨bw_687, bp_12⟩
theorem sf_X4_guiltHere : SF yX4_guiltHere cX4_guiltHere 1 (some .int) 0 := ⟨bw_696, bw_12, ⟨by decide +kernel, by decide +kernel⟩, by decide +kernel⟩
theorem sv_X4_guiltHere : Cond.instanceMethod yX4_guiltHere ∈ BW ∧ Cond.selects RX4 yX4_guiltHere yX4_guiltHere ∈ BW := ⟨bw_695, bp_14⟩
theorem sf_X4_readSense : SF yX4_readSense cX4_readSense 4 (some .boolean) 1 := ⟨bw_684, bw_12, ⟨by decide +kernel, by decide +kernel⟩, by decide +kernel⟩
theorem sv_X4_readSense : Cond.instanceMethod yX4_readSense ∈ BW ∧ Cond.selects RX4 yX4_readSense yX4_readSense ∈ BW := ⟨bw_683, bp_11⟩
theorem sf_X4_takeName : SF yX4_takeName cX4_takeName 3 (some .boolean) 2 := ⟨bw_701, bw_12, ⟨by decide +kernel, by decide +kernel⟩, by decide +kernel⟩
theorem sv_X4_takeName : Cond.instanceMethod yX4_takeName ∈ BW ∧ Cond.selects RX4 yX4_takeName yX4_takeName ∈ BW := ⟨bw_700, bp_15⟩
theorem sf_X0_ruleAt : SF yX0_ruleAt cX0_ruleAt 3 (some (.object "CatWitness$Rule")) 1 := ⟨bw_710, bw_2, ⟨by decide +kernel, by decide +kernel⟩, by decide +kernel⟩
theorem sv_X0_ruleAt : Cond.instanceMethod yX0_ruleAt ∈ BW ∧ Cond.selects RX0 yX0_ruleAt yX0_ruleAt ∈ BW := ⟨bw_708, bw_709⟩
theorem sf_X6_renew : SF yX6_renew cX6_renew 2 none 1 := ⟨bw_714, bw_4, ⟨by decide +kernel, by decide +kernel⟩, by decide +kernel⟩
theorem sv_X6_renew : Cond.instanceMethod yX6_renew ∈ BW ∧ Cond.selects RX6 yX6_renew yX6_renew ∈ BW := ⟨bw_712, bw_713⟩
theorem sf_X4_takeNumber : SF yX4_takeNumber cX4_takeNumber 3 (some .boolean) 2 := ⟨bw_722, bw_12, ⟨by decide +kernel, by decide +kernel⟩, by decide +kernel⟩
theorem sv_X4_takeNumber : Cond.instanceMethod yX4_takeNumber ∈ BW ∧ Cond.selects RX4 yX4_takeNumber yX4_takeNumber ∈ BW := ⟨bw_721, bp_18⟩
theorem sf_X4_takeCompare : SF yX4_takeCompare cX4_takeCompare 3 (some .boolean) 1 := ⟨bw_718, bw_12, ⟨by decide +kernel, by decide +kernel⟩, by decide +kernel⟩
theorem sv_X4_takeCompare : Cond.instanceMethod yX4_takeCompare ∈ BW ∧ Cond.selects RX4 yX4_takeCompare yX4_takeCompare ∈ BW := ⟨bw_717, bp_17⟩
theorem sf_X4_readRule : SF yX4_readRule cX4_readRule 3 (some .boolean) 1 := ⟨bw_706, bw_12, ⟨by decide +kernel, by decide +kernel⟩, by decide +kernel⟩
theorem sv_X4_readRule : Cond.instanceMethod yX4_readRule ∈ BW ∧ Cond.selects RX4 yX4_readRule yX4_readRule ∈ BW := ⟨bw_705, bp_16⟩
theorem sf_X0_personAt : SF yX0_personAt cX0_personAt 3 (some (.object "CatWitness$Person")) 1 := ⟨bw_730, bw_2, ⟨by decide +kernel, by decide +kernel⟩, by decide +kernel⟩
theorem sv_X0_personAt : Cond.instanceMethod yX0_personAt ∈ BW ∧ Cond.selects RX0 yX0_personAt yX0_personAt ∈ BW := ⟨bw_728, bw_729⟩
theorem sf_X5_renew : SF yX5_renew cX5_renew 1 none 0 := ⟨bw_734, bw_5, ⟨by decide +kernel, by decide +kernel⟩, by decide +kernel⟩
theorem sv_X5_renew : Cond.instanceMethod yX5_renew ∈ BW ∧ Cond.selects RX5 yX5_renew yX5_renew ∈ BW := ⟨bw_732, bw_733⟩
theorem sf_X11_isIn : SF yX11_isIn cX11_isIn 2 (some .boolean) 2 := ⟨bw_741, bw_1, ⟨by decide +kernel, by decide +kernel⟩, by decide +kernel⟩
theorem ss_X11_isIn : Cond.static yX11_isIn ∈ BW := bw_740
theorem sf_X4_readSmells : SF yX4_readSmells cX4_readSmells 5 (some .boolean) 2 := ⟨bw_738, bw_12, ⟨by decide +kernel, by decide +kernel⟩, by decide +kernel⟩
theorem sv_X4_readSmells : Cond.instanceMethod yX4_readSmells ∈ BW ∧ Cond.selects RX4 yX4_readSmells yX4_readSmells ∈ BW := ⟨bw_737, bp_20⟩
theorem sf_X4_readPerson : SF yX4_readPerson cX4_readPerson 3 (some .boolean) 1 := ⟨bw_726, bw_12, ⟨by decide +kernel, by decide +kernel⟩, by decide +kernel⟩
theorem sv_X4_readPerson : Cond.instanceMethod yX4_readPerson ∈ BW ∧ Cond.selects RX4 yX4_readPerson yX4_readPerson ∈ BW := ⟨bw_725, bp_19⟩
theorem sf_X4_readReader : SF yX4_readReader cX4_readReader 3 (some .boolean) 1 := ⟨bw_745, bw_12, ⟨by decide +kernel, by decide +kernel⟩, by decide +kernel⟩
theorem sv_X4_readReader : Cond.instanceMethod yX4_readReader ∈ BW ∧ Cond.selects RX4 yX4_readReader yX4_readReader ∈ BW := ⟨bw_744, bp_21⟩
theorem sf_X4_readWord : SF yX4_readWord cX4_readWord 4 (some .boolean) 1 := ⟨bw_749, bw_12, ⟨by decide +kernel, by decide +kernel⟩, by decide +kernel⟩
theorem sv_X4_readWord : Cond.instanceMethod yX4_readWord ∈ BW ∧ Cond.selects RX4 yX4_readWord yX4_readWord ∈ BW := ⟨bw_748, bp_22⟩
theorem sf_X4_readPart : SF yX4_readPart cX4_readPart 3 (some .boolean) 2 := ⟨bw_658, bw_12, ⟨by decide +kernel, by decide +kernel⟩, by decide +kernel⟩
theorem sv_X4_readPart : Cond.instanceMethod yX4_readPart ∈ BW ∧ Cond.selects RX4 yX4_readPart yX4_readPart ∈ BW := ⟨bw_657, bp_9⟩
theorem sf_X4_readCourt : SF yX4_readCourt cX4_readCourt 5 (some .boolean) 2 := ⟨bw_596, bw_12, ⟨by decide +kernel, by decide +kernel⟩, by decide +kernel⟩
theorem sv_X4_readCourt : Cond.instanceMethod yX4_readCourt ∈ BW ∧ Cond.selects RX4 yX4_readCourt yX4_readCourt ∈ BW := ⟨bw_594, bw_595⟩
theorem sf_X11_given : SF yX11_given cX11_given 2 (some .int) 1 := ⟨bw_758, bw_1, ⟨by decide +kernel, by decide +kernel⟩, by decide +kernel⟩
theorem sv_X11_given : Cond.instanceMethod yX11_given ∈ BW ∧ Cond.selects RX11 yX11_given yX11_given ∈ BW := ⟨bw_757, bp_24⟩
theorem sf_X11_textRead : SF yX11_textRead cX11_textRead 3 (some .int) 2 := ⟨bw_754, bw_1, ⟨by decide +kernel, by decide +kernel⟩, by decide +kernel⟩
theorem sv_X11_textRead : Cond.instanceMethod yX11_textRead ∈ BW ∧ Cond.selects RX11 yX11_textRead yX11_textRead ∈ BW := ⟨bw_753, bp_23⟩
theorem sf_X11_court : SF yX11_court cX11_court 4 (some .int) 1 := ⟨bw_592, bw_1, ⟨by decide +kernel, by decide +kernel⟩, by decide +kernel⟩
theorem sv_X11_court : Cond.instanceMethod yX11_court ∈ BW ∧ Cond.selects RX11 yX11_court yX11_court ∈ BW := ⟨bw_590, bw_591⟩
theorem sf_X9_putCell : SF yX9_putCell cX9_putCell 4 none 3 := ⟨bw_776, bw_3, ⟨by decide +kernel, by decide +kernel⟩, by decide +kernel⟩
theorem sv_X9_putCell : Cond.instanceMethod yX9_putCell ∈ BW ∧ Cond.selects RX9 yX9_putCell yX9_putCell ∈ BW := ⟨bw_774, bw_775⟩
theorem sf_X4_closeStep : SF yX4_closeStep cX4_closeStep 2 (some .boolean) 1 := ⟨bw_771, bw_12, ⟨by decide +kernel, by decide +kernel⟩, by decide +kernel⟩
theorem sv_X4_closeStep : Cond.instanceMethod yX4_closeStep ∈ BW ∧ Cond.selects RX4 yX4_closeStep yX4_closeStep ∈ BW := ⟨bw_770, bp_25⟩
theorem sf_X4_beginStep : SF yX4_beginStep cX4_beginStep 5 (some .boolean) 2 := ⟨bw_781, bw_12, ⟨by decide +kernel, by decide +kernel⟩, by decide +kernel⟩
theorem sv_X4_beginStep : Cond.instanceMethod yX4_beginStep ∈ BW ∧ Cond.selects RX4 yX4_beginStep yX4_beginStep ∈ BW := ⟨bw_780, bp_26⟩
theorem sf_X4_keepFound : SF yX4_keepFound cX4_keepFound 4 (some .boolean) 3 := ⟨bw_789, bw_12, ⟨by decide +kernel, by decide +kernel⟩, by decide +kernel⟩
theorem sv_X4_keepFound : Cond.instanceMethod yX4_keepFound ∈ BW ∧ Cond.selects RX4 yX4_keepFound yX4_keepFound ∈ BW := ⟨bw_788, bp_28⟩
theorem sf_X4_readTest : SF yX4_readTest cX4_readTest 5 (some .boolean) 3 := ⟨bw_793, bw_12, ⟨by decide +kernel, by decide +kernel⟩, by decide +kernel⟩
theorem sv_X4_readTest : Cond.instanceMethod yX4_readTest ∈ BW ∧ Cond.selects RX4 yX4_readTest yX4_readTest ∈ BW := ⟨bw_792, bp_29⟩
theorem sf_X4_readStep : SF yX4_readStep cX4_readStep 5 (some .boolean) 4 := ⟨bw_785, bw_12, ⟨by decide +kernel, by decide +kernel⟩, by decide +kernel⟩
theorem sv_X4_readStep : Cond.instanceMethod yX4_readStep ∈ BW ∧ Cond.selects RX4 yX4_readStep yX4_readStep ∈ BW := ⟨bw_784, bp_27⟩
theorem sf_X4_readWeeks : SF yX4_readWeeks cX4_readWeeks 8 (some .boolean) 3 := ⟨bw_766, bw_12, ⟨by decide +kernel, by decide +kernel⟩, by decide +kernel⟩
theorem sv_X4_readWeeks : Cond.instanceMethod yX4_readWeeks ∈ BW ∧ Cond.selects RX4 yX4_readWeeks yX4_readWeeks ∈ BW := ⟨bw_764, bw_765⟩
theorem sf_X11_copyRow : SF yX11_copyRow cX11_copyRow 3 none 2 := ⟨bw_800, bw_1, ⟨by decide +kernel, by decide +kernel⟩, by decide +kernel⟩
theorem ss_X11_copyRow : Cond.static yX11_copyRow ∈ BW := bw_799
theorem sf_X9_copyFrom : SF yX9_copyFrom cX9_copyFrom 2 none 1 := ⟨bw_797, bw_3, ⟨by decide +kernel, by decide +kernel⟩, by decide +kernel⟩
theorem sv_X9_copyFrom : Cond.instanceMethod yX9_copyFrom ∈ BW ∧ Cond.selects RX9 yX9_copyFrom yX9_copyFrom ∈ BW := ⟨bw_795, bw_796⟩
theorem sf_X11_weeks : SF yX11_weeks cX11_weeks 3 (some .int) 1 := ⟨bw_762, bw_1, ⟨by decide +kernel, by decide +kernel⟩, by decide +kernel⟩
theorem sv_X11_weeks : Cond.instanceMethod yX11_weeks ∈ BW ∧ Cond.selects RX11 yX11_weeks yX11_weeks ∈ BW := ⟨bw_760, bw_761⟩
theorem sf_X11_fault : SF yX11_fault cX11_fault 2 (some .int) 1 := ⟨bw_804, bw_1, ⟨by decide +kernel, by decide +kernel⟩, by decide +kernel⟩
theorem sv_X11_fault : Cond.instanceMethod yX11_fault ∈ BW ∧ Cond.selects RX11 yX11_fault yX11_fault ∈ BW := ⟨bw_802, bw_803⟩
theorem sf_X0_setOfFate : SF yX0_setOfFate cX0_setOfFate 4 (some .int) 1 := ⟨bw_812, bw_2, ⟨by decide +kernel, by decide +kernel⟩, by decide +kernel⟩
theorem sv_X0_setOfFate : Cond.instanceMethod yX0_setOfFate ∈ BW ∧ Cond.selects RX0 yX0_setOfFate yX0_setOfFate ∈ BW := ⟨bw_810, bw_811⟩
theorem sf_X0_guiltySet : SF yX0_guiltySet cX0_guiltySet 3 (some .int) 0 := ⟨bw_817, bw_2, ⟨by decide +kernel, by decide +kernel⟩, by decide +kernel⟩
theorem sv_X0_guiltySet : Cond.instanceMethod yX0_guiltySet ∈ BW ∧ Cond.selects RX0 yX0_guiltySet yX0_guiltySet ∈ BW := ⟨bw_815, bw_816⟩
theorem sf_X11_setOfAll : SF yX11_setOfAll cX11_setOfAll 1 (some .int) 1 := ⟨bw_820, bw_1, ⟨by decide +kernel, by decide +kernel⟩, by decide +kernel⟩
theorem ss_X11_setOfAll : Cond.static yX11_setOfAll ∈ BW := bw_819
theorem sf_X0_votesOf : SF yX0_votesOf cX0_votesOf 4 (some .int) 1 := ⟨bw_824, bw_2, ⟨by decide +kernel, by decide +kernel⟩, by decide +kernel⟩
theorem sv_X0_votesOf : Cond.instanceMethod yX0_votesOf ∈ BW ∧ Cond.selects RX0 yX0_votesOf yX0_votesOf ∈ BW := ⟨bw_822, bw_823⟩
theorem sf_X11_told : SF yX11_told cX11_told 2 (some .int) 1 := ⟨bw_808, bw_1, ⟨by decide +kernel, by decide +kernel⟩, by decide +kernel⟩
theorem sv_X11_told : Cond.instanceMethod yX11_told ∈ BW ∧ Cond.selects RX11 yX11_told yX11_told ∈ BW := ⟨bw_806, bw_807⟩
theorem sf_X0_has : SF yX0_has cX0_has 3 (some .boolean) 2 := ⟨bw_833, bw_2, ⟨by decide +kernel, by decide +kernel⟩, by decide +kernel⟩
theorem sv_X0_has : Cond.instanceMethod yX0_has ∈ BW ∧ Cond.selects RX0 yX0_has yX0_has ∈ BW := ⟨bw_831, bw_832⟩
theorem sf_X0_senseOf : SF yX0_senseOf cX0_senseOf 2 (some .int) 1 := ⟨bw_837, bw_2, ⟨by decide +kernel, by decide +kernel⟩, by decide +kernel⟩
theorem sv_X0_senseOf : Cond.instanceMethod yX0_senseOf ∈ BW ∧ Cond.selects RX0 yX0_senseOf yX0_senseOf ∈ BW := ⟨bw_835, bw_836⟩
theorem sf_X11_sense : SF yX11_sense cX11_sense 2 (some .int) 1 := ⟨bw_829, bw_1, ⟨by decide +kernel, by decide +kernel⟩, by decide +kernel⟩
theorem sv_X11_sense : Cond.instanceMethod yX11_sense ∈ BW ∧ Cond.selects RX11 yX11_sense yX11_sense ∈ BW := ⟨bw_827, bw_828⟩
theorem sf_X6_partOf : SF yX6_partOf cX6_partOf 2 (some .int) 1 := ⟨bw_847, bw_4, ⟨by decide +kernel, by decide +kernel⟩, by decide +kernel⟩
theorem sv_X6_partOf : Cond.instanceMethod yX6_partOf ∈ BW ∧ Cond.selects RX6 yX6_partOf yX6_partOf ∈ BW := ⟨bw_845, bw_846⟩
theorem sf_X11_rule : SF yX11_rule cX11_rule 4 (some .int) 2 := ⟨bw_842, bw_1, ⟨by decide +kernel, by decide +kernel⟩, by decide +kernel⟩
theorem sv_X11_rule : Cond.instanceMethod yX11_rule ∈ BW ∧ Cond.selects RX11 yX11_rule yX11_rule ∈ BW := ⟨bw_840, bw_841⟩
theorem sf_X11_person : SF yX11_person cX11_person 4 (some .int) 2 := ⟨bw_851, bw_1, ⟨by decide +kernel, by decide +kernel⟩, by decide +kernel⟩
theorem sv_X11_person : Cond.instanceMethod yX11_person ∈ BW ∧ Cond.selects RX11 yX11_person yX11_person ∈ BW := ⟨bw_849, bw_850⟩
theorem sf_X11_reader : SF yX11_reader cX11_reader 3 (some .int) 2 := ⟨bw_856, bw_1, ⟨by decide +kernel, by decide +kernel⟩, by decide +kernel⟩
theorem sv_X11_reader : Cond.instanceMethod yX11_reader ∈ BW ∧ Cond.selects RX11 yX11_reader yX11_reader ∈ BW := ⟨bw_854, bw_855⟩
theorem sf_X11_word : SF yX11_word cX11_word 3 (some .int) 2 := ⟨bw_861, bw_1, ⟨by decide +kernel, by decide +kernel⟩, by decide +kernel⟩
theorem sv_X11_word : Cond.instanceMethod yX11_word ∈ BW ∧ Cond.selects RX11 yX11_word yX11_word ∈ BW := ⟨bw_859, bw_860⟩
theorem sf_X0_hasRoomFor : SF yX0_hasRoomFor cX0_hasRoomFor 2 (some .boolean) 1 := ⟨bw_869, bw_2, ⟨by decide +kernel, by decide +kernel⟩, by decide +kernel⟩
theorem sv_X0_hasRoomFor : Cond.instanceMethod yX0_hasRoomFor ∈ BW ∧ Cond.selects RX0 yX0_hasRoomFor yX0_hasRoomFor ∈ BW := ⟨bw_867, bw_868⟩
theorem sf_X6_bearsOn : SF yX6_bearsOn cX6_bearsOn 5 (some .boolean) 4 := ⟨bw_886, bw_4, ⟨by decide +kernel, by decide +kernel⟩, by decide +kernel⟩
theorem sv_X6_bearsOn : Cond.instanceMethod yX6_bearsOn ∈ BW ∧ Cond.selects RX6 yX6_bearsOn yX6_bearsOn ∈ BW := ⟨bw_884, bw_885⟩
theorem sf_X0_ruleFor : SF yX0_ruleFor cX0_ruleFor 6 (some .int) 4 := ⟨bw_881, bw_2, ⟨by decide +kernel, by decide +kernel⟩, by decide +kernel⟩
theorem sv_X0_ruleFor : Cond.instanceMethod yX0_ruleFor ∈ BW ∧ Cond.selects RX0 yX0_ruleFor yX0_ruleFor ∈ BW := ⟨bw_879, bw_880⟩
theorem sf_X0_cueBefore : SF yX0_cueBefore cX0_cueBefore 5 (some .int) 2 := ⟨bw_877, bw_2, ⟨by decide +kernel, by decide +kernel⟩, by decide +kernel⟩
theorem sv_X0_cueBefore : Cond.instanceMethod yX0_cueBefore ∈ BW ∧ Cond.selects RX0 yX0_cueBefore yX0_cueBefore ∈ BW := ⟨bw_875, bw_876⟩
theorem sf_X0_sitBefore : SF yX0_sitBefore cX0_sitBefore 3 (some .int) 1 := ⟨bw_873, bw_2, ⟨by decide +kernel, by decide +kernel⟩, by decide +kernel⟩
theorem sv_X0_sitBefore : Cond.instanceMethod yX0_sitBefore ∈ BW ∧ Cond.selects RX0 yX0_sitBefore yX0_sitBefore ∈ BW := ⟨bw_871, bw_872⟩
theorem sf_X11_sit : SF yX11_sit cX11_sit 2 (some .int) 1 := ⟨bw_865, bw_1, ⟨by decide +kernel, by decide +kernel⟩, by decide +kernel⟩
theorem sv_X11_sit : Cond.instanceMethod yX11_sit ∈ BW ∧ Cond.selects RX11 yX11_sit yX11_sit ∈ BW := ⟨bw_863, bw_864⟩
theorem sf_J6_bitCount_0f7a4 : SF yJ6_bitCount_0f7a4 cJ6_bitCount_0f7a4 1 (some .int) 1 := ⟨bw_896, bw_19, ⟨by decide +kernel, by decide +kernel⟩, by decide +kernel⟩
theorem ss_J6_bitCount_0f7a4 : Cond.static yJ6_bitCount_0f7a4 ∈ BW := bw_895
theorem sf_X0_holdTerm : SF yX0_holdTerm cX0_holdTerm 5 (some .int) 0 := ⟨bw_903, bw_2, ⟨by decide +kernel, by decide +kernel⟩, by decide +kernel⟩
theorem sv_X0_holdTerm : Cond.instanceMethod yX0_holdTerm ∈ BW ∧ Cond.selects RX0 yX0_holdTerm yX0_holdTerm ∈ BW := ⟨bw_901, bw_902⟩
theorem sf_X11_term : SF yX11_term cX11_term 2 (some .int) 0 := ⟨bw_893, bw_1, ⟨by decide +kernel, by decide +kernel⟩, by decide +kernel⟩
theorem sv_X11_term : Cond.instanceMethod yX11_term ∈ BW ∧ Cond.selects RX11 yX11_term yX11_term ∈ BW := ⟨bw_891, bw_892⟩
theorem sf_X0_feedPerson : SF yX0_feedPerson cX0_feedPerson 4 (some .boolean) 2 := ⟨bw_913, bw_2, ⟨by decide +kernel, by decide +kernel⟩, by decide +kernel⟩
theorem sv_X0_feedPerson : Cond.instanceMethod yX0_feedPerson ∈ BW ∧ Cond.selects RX0 yX0_feedPerson yX0_feedPerson ∈ BW := ⟨bw_911, bw_912⟩
theorem sf_X11_meal : SF yX11_meal cX11_meal 3 (some .int) 2 := ⟨bw_909, bw_1, ⟨by decide +kernel, by decide +kernel⟩, by decide +kernel⟩
theorem sv_X11_meal : Cond.instanceMethod yX11_meal ∈ BW ∧ Cond.selects RX11 yX11_meal yX11_meal ∈ BW := ⟨bw_907, bw_908⟩
theorem sf_X0_setSmell : SF yX0_setSmell cX0_setSmell 5 (some .boolean) 3 := ⟨bw_921, bw_2, ⟨by decide +kernel, by decide +kernel⟩, by decide +kernel⟩
theorem sv_X0_setSmell : Cond.instanceMethod yX0_setSmell ∈ BW ∧ Cond.selects RX0 yX0_setSmell yX0_setSmell ∈ BW := ⟨bw_919, bw_920⟩
theorem sf_X11_scent : SF yX11_scent cX11_scent 4 (some .boolean) 3 := ⟨bw_917, bw_1, ⟨by decide +kernel, by decide +kernel⟩, by decide +kernel⟩
theorem sv_X11_scent : Cond.instanceMethod yX11_scent ∈ BW ∧ Cond.selects RX11 yX11_scent yX11_scent ∈ BW := ⟨bw_915, bw_916⟩
theorem sf_X0_coolDown : SF yX0_coolDown cX0_coolDown 2 (some .boolean) 0 := ⟨bw_929, bw_2, ⟨by decide +kernel, by decide +kernel⟩, by decide +kernel⟩
theorem sv_X0_coolDown : Cond.instanceMethod yX0_coolDown ∈ BW ∧ Cond.selects RX0 yX0_coolDown yX0_coolDown ∈ BW := ⟨bw_927, bw_928⟩
theorem sf_X11_night : SF yX11_night cX11_night 2 (some .int) 0 := ⟨bw_925, bw_1, ⟨by decide +kernel, by decide +kernel⟩, by decide +kernel⟩
theorem sv_X11_night : Cond.instanceMethod yX11_night ∈ BW ∧ Cond.selects RX11 yX11_night yX11_night ∈ BW := ⟨bw_923, bw_924⟩
theorem sf_X11_appeal : SF yX11_appeal cX11_appeal 4 (some .int) 1 := ⟨bw_933, bw_1, ⟨by decide +kernel, by decide +kernel⟩, by decide +kernel⟩
theorem sv_X11_appeal : Cond.instanceMethod yX11_appeal ∈ BW ∧ Cond.selects RX11 yX11_appeal yX11_appeal ∈ BW := ⟨bw_931, bw_932⟩
theorem sf_X11_blame : SF yX11_blame cX11_blame 5 (some .boolean) 2 := ⟨bw_937, bw_1, ⟨by decide +kernel, by decide +kernel⟩, by decide +kernel⟩
theorem sv_X11_blame : Cond.instanceMethod yX11_blame ∈ BW ∧ Cond.selects RX11 yX11_blame yX11_blame ∈ BW := ⟨bw_935, bw_936⟩
theorem sf_X11_reread : SF yX11_reread cX11_reread 3 (some .boolean) 2 := ⟨bw_941, bw_1, ⟨by decide +kernel, by decide +kernel⟩, by decide +kernel⟩
theorem sv_X11_reread : Cond.instanceMethod yX11_reread ∈ BW ∧ Cond.selects RX11 yX11_reread yX11_reread ∈ BW := ⟨bw_939, bw_940⟩
theorem sf_X11_enact : SF yX11_enact cX11_enact 7 (some .int) 3 := ⟨bw_946, bw_1, ⟨by decide +kernel, by decide +kernel⟩, by decide +kernel⟩
theorem sv_X11_enact : Cond.instanceMethod yX11_enact ∈ BW ∧ Cond.selects RX11 yX11_enact yX11_enact ∈ BW := ⟨bw_944, bw_945⟩
theorem sf_X6_copyFrom : SF yX6_copyFrom cX6_copyFrom 2 none 1 := ⟨bw_961, bw_4, ⟨by decide +kernel, by decide +kernel⟩, by decide +kernel⟩
theorem sv_X6_copyFrom : Cond.instanceMethod yX6_copyFrom ∈ BW ∧ Cond.selects RX6 yX6_copyFrom yX6_copyFrom ∈ BW := ⟨bw_959, bw_960⟩
theorem sf_X0_dropRule : SF yX0_dropRule cX0_dropRule 3 none 1 := ⟨bw_957, bw_2, ⟨by decide +kernel, by decide +kernel⟩, by decide +kernel⟩
theorem sv_X0_dropRule : Cond.instanceMethod yX0_dropRule ∈ BW ∧ Cond.selects RX0 yX0_dropRule yX0_dropRule ∈ BW := ⟨bw_955, bw_956⟩
theorem sf_X11_repeal : SF yX11_repeal cX11_repeal 2 (some .int) 1 := ⟨bw_953, bw_1, ⟨by decide +kernel, by decide +kernel⟩, by decide +kernel⟩
theorem sv_X11_repeal : Cond.instanceMethod yX11_repeal ∈ BW ∧ Cond.selects RX11 yX11_repeal yX11_repeal ∈ BW := ⟨bw_951, bw_952⟩
theorem sf_X11_strain : SF yX11_strain cX11_strain 3 (some .boolean) 2 := ⟨bw_965, bw_1, ⟨by decide +kernel, by decide +kernel⟩, by decide +kernel⟩
theorem sv_X11_strain : Cond.instanceMethod yX11_strain ∈ BW ∧ Cond.selects RX11 yX11_strain yX11_strain ∈ BW := ⟨bw_963, bw_964⟩
theorem sf_X11_cueAt : SF yX11_cueAt cX11_cueAt 4 (some .int) 2 := ⟨bw_973, bw_1, ⟨by decide +kernel, by decide +kernel⟩, by decide +kernel⟩
theorem sv_X11_cueAt : Cond.instanceMethod yX11_cueAt ∈ BW ∧ Cond.selects RX11 yX11_cueAt yX11_cueAt ∈ BW := ⟨bw_971, bw_972⟩
theorem sf_X11_cue : SF yX11_cue cX11_cue 2 (some .int) 1 := ⟨bw_969, bw_1, ⟨by decide +kernel, by decide +kernel⟩, by decide +kernel⟩
theorem sv_X11_cue : Cond.instanceMethod yX11_cue ∈ BW ∧ Cond.selects RX11 yX11_cue yX11_cue ∈ BW := ⟨bw_967, bw_968⟩
theorem sf_X11_bears : SF yX11_bears cX11_bears 4 (some .int) 1 := ⟨bw_979, bw_1, ⟨by decide +kernel, by decide +kernel⟩, by decide +kernel⟩
theorem sv_X11_bears : Cond.instanceMethod yX11_bears ∈ BW ∧ Cond.selects RX11 yX11_bears yX11_bears ∈ BW := ⟨bw_977, bw_978⟩
theorem sf_X11_bearing : SF yX11_bearing cX11_bearing 5 (some .int) 1 := ⟨bw_984, bw_1, ⟨by decide +kernel, by decide +kernel⟩, by decide +kernel⟩
theorem sv_X11_bearing : Cond.instanceMethod yX11_bearing ∈ BW ∧ Cond.selects RX11 yX11_bearing yX11_bearing ∈ BW := ⟨bw_982, bw_983⟩
theorem sf_X11_shown : SF yX11_shown cX11_shown 4 (some .int) 1 := ⟨bw_989, bw_1, ⟨by decide +kernel, by decide +kernel⟩, by decide +kernel⟩
theorem sv_X11_shown : Cond.instanceMethod yX11_shown ∈ BW ∧ Cond.selects RX11 yX11_shown yX11_shown ∈ BW := ⟨bw_987, bw_988⟩
theorem sf_X5_copyFrom : SF yX5_copyFrom cX5_copyFrom 2 none 1 := ⟨bw_1002, bw_5, ⟨by decide +kernel, by decide +kernel⟩, by decide +kernel⟩
theorem sv_X5_copyFrom : Cond.instanceMethod yX5_copyFrom ∈ BW ∧ Cond.selects RX5 yX5_copyFrom yX5_copyFrom ∈ BW := ⟨bw_1000, bw_1001⟩
theorem sf_X0_copyFrom : SF yX0_copyFrom cX0_copyFrom 3 none 1 := ⟨bw_997, bw_2, ⟨by decide +kernel, by decide +kernel⟩, by decide +kernel⟩
theorem sv_X0_copyFrom : Cond.instanceMethod yX0_copyFrom ∈ BW ∧ Cond.selects RX0 yX0_copyFrom yX0_copyFrom ∈ BW := ⟨bw_995, bw_996⟩
theorem sf_X11_freeIn : SF yX11_freeIn cX11_freeIn 3 (some .int) 1 := ⟨bw_993, bw_1, ⟨by decide +kernel, by decide +kernel⟩, by decide +kernel⟩
theorem sv_X11_freeIn : Cond.instanceMethod yX11_freeIn ∈ BW ∧ Cond.selects RX11 yX11_freeIn yX11_freeIn ∈ BW := ⟨bw_991, bw_992⟩
theorem sf_X11_judgedIn : SF yX11_judgedIn cX11_judgedIn 3 (some .int) 1 := ⟨bw_1007, bw_1, ⟨by decide +kernel, by decide +kernel⟩, by decide +kernel⟩
theorem sv_X11_judgedIn : Cond.instanceMethod yX11_judgedIn ∈ BW ∧ Cond.selects RX11 yX11_judgedIn yX11_judgedIn ∈ BW := ⟨bw_1005, bw_1006⟩
theorem sf_X0_cueFor : SF yX0_cueFor cX0_cueFor 6 (some .int) 4 := ⟨bw_1024, bw_2, ⟨by decide +kernel, by decide +kernel⟩, by decide +kernel⟩
theorem sv_X0_cueFor : Cond.instanceMethod yX0_cueFor ∈ BW ∧ Cond.selects RX0 yX0_cueFor yX0_cueFor ∈ BW := ⟨bw_1022, bw_1023⟩
theorem sf_X11_takeThree : SF yX11_takeThree cX11_takeThree 5 none 3 := ⟨bw_1020, bw_1, ⟨by decide +kernel, by decide +kernel⟩, by decide +kernel⟩
theorem sv_X11_takeThree : Cond.instanceMethod yX11_takeThree ∈ BW ∧ Cond.selects RX11 yX11_takeThree yX11_takeThree ∈ BW := ⟨bw_1019, bp_31⟩
theorem sf_X11_readThrees : SF yX11_readThrees cX11_readThrees 12 (some .int) 2 := ⟨bw_1015, bw_1, ⟨by decide +kernel, by decide +kernel⟩, by decide +kernel⟩
theorem sv_X11_readThrees : Cond.instanceMethod yX11_readThrees ∈ BW ∧ Cond.selects RX11 yX11_readThrees yX11_readThrees ∈ BW := ⟨bw_1014, bp_30⟩
theorem sf_X11_ways : SF yX11_ways cX11_ways 1 (some .int) 0 := ⟨bw_1028, bw_1, ⟨by decide +kernel, by decide +kernel⟩, by decide +kernel⟩
theorem sv_X11_ways : Cond.instanceMethod yX11_ways ∈ BW ∧ Cond.selects RX11 yX11_ways yX11_ways ∈ BW := ⟨bw_1027, bp_32⟩
theorem sf_X11_fits : SF yX11_fits cX11_fits 4 (some .int) 2 := ⟨bw_1011, bw_1, ⟨by decide +kernel, by decide +kernel⟩, by decide +kernel⟩
theorem sv_X11_fits : Cond.instanceMethod yX11_fits ∈ BW ∧ Cond.selects RX11 yX11_fits yX11_fits ∈ BW := ⟨bw_1009, bw_1010⟩
theorem sf_X11_isOpen : SF yX11_isOpen cX11_isOpen 2 (some .boolean) 1 := ⟨bw_1036, bw_1, ⟨by decide +kernel, by decide +kernel⟩, by decide +kernel⟩
theorem sv_X11_isOpen : Cond.instanceMethod yX11_isOpen ∈ BW ∧ Cond.selects RX11 yX11_isOpen yX11_isOpen ∈ BW := ⟨bw_1035, bp_33⟩
theorem sf_X11_sure : SF yX11_sure cX11_sure 5 (some .int) 3 := ⟨bw_1032, bw_1, ⟨by decide +kernel, by decide +kernel⟩, by decide +kernel⟩
theorem sv_X11_sure : Cond.instanceMethod yX11_sure ∈ BW ∧ Cond.selects RX11 yX11_sure yX11_sure ∈ BW := ⟨bw_1030, bw_1031⟩
theorem sf_X11_commonDivisor : SF yX11_commonDivisor cX11_commonDivisor 11 (some .long) 2 := ⟨bw_1049, bw_1, ⟨by decide +kernel, by decide +kernel⟩, by decide +kernel⟩
theorem ss_X11_commonDivisor : Cond.static yX11_commonDivisor ∈ BW := bw_1048
theorem sf_X11_tellFraction : SF yX11_tellFraction cX11_tellFraction 7 (some .boolean) 2 := ⟨bw_1046, bw_1, ⟨by decide +kernel, by decide +kernel⟩, by decide +kernel⟩
theorem sv_X11_tellFraction : Cond.instanceMethod yX11_tellFraction ∈ BW ∧ Cond.selects RX11 yX11_tellFraction yX11_tellFraction ∈ BW := ⟨bw_1045, bp_34⟩
theorem sf_X11_odds : SF yX11_odds cX11_odds 5 (some .boolean) 3 := ⟨bw_1041, bw_1, ⟨by decide +kernel, by decide +kernel⟩, by decide +kernel⟩
theorem sv_X11_odds : Cond.instanceMethod yX11_odds ∈ BW ∧ Cond.selects RX11 yX11_odds yX11_odds ∈ BW := ⟨bw_1039, bw_1040⟩
theorem sf_X11_bestQuestion : SF yX11_bestQuestion cX11_bestQuestion 5 (some .int) 0 := ⟨bw_1057, bw_1, ⟨by decide +kernel, by decide +kernel⟩, by decide +kernel⟩
theorem sv_X11_bestQuestion : Cond.instanceMethod yX11_bestQuestion ∈ BW ∧ Cond.selects RX11 yX11_bestQuestion yX11_bestQuestion ∈ BW := ⟨bw_1056, bp_35⟩
theorem sf_X11_ask : SF yX11_ask cX11_ask 6 (some .int) 3 := ⟨bw_1053, bw_1, ⟨by decide +kernel, by decide +kernel⟩, by decide +kernel⟩
theorem sv_X11_ask : Cond.instanceMethod yX11_ask ∈ BW ∧ Cond.selects RX11 yX11_ask yX11_ask ∈ BW := ⟨bw_1051, bw_1052⟩
theorem sf_X11_leastPlan : SF yX11_leastPlan cX11_leastPlan 10 (some .int) 2 := ⟨bw_1065, bw_1, ⟨by decide +kernel, by decide +kernel⟩, by decide +kernel⟩
theorem sv_X11_leastPlan : Cond.instanceMethod yX11_leastPlan ∈ BW ∧ Cond.selects RX11 yX11_leastPlan yX11_leastPlan ∈ BW := ⟨bw_1064, bp_36⟩
theorem sf_X11_least : SF yX11_least cX11_least 4 (some .int) 2 := ⟨bw_1061, bw_1, ⟨by decide +kernel, by decide +kernel⟩, by decide +kernel⟩
theorem sv_X11_least : Cond.instanceMethod yX11_least ∈ BW ∧ Cond.selects RX11 yX11_least yX11_least ∈ BW := ⟨bw_1059, bw_1060⟩
theorem sf_X11_leastBy : SF yX11_leastBy cX11_leastBy 5 (some .int) 3 := ⟨bw_1069, bw_1, ⟨by decide +kernel, by decide +kernel⟩, by decide +kernel⟩
theorem sv_X11_leastBy : Cond.instanceMethod yX11_leastBy ∈ BW ∧ Cond.selects RX11 yX11_leastBy yX11_leastBy ∈ BW := ⟨bw_1067, bw_1068⟩
theorem sf_X10_countSmells : SF yX10_countSmells cX10_countSmells 11 none 4 := ⟨bw_1082, bw_13, ⟨by decide +kernel, by decide +kernel⟩, by decide +kernel⟩
theorem sv_X10_countSmells : Cond.instanceMethod yX10_countSmells ∈ BW ∧ Cond.selects RX10 yX10_countSmells yX10_countSmells ∈ BW := ⟨bw_1081, bp_37⟩
theorem sf_X10_countIn : SF yX10_countIn cX10_countIn 4 none 1 := ⟨bw_1077, bw_13, ⟨by decide +kernel, by decide +kernel⟩, by decide +kernel⟩
theorem sv_X10_countIn : Cond.instanceMethod yX10_countIn ∈ BW ∧ Cond.selects RX10 yX10_countIn yX10_countIn ∈ BW := ⟨bw_1075, bw_1076⟩
theorem sf_X11_reach : SF yX11_reach cX11_reach 2 (some .int) 1 := ⟨bw_1073, bw_1, ⟨by decide +kernel, by decide +kernel⟩, by decide +kernel⟩
theorem sv_X11_reach : Cond.instanceMethod yX11_reach ∈ BW ∧ Cond.selects RX11 yX11_reach yX11_reach ∈ BW := ⟨bw_1071, bw_1072⟩
theorem sf_X11_idle : SF yX11_idle cX11_idle 3 (some .int) 0 := ⟨bw_1091, bw_1, ⟨by decide +kernel, by decide +kernel⟩, by decide +kernel⟩
theorem sv_X11_idle : Cond.instanceMethod yX11_idle ∈ BW ∧ Cond.selects RX11 yX11_idle yX11_idle ∈ BW := ⟨bw_1089, bw_1090⟩
theorem sf_X11_tells : SF yX11_tells cX11_tells 5 (some .boolean) 1 := ⟨bw_1095, bw_1, ⟨by decide +kernel, by decide +kernel⟩, by decide +kernel⟩
theorem sv_X11_tells : Cond.instanceMethod yX11_tells ∈ BW ∧ Cond.selects RX11 yX11_tells yX11_tells ∈ BW := ⟨bw_1093, bw_1094⟩
theorem sf_X11_mute : SF yX11_mute cX11_mute 1 (some .int) 0 := ⟨bw_1099, bw_1, ⟨by decide +kernel, by decide +kernel⟩, by decide +kernel⟩
theorem sv_X11_mute : Cond.instanceMethod yX11_mute ∈ BW ∧ Cond.selects RX11 yX11_mute yX11_mute ∈ BW := ⟨bw_1097, bw_1098⟩
theorem sf_X0_weightOf : SF yX0_weightOf cX0_weightOf 7 (some .long) 2 := ⟨bw_1112, bw_2, ⟨by decide +kernel, by decide +kernel⟩, by decide +kernel⟩
theorem sv_X0_weightOf : Cond.instanceMethod yX0_weightOf ∈ BW ∧ Cond.selects RX0 yX0_weightOf yX0_weightOf ∈ BW := ⟨bw_1111, bp_38⟩
theorem sf_X0_rightWeight : SF yX0_rightWeight cX0_rightWeight 6 (some .long) 1 := ⟨bw_1107, bw_2, ⟨by decide +kernel, by decide +kernel⟩, by decide +kernel⟩
theorem sv_X0_rightWeight : Cond.instanceMethod yX0_rightWeight ∈ BW ∧ Cond.selects RX0 yX0_rightWeight yX0_rightWeight ∈ BW := ⟨bw_1105, bw_1106⟩
theorem sf_X11_verdict : SF yX11_verdict cX11_verdict 2 (some .boolean) 1 := ⟨bw_1103, bw_1, ⟨by decide +kernel, by decide +kernel⟩, by decide +kernel⟩
theorem sv_X11_verdict : Cond.instanceMethod yX11_verdict ∈ BW ∧ Cond.selects RX11 yX11_verdict yX11_verdict ∈ BW := ⟨bw_1101, bw_1102⟩
theorem sf_X11_sworn : SF yX11_sworn cX11_sworn 8 (some .int) 1 := ⟨bw_1116, bw_1, ⟨by decide +kernel, by decide +kernel⟩, by decide +kernel⟩
theorem sv_X11_sworn : Cond.instanceMethod yX11_sworn ∈ BW ∧ Cond.selects RX11 yX11_sworn yX11_sworn ∈ BW := ⟨bw_1114, bw_1115⟩
theorem sf_X11_ordersOf : SF yX11_ordersOf cX11_ordersOf 3 (some .int) 1 := ⟨bw_1124, bw_1, ⟨by decide +kernel, by decide +kernel⟩, by decide +kernel⟩
theorem ss_X11_ordersOf : Cond.static yX11_ordersOf ∈ BW := bw_1123
theorem sf_X11_power : SF yX11_power cX11_power 8 (some .boolean) 1 := ⟨bw_1121, bw_1, ⟨by decide +kernel, by decide +kernel⟩, by decide +kernel⟩
theorem sv_X11_power : Cond.instanceMethod yX11_power ∈ BW ∧ Cond.selects RX11 yX11_power yX11_power ∈ BW := ⟨bw_1119, bw_1120⟩
theorem sf_X0_senseBefore : SF yX0_senseBefore cX0_senseBefore 3 (some .int) 2 := ⟨bw_1132, bw_2, ⟨by decide +kernel, by decide +kernel⟩, by decide +kernel⟩
theorem sv_X0_senseBefore : Cond.instanceMethod yX0_senseBefore ∈ BW ∧ Cond.selects RX0 yX0_senseBefore yX0_senseBefore ∈ BW := ⟨bw_1130, bw_1131⟩
theorem sf_X11_clash : SF yX11_clash cX11_clash 4 (some .int) 0 := ⟨bw_1128, bw_1, ⟨by decide +kernel, by decide +kernel⟩, by decide +kernel⟩
theorem sv_X11_clash : Cond.instanceMethod yX11_clash ∈ BW ∧ Cond.selects RX11 yX11_clash yX11_clash ∈ BW := ⟨bw_1126, bw_1127⟩
theorem sf_X0_wordsOf : SF yX0_wordsOf cX0_wordsOf 5 (some .int) 2 := ⟨bw_1144, bw_2, ⟨by decide +kernel, by decide +kernel⟩, by decide +kernel⟩
theorem sv_X0_wordsOf : Cond.instanceMethod yX0_wordsOf ∈ BW ∧ Cond.selects RX0 yX0_wordsOf yX0_wordsOf ∈ BW := ⟨bw_1142, bw_1143⟩
theorem sf_X11_lesserSet : SF yX11_lesserSet cX11_lesserSet 3 (some .int) 2 := ⟨bw_1147, bw_1, ⟨by decide +kernel, by decide +kernel⟩, by decide +kernel⟩
theorem ss_X11_lesserSet : Cond.static yX11_lesserSet ∈ BW := bw_1146
theorem sf_X11_wordsToStrike : SF yX11_wordsToStrike cX11_wordsToStrike 6 (some .int) 0 := ⟨bw_1140, bw_1, ⟨by decide +kernel, by decide +kernel⟩, by decide +kernel⟩
theorem sv_X11_wordsToStrike : Cond.instanceMethod yX11_wordsToStrike ∈ BW ∧ Cond.selects RX11 yX11_wordsToStrike yX11_wordsToStrike ∈ BW := ⟨bw_1139, bp_39⟩
theorem sf_X11_struck : SF yX11_struck cX11_struck 1 (some .int) 0 := ⟨bw_1136, bw_1, ⟨by decide +kernel, by decide +kernel⟩, by decide +kernel⟩
theorem sv_X11_struck : Cond.instanceMethod yX11_struck ∈ BW ∧ Cond.selects RX11 yX11_struck yX11_struck ∈ BW := ⟨bw_1134, bw_1135⟩
theorem sf_X11_struckSet : SF yX11_struckSet cX11_struckSet 1 (some .int) 0 := ⟨bw_1152, bw_1, ⟨by decide +kernel, by decide +kernel⟩, by decide +kernel⟩
theorem sv_X11_struckSet : Cond.instanceMethod yX11_struckSet ∈ BW ∧ Cond.selects RX11 yX11_struckSet yX11_struckSet ∈ BW := ⟨bw_1150, bw_1151⟩
theorem sf_X3_freeWith : SF yX3_freeWith cX3_freeWith 6 (some .int) 3 := ⟨bw_1172, bw_14, ⟨by decide +kernel, by decide +kernel⟩, by decide +kernel⟩
theorem sv_X3_freeWith : Cond.instanceMethod yX3_freeWith ∈ BW ∧ Cond.selects RX3 yX3_freeWith yX3_freeWith ∈ BW := ⟨bw_1171, bp_41⟩
theorem sf_X3_mostFrom : SF yX3_mostFrom cX3_mostFrom 6 (some .int) 3 := ⟨bw_1166, bw_14, ⟨by decide +kernel, by decide +kernel⟩, by decide +kernel⟩
theorem sv_X3_mostFrom : Cond.instanceMethod yX3_mostFrom ∈ BW ∧ Cond.selects RX3 yX3_mostFrom yX3_mostFrom ∈ BW := ⟨bw_1165, bp_40⟩
theorem sf_X3_firstOfBest : SF yX3_firstOfBest cX3_firstOfBest 5 (some .int) 3 := ⟨bw_1183, bw_14, ⟨by decide +kernel, by decide +kernel⟩, by decide +kernel⟩
theorem sv_X3_firstOfBest : Cond.instanceMethod yX3_firstOfBest ∈ BW ∧ Cond.selects RX3 yX3_firstOfBest yX3_firstOfBest ∈ BW := ⟨bw_1182, bp_42⟩
theorem sf_X3_settle : SF yX3_settle cX3_settle 6 none 1 := ⟨bw_1160, bw_14, ⟨by decide +kernel, by decide +kernel⟩, by decide +kernel⟩
theorem sv_X3_settle : Cond.instanceMethod yX3_settle ∈ BW ∧ Cond.selects RX3 yX3_settle yX3_settle ∈ BW := ⟨bw_1158, bw_1159⟩
theorem sf_X3_mostFree : SF yX3_mostFree cX3_mostFree 1 (some .int) 0 := ⟨bw_1187, bw_14, ⟨by decide +kernel, by decide +kernel⟩, by decide +kernel⟩
theorem sv_X3_mostFree : Cond.instanceMethod yX3_mostFree ∈ BW ∧ Cond.selects RX3 yX3_mostFree yX3_mostFree ∈ BW := ⟨bw_1185, bw_1186⟩
theorem sf_X11_best : SF yX11_best cX11_best 1 (some .int) 0 := ⟨bw_1156, bw_1, ⟨by decide +kernel, by decide +kernel⟩, by decide +kernel⟩
theorem sv_X11_best : Cond.instanceMethod yX11_best ∈ BW ∧ Cond.selects RX11 yX11_best yX11_best ∈ BW := ⟨bw_1154, bw_1155⟩
theorem sf_X11_bestAt : SF yX11_bestAt cX11_bestAt 2 (some .int) 1 := ⟨bw_1191, bw_1, ⟨by decide +kernel, by decide +kernel⟩, by decide +kernel⟩
theorem sv_X11_bestAt : Cond.instanceMethod yX11_bestAt ∈ BW ∧ Cond.selects RX11 yX11_bestAt yX11_bestAt ∈ BW := ⟨bw_1189, bw_1190⟩
theorem sf_X1_worth : SF yX1_worth cX1_worth 3 (some .int) 2 := ⟨bw_1203, bw_15, ⟨by decide +kernel, by decide +kernel⟩, by decide +kernel⟩
theorem ss_X1_worth : Cond.static yX1_worth ∈ BW := bw_1202
theorem sf_X1_canBe : SF yX1_canBe cX1_canBe 4 (some .boolean) 2 := ⟨bw_1211, bw_15, ⟨by decide +kernel, by decide +kernel⟩, by decide +kernel⟩
theorem ss_X1_canBe : Cond.static yX1_canBe ∈ BW := bw_1210
theorem sf_X1_change : SF yX1_change cX1_change 5 none 3 := ⟨bw_1215, bw_15, ⟨by decide +kernel, by decide +kernel⟩, by decide +kernel⟩
theorem ss_X1_change : Cond.static yX1_change ∈ BW := bw_1214
theorem sf_X1_play : SF yX1_play cX1_play 13 (some .int) 6 := ⟨bw_1208, bw_15, ⟨by decide +kernel, by decide +kernel⟩, by decide +kernel⟩
theorem ss_X1_play : Cond.static yX1_play ∈ BW := bw_1207
theorem sf_X1_begin : SF yX1_begin cX1_begin 5 (some .int) 2 := ⟨bw_1199, bw_15, ⟨by decide +kernel, by decide +kernel⟩, by decide +kernel⟩
theorem sv_X1_begin : Cond.instanceMethod yX1_begin ∈ BW ∧ Cond.selects RX1 yX1_begin yX1_begin ∈ BW := ⟨bw_1197, bw_1198⟩
theorem sf_X11_game : SF yX11_game cX11_game 2 (some .int) 1 := ⟨bw_1195, bw_1, ⟨by decide +kernel, by decide +kernel⟩, by decide +kernel⟩
theorem sv_X11_game : Cond.instanceMethod yX11_game ∈ BW ∧ Cond.selects RX11 yX11_game yX11_game ∈ BW := ⟨bw_1193, bw_1194⟩
theorem sf_X11_moveOf : SF yX11_moveOf cX11_moveOf 3 (some .int) 2 := ⟨bw_1221, bw_1, ⟨by decide +kernel, by decide +kernel⟩, by decide +kernel⟩
theorem sv_X11_moveOf : Cond.instanceMethod yX11_moveOf ∈ BW ∧ Cond.selects RX11 yX11_moveOf yX11_moveOf ∈ BW := ⟨bw_1219, bw_1220⟩
theorem sf_X11_copyFed : SF yX11_copyFed cX11_copyFed 5 (some .int) 1 := ⟨bw_1225, bw_1, ⟨by decide +kernel, by decide +kernel⟩, by decide +kernel⟩
theorem sv_X11_copyFed : Cond.instanceMethod yX11_copyFed ∈ BW ∧ Cond.selects RX11 yX11_copyFed yX11_copyFed ∈ BW := ⟨bw_1223, bw_1224⟩
theorem sf_X2_begin : SF yX2_begin cX2_begin 2 none 1 := ⟨bw_1233, bw_16, ⟨by decide +kernel, by decide +kernel⟩, by decide +kernel⟩
theorem sv_X2_begin : Cond.instanceMethod yX2_begin ∈ BW ∧ Cond.selects RX2 yX2_begin yX2_begin ∈ BW := ⟨bw_1231, bw_1232⟩
theorem sf_X2_comesTo : SF yX2_comesTo cX2_comesTo 1 (some .boolean) 0 := ⟨bw_1240, bw_16, ⟨by decide +kernel, by decide +kernel⟩, by decide +kernel⟩
theorem sv_X2_comesTo : Cond.instanceMethod yX2_comesTo ∈ BW ∧ Cond.selects RX2 yX2_comesTo yX2_comesTo ∈ BW := ⟨bw_1239, bp_43⟩
theorem sf_X9_cellAt : SF yX9_cellAt cX9_cellAt 3 (some .int) 2 := ⟨bw_1244, bw_3, ⟨by decide +kernel, by decide +kernel⟩, by decide +kernel⟩
theorem sv_X9_cellAt : Cond.instanceMethod yX9_cellAt ∈ BW ∧ Cond.selects RX9 yX9_cellAt yX9_cellAt ∈ BW := ⟨bw_1242, bw_1243⟩
theorem sf_X2_holds : SF yX2_holds cX2_holds 4 (some .boolean) 2 := ⟨bw_1248, bw_16, ⟨by decide +kernel, by decide +kernel⟩, by decide +kernel⟩
theorem ss_X2_holds : Cond.static yX2_holds ∈ BW := bw_1247
theorem sf_X0_canHoldTerm : SF yX0_canHoldTerm cX0_canHoldTerm 2 (some .boolean) 0 := ⟨bw_1261, bw_2, ⟨by decide +kernel, by decide +kernel⟩, by decide +kernel⟩
theorem sv_X0_canHoldTerm : Cond.instanceMethod yX0_canHoldTerm ∈ BW ∧ Cond.selects RX0 yX0_canHoldTerm yX0_canHoldTerm ∈ BW := ⟨bw_1259, bw_1260⟩
theorem sf_X2_draw : SF yX2_draw cX2_draw 2 (some .int) 1 := ⟨bw_1277, bw_16, ⟨by decide +kernel, by decide +kernel⟩, by decide +kernel⟩
theorem sv_X2_draw : Cond.instanceMethod yX2_draw ∈ BW ∧ Cond.selects RX2 yX2_draw yX2_draw ∈ BW := ⟨bw_1276, bp_46⟩
theorem sf_X2_feedsAny : SF yX2_feedsAny cX2_feedsAny 4 (some .boolean) 1 := ⟨bw_1272, bw_16, ⟨by decide +kernel, by decide +kernel⟩, by decide +kernel⟩
theorem sv_X2_feedsAny : Cond.instanceMethod yX2_feedsAny ∈ BW ∧ Cond.selects RX2 yX2_feedsAny yX2_feedsAny ∈ BW := ⟨bw_1271, bp_45⟩
theorem sf_X2_does : SF yX2_does cX2_does 6 (some .boolean) 3 := ⟨bw_1255, bw_16, ⟨by decide +kernel, by decide +kernel⟩, by decide +kernel⟩
theorem sv_X2_does : Cond.instanceMethod yX2_does ∈ BW ∧ Cond.selects RX2 yX2_does yX2_does ∈ BW := ⟨bw_1254, bp_44⟩
theorem sf_X2_runSteps : SF yX2_runSteps cX2_runSteps 12 none 5 := ⟨bw_1236, bw_16, ⟨by decide +kernel, by decide +kernel⟩, by decide +kernel⟩
theorem ss_X2_runSteps : Cond.static yX2_runSteps ∈ BW := bw_1235
theorem sf_X2_keep : SF yX2_keep cX2_keep 3 none 2 := ⟨bw_1282, bw_16, ⟨by decide +kernel, by decide +kernel⟩, by decide +kernel⟩
theorem sv_X2_keep : Cond.instanceMethod yX2_keep ∈ BW ∧ Cond.selects RX2 yX2_keep yX2_keep ∈ BW := ⟨bw_1280, bw_1281⟩
theorem sf_X2_keepSteps : SF yX2_keepSteps cX2_keepSteps 1 none 0 := ⟨bw_1287, bw_16, ⟨by decide +kernel, by decide +kernel⟩, by decide +kernel⟩
theorem sv_X2_keepSteps : Cond.instanceMethod yX2_keepSteps ∈ BW ∧ Cond.selects RX2 yX2_keepSteps yX2_keepSteps ∈ BW := ⟨bw_1285, bw_1286⟩
theorem sf_X11_live : SF yX11_live cX11_live 5 (some .int) 1 := ⟨bw_1229, bw_1, ⟨by decide +kernel, by decide +kernel⟩, by decide +kernel⟩
theorem sv_X11_live : Cond.instanceMethod yX11_live ∈ BW ∧ Cond.selects RX11 yX11_live yX11_live ∈ BW := ⟨bw_1227, bw_1228⟩
theorem sf_X11_lived : SF yX11_lived cX11_lived 2 (some .int) 1 := ⟨bw_1292, bw_1, ⟨by decide +kernel, by decide +kernel⟩, by decide +kernel⟩
theorem sv_X11_lived : Cond.instanceMethod yX11_lived ∈ BW ∧ Cond.selects RX11 yX11_lived yX11_lived ∈ BW := ⟨bw_1290, bw_1291⟩
theorem sf_X0_allFed : SF yX0_allFed cX0_allFed 3 (some .int) 0 := ⟨bw_1300, bw_2, ⟨by decide +kernel, by decide +kernel⟩, by decide +kernel⟩
theorem sv_X0_allFed : Cond.instanceMethod yX0_allFed ∈ BW ∧ Cond.selects RX0 yX0_allFed yX0_allFed ∈ BW := ⟨bw_1298, bw_1299⟩
theorem sf_X11_mean : SF yX11_mean cX11_mean 6 (some .boolean) 2 := ⟨bw_1296, bw_1, ⟨by decide +kernel, by decide +kernel⟩, by decide +kernel⟩
theorem sv_X11_mean : Cond.instanceMethod yX11_mean ∈ BW ∧ Cond.selects RX11 yX11_mean yX11_mean ∈ BW := ⟨bw_1294, bw_1295⟩
theorem sf_X11_markAt : SF yX11_markAt cX11_markAt 3 (some (.object "CatWitness$Court")) 1 := ⟨bw_1308, bw_1, ⟨by decide +kernel, by decide +kernel⟩, by decide +kernel⟩
theorem sv_X11_markAt : Cond.instanceMethod yX11_markAt ∈ BW ∧ Cond.selects RX11 yX11_markAt yX11_markAt ∈ BW := ⟨bw_1307, bp_47⟩
theorem sf_X11_mark : SF yX11_mark cX11_mark 1 (some .int) 0 := ⟨bw_1304, bw_1, ⟨by decide +kernel, by decide +kernel⟩, by decide +kernel⟩
theorem sv_X11_mark : Cond.instanceMethod yX11_mark ∈ BW ∧ Cond.selects RX11 yX11_mark yX11_mark ∈ BW := ⟨bw_1302, bw_1303⟩
theorem sf_X11_undo : SF yX11_undo cX11_undo 1 (some .int) 0 := ⟨bw_1312, bw_1, ⟨by decide +kernel, by decide +kernel⟩, by decide +kernel⟩
theorem sv_X11_undo : Cond.instanceMethod yX11_undo ∈ BW ∧ Cond.selects RX11 yX11_undo yX11_undo ∈ BW := ⟨bw_1310, bw_1311⟩
theorem sf_X12_plain : SF yX12_plain cX12_plain 3 none 1 := ⟨bw_1322, bw_17, ⟨by decide +kernel, by decide +kernel⟩, by decide +kernel⟩
theorem sv_X12_plain : Cond.instanceMethod yX12_plain ∈ BW ∧ Cond.selects RX12 yX12_plain yX12_plain ∈ BW := ⟨bw_1321, bp_48⟩
theorem sf_X12_status : SF yX12_status cX12_status 1 (some .int) 0 := ⟨bw_1454, bw_17, ⟨by decide +kernel, by decide +kernel⟩, by decide +kernel⟩
theorem sv_X12_status : Cond.instanceMethod yX12_status ∈ BW ∧ Cond.selects RX12 yX12_status yX12_status ∈ BW := ⟨bw_1452, bw_1453⟩
theorem sf_X12_top : SF yX12_top cX12_top 1 (some .long) 0 := ⟨bw_1458, bw_17, ⟨by decide +kernel, by decide +kernel⟩, by decide +kernel⟩
theorem sv_X12_top : Cond.instanceMethod yX12_top ∈ BW ∧ Cond.selects RX12 yX12_top yX12_top ∈ BW := ⟨bw_1456, bw_1457⟩
theorem sf_X12_bottom : SF yX12_bottom cX12_bottom 1 (some .long) 0 := ⟨bw_1462, bw_17, ⟨by decide +kernel, by decide +kernel⟩, by decide +kernel⟩
theorem sv_X12_bottom : Cond.instanceMethod yX12_bottom ∈ BW ∧ Cond.selects RX12 yX12_bottom yX12_bottom ∈ BW := ⟨bw_1460, bw_1461⟩
theorem sf_X12_is : SF yX12_is cX12_is 2 (some .boolean) 1 := ⟨bw_1473, bw_17, ⟨by decide +kernel, by decide +kernel⟩, by decide +kernel⟩
theorem sv_X12_is : Cond.instanceMethod yX12_is ∈ BW ∧ Cond.selects RX12 yX12_is yX12_is ∈ BW := ⟨bw_1472, bp_49⟩
theorem sf_X12_refuse : SF yX12_refuse cX12_refuse 2 (some .int) 1 := ⟨bw_1533, bw_17, ⟨by decide +kernel, by decide +kernel⟩, by decide +kernel⟩
theorem sv_X12_refuse : Cond.instanceMethod yX12_refuse ∈ BW ∧ Cond.selects RX12 yX12_refuse yX12_refuse ∈ BW := ⟨bw_1532, bp_55⟩
theorem sf_X12_gives : SF yX12_gives cX12_gives 2 (some .int) 1 := ⟨bw_1642, bw_17, ⟨by decide +kernel, by decide +kernel⟩, by decide +kernel⟩
theorem sv_X12_gives : Cond.instanceMethod yX12_gives ∈ BW ∧ Cond.selects RX12 yX12_gives yX12_gives ∈ BW := ⟨bw_1641, bp_80⟩
theorem sf_X12_orNone : SF yX12_orNone cX12_orNone 2 (some .int) 1 := ⟨bw_1710, bw_17, ⟨by decide +kernel, by decide +kernel⟩, by decide +kernel⟩
theorem sv_X12_orNone : Cond.instanceMethod yX12_orNone ∈ BW ∧ Cond.selects RX12 yX12_orNone yX12_orNone ∈ BW := ⟨bw_1709, bp_93⟩
theorem sf_X12_tellsBy : SF yX12_tellsBy cX12_tellsBy 11 (some .boolean) 2 := ⟨bw_1917, bw_17, ⟨by decide +kernel, by decide +kernel⟩, by decide +kernel⟩
theorem sv_X12_tellsBy : Cond.instanceMethod yX12_tellsBy ∈ BW ∧ Cond.selects RX12 yX12_tellsBy yX12_tellsBy ∈ BW := ⟨bw_1916, bp_117⟩
theorem sf_X12_isTray : SF yX12_isTray cX12_isTray 1 (some .boolean) 1 := ⟨bw_1469, bw_17, ⟨by decide +kernel, by decide +kernel⟩, by decide +kernel⟩
theorem ss_X12_isTray : Cond.static yX12_isTray ∈ BW := bw_1468
theorem sf_X12_cut : SF yX12_cut cX12_cut 3 (some .long) 2 := ⟨bw_1484, bw_17, ⟨by decide +kernel, by decide +kernel⟩, by decide +kernel⟩
theorem ss_X12_cut : Cond.static yX12_cut ∈ BW := bw_1483
theorem sf_X12_tray : SF yX12_tray cX12_tray 5 (some .boolean) 3 := ⟨bw_1466, bw_17, ⟨by decide +kernel, by decide +kernel⟩, by decide +kernel⟩
theorem sv_X12_tray : Cond.instanceMethod yX12_tray ∈ BW ∧ Cond.selects RX12 yX12_tray yX12_tray ∈ BW := ⟨bw_1464, bw_1465⟩
theorem sf_X12_wrongPlace : SF yX12_wrongPlace cX12_wrongPlace 3 (some .int) 2 := ⟨bw_1481, bw_17, ⟨by decide +kernel, by decide +kernel⟩, by decide +kernel⟩
theorem sv_X12_wrongPlace : Cond.instanceMethod yX12_wrongPlace ∈ BW ∧ Cond.selects RX12 yX12_wrongPlace yX12_wrongPlace ∈ BW := ⟨bw_1480, bp_50⟩
theorem sf_X12_write : SF yX12_write cX12_write 6 (some .boolean) 3 := ⟨bw_1477, bw_17, ⟨by decide +kernel, by decide +kernel⟩, by decide +kernel⟩
theorem sv_X12_write : Cond.instanceMethod yX12_write ∈ BW ∧ Cond.selects RX12 yX12_write yX12_write ∈ BW := ⟨bw_1475, bw_1476⟩
theorem sf_X12_read : SF yX12_read cX12_read 3 (some .long) 2 := ⟨bw_1488, bw_17, ⟨by decide +kernel, by decide +kernel⟩, by decide +kernel⟩
theorem sv_X12_read : Cond.instanceMethod yX12_read ∈ BW ∧ Cond.selects RX12 yX12_read yX12_read ∈ BW := ⟨bw_1486, bw_1487⟩
theorem sf_X12_pour : SF yX12_pour cX12_pour 8 (some .boolean) 5 := ⟨bw_1493, bw_17, ⟨by decide +kernel, by decide +kernel⟩, by decide +kernel⟩
theorem sv_X12_pour : Cond.instanceMethod yX12_pour ∈ BW ∧ Cond.selects RX12 yX12_pour yX12_pour ∈ BW := ⟨bw_1491, bw_1492⟩
theorem sf_X12_isFrom : SF yX12_isFrom cX12_isFrom 6 (some .boolean) 3 := ⟨bw_1769, bw_17, ⟨by decide +kernel, by decide +kernel⟩, by decide +kernel⟩
theorem ss_X12_isFrom : Cond.static yX12_isFrom ∈ BW := bw_1768
theorem sf_X12_four : SF yX12_four cX12_four 3 none 1 := ⟨bw_1501, bw_17, ⟨by decide +kernel, by decide +kernel⟩, by decide +kernel⟩
theorem sv_X12_four : Cond.instanceMethod yX12_four ∈ BW ∧ Cond.selects RX12 yX12_four yX12_four ∈ BW := ⟨bw_1500, bp_51⟩
theorem sf_X12_feed : SF yX12_feed cX12_feed 6 (some .int) 5 := ⟨bw_1497, bw_17, ⟨by decide +kernel, by decide +kernel⟩, by decide +kernel⟩
theorem sv_X12_feed : Cond.instanceMethod yX12_feed ∈ BW ∧ Cond.selects RX12 yX12_feed yX12_feed ∈ BW := ⟨bw_1495, bw_1496⟩
theorem sf_X12_byteAt : SF yX12_byteAt cX12_byteAt 2 (some .int) 1 := ⟨bw_1521, bw_17, ⟨by decide +kernel, by decide +kernel⟩, by decide +kernel⟩
theorem sv_X12_byteAt : Cond.instanceMethod yX12_byteAt ∈ BW ∧ Cond.selects RX12 yX12_byteAt yX12_byteAt ∈ BW := ⟨bw_1520, bp_54⟩
theorem sf_X12_isSmall : SF yX12_isSmall cX12_isSmall 1 (some .boolean) 1 := ⟨bw_1524, bw_17, ⟨by decide +kernel, by decide +kernel⟩, by decide +kernel⟩
theorem ss_X12_isSmall : Cond.static yX12_isSmall ∈ BW := bw_1523
theorem sf_X12_isDigit : SF yX12_isDigit cX12_isDigit 1 (some .boolean) 1 := ⟨bw_1527, bw_17, ⟨by decide +kernel, by decide +kernel⟩, by decide +kernel⟩
theorem ss_X12_isDigit : Cond.static yX12_isDigit ∈ BW := bw_1526
theorem sf_X12_ahead : SF yX12_ahead cX12_ahead 2 none 0 := ⟨bw_1517, bw_17, ⟨by decide +kernel, by decide +kernel⟩, by decide +kernel⟩
theorem sv_X12_ahead : Cond.instanceMethod yX12_ahead ∈ BW ∧ Cond.selects RX12 yX12_ahead yX12_ahead ∈ BW := ⟨bw_1516, bp_53⟩
theorem sf_X12_isSign : SF yX12_isSign cX12_isSign 2 (some .boolean) 1 := ⟨bw_1607, bw_17, ⟨by decide +kernel, by decide +kernel⟩, by decide +kernel⟩
theorem sv_X12_isSign : Cond.instanceMethod yX12_isSign ∈ BW ∧ Cond.selects RX12 yX12_isSign yX12_isSign ∈ BW := ⟨bw_1606, bp_72⟩
theorem sf_X12_inWords : SF yX12_inWords cX12_inWords 7 (some .int) 1 := ⟨bw_1542, bw_17, ⟨by decide +kernel, by decide +kernel⟩, by decide +kernel⟩
theorem sv_X12_inWords : Cond.instanceMethod yX12_inWords ∈ BW ∧ Cond.selects RX12 yX12_inWords yX12_inWords ∈ BW := ⟨bw_1541, bp_57⟩
theorem sf_X12_fails : SF yX12_fails cX12_fails 2 (some .boolean) 1 := ⟨bw_1548, bw_17, ⟨by decide +kernel, by decide +kernel⟩, by decide +kernel⟩
theorem sv_X12_fails : Cond.instanceMethod yX12_fails ∈ BW ∧ Cond.selects RX12 yX12_fails yX12_fails ∈ BW := ⟨bw_1547, bp_58⟩
theorem sf_X12_begins : SF yX12_begins cX12_begins 4 (some .boolean) 2 := ⟨bw_1513, bw_17, ⟨by decide +kernel, by decide +kernel⟩, by decide +kernel⟩
theorem sv_X12_begins : Cond.instanceMethod yX12_begins ∈ BW ∧ Cond.selects RX12 yX12_begins yX12_begins ∈ BW := ⟨bw_1512, bp_52⟩
theorem sf_X12_wantSign : SF yX12_wantSign cX12_wantSign 2 (some .boolean) 1 := ⟨bw_1634, bw_17, ⟨by decide +kernel, by decide +kernel⟩, by decide +kernel⟩
theorem sv_X12_wantSign : Cond.instanceMethod yX12_wantSign ∈ BW ∧ Cond.selects RX12 yX12_wantSign yX12_wantSign ∈ BW := ⟨bw_1633, bp_78⟩
theorem sf_X12_wantWord : SF yX12_wantWord cX12_wantWord 3 (some .boolean) 2 := ⟨bw_1584, bw_17, ⟨by decide +kernel, by decide +kernel⟩, by decide +kernel⟩
theorem sv_X12_wantWord : Cond.instanceMethod yX12_wantWord ∈ BW ∧ Cond.selects RX12 yX12_wantWord yX12_wantWord ∈ BW := ⟨bw_1583, bp_67⟩
theorem sf_X12_number : SF yX12_number cX12_number 4 (some .boolean) 3 := ⟨bw_1611, bw_17, ⟨by decide +kernel, by decide +kernel⟩, by decide +kernel⟩
theorem sv_X12_number : Cond.instanceMethod yX12_number ∈ BW ∧ Cond.selects RX12 yX12_number yX12_number ∈ BW := ⟨bw_1610, bp_73⟩
theorem sf_X12_isName : SF yX12_isName cX12_isName 2 (some .boolean) 1 := ⟨bw_1564, bw_17, ⟨by decide +kernel, by decide +kernel⟩, by decide +kernel⟩
theorem sv_X12_isName : Cond.instanceMethod yX12_isName ∈ BW ∧ Cond.selects RX12 yX12_isName yX12_isName ∈ BW := ⟨bw_1563, bp_62⟩
theorem sf_X12_nameHere : SF yX12_nameHere cX12_nameHere 4 (some .long) 0 := ⟨bw_1576, bw_17, ⟨by decide +kernel, by decide +kernel⟩, by decide +kernel⟩
theorem sv_X12_nameHere : Cond.instanceMethod yX12_nameHere ∈ BW ∧ Cond.selects RX12 yX12_nameHere yX12_nameHere ∈ BW := ⟨bw_1575, bp_65⟩
theorem sf_X12_findHere : SF yX12_findHere cX12_findHere 4 (some .int) 2 := ⟨bw_1572, bw_17, ⟨by decide +kernel, by decide +kernel⟩, by decide +kernel⟩
theorem sv_X12_findHere : Cond.instanceMethod yX12_findHere ∈ BW ∧ Cond.selects RX12 yX12_findHere yX12_findHere ∈ BW := ⟨bw_1571, bp_64⟩
theorem sf_X12_fault : SF yX12_fault cX12_fault 2 (some .int) 1 := ⟨bw_1505, bw_17, ⟨by decide +kernel, by decide +kernel⟩, by decide +kernel⟩
theorem sv_X12_fault : Cond.instanceMethod yX12_fault ∈ BW ∧ Cond.selects RX12 yX12_fault yX12_fault ∈ BW := ⟨bw_1503, bw_1504⟩
theorem sf_X12_taken : SF yX12_taken cX12_taken 2 (some .int) 1 := ⟨bw_1638, bw_17, ⟨by decide +kernel, by decide +kernel⟩, by decide +kernel⟩
theorem sv_X12_taken : Cond.instanceMethod yX12_taken ∈ BW ∧ Cond.selects RX12 yX12_taken yX12_taken ∈ BW := ⟨bw_1637, bp_79⟩
theorem sf_X12_ruleRow : SF yX12_ruleRow cX12_ruleRow 1 (some .int) 1 := ⟨bw_1591, bw_17, ⟨by decide +kernel, by decide +kernel⟩, by decide +kernel⟩
theorem ss_X12_ruleRow : Cond.static yX12_ruleRow ∈ BW := bw_1590
theorem sf_X12_personRow : SF yX12_personRow cX12_personRow 1 (some .int) 1 := ⟨bw_1618, bw_17, ⟨by decide +kernel, by decide +kernel⟩, by decide +kernel⟩
theorem ss_X12_personRow : Cond.static yX12_personRow ∈ BW := bw_1617
theorem sf_X12_isThere : SF yX12_isThere cX12_isThere 2 (some .boolean) 1 := ⟨bw_1603, bw_17, ⟨by decide +kernel, by decide +kernel⟩, by decide +kernel⟩
theorem sv_X12_isThere : Cond.instanceMethod yX12_isThere ∈ BW ∧ Cond.selects RX12 yX12_isThere yX12_isThere ∈ BW := ⟨bw_1602, bp_71⟩
theorem sf_X12_isTaken : SF yX12_isTaken cX12_isTaken 1 (some .boolean) 0 := ⟨bw_1568, bw_17, ⟨by decide +kernel, by decide +kernel⟩, by decide +kernel⟩
theorem sv_X12_isTaken : Cond.instanceMethod yX12_isTaken ∈ BW ∧ Cond.selects RX12 yX12_isTaken yX12_isTaken ∈ BW := ⟨bw_1567, bp_63⟩
theorem sf_X12_isFull : SF yX12_isFull cX12_isFull 3 (some .boolean) 2 := ⟨bw_1560, bw_17, ⟨by decide +kernel, by decide +kernel⟩, by decide +kernel⟩
theorem sv_X12_isFull : Cond.instanceMethod yX12_isFull ∈ BW ∧ Cond.selects RX12 yX12_isFull yX12_isFull ∈ BW := ⟨bw_1559, bp_61⟩
theorem sf_X12_newOne : SF yX12_newOne cX12_newOne 4 (some .boolean) 3 := ⟨bw_1556, bw_17, ⟨by decide +kernel, by decide +kernel⟩, by decide +kernel⟩
theorem sv_X12_newOne : Cond.instanceMethod yX12_newOne ∈ BW ∧ Cond.selects RX12 yX12_newOne yX12_newOne ∈ BW := ⟨bw_1555, bp_60⟩
theorem sf_X12_oldOne : SF yX12_oldOne cX12_oldOne 4 (some .boolean) 3 := ⟨bw_1595, bw_17, ⟨by decide +kernel, by decide +kernel⟩, by decide +kernel⟩
theorem sv_X12_oldOne : Cond.instanceMethod yX12_oldOne ∈ BW ∧ Cond.selects RX12 yX12_oldOne yX12_oldOne ∈ BW := ⟨bw_1594, bp_69⟩
theorem sf_X12_aSmell : SF yX12_aSmell cX12_aSmell 1 (some .boolean) 0 := ⟨bw_1552, bw_17, ⟨by decide +kernel, by decide +kernel⟩, by decide +kernel⟩
theorem sv_X12_aSmell : Cond.instanceMethod yX12_aSmell ∈ BW ∧ Cond.selects RX12 yX12_aSmell yX12_aSmell ∈ BW := ⟨bw_1551, bp_59⟩
theorem sf_X12_aCue : SF yX12_aCue cX12_aCue 2 (some .boolean) 0 := ⟨bw_1580, bw_17, ⟨by decide +kernel, by decide +kernel⟩, by decide +kernel⟩
theorem sv_X12_aCue : Cond.instanceMethod yX12_aCue ∈ BW ∧ Cond.selects RX12 yX12_aCue yX12_aCue ∈ BW := ⟨bw_1579, bp_66⟩
theorem sf_X12_against : SF yX12_against cX12_against 4 (some .boolean) 3 := ⟨bw_1599, bw_17, ⟨by decide +kernel, by decide +kernel⟩, by decide +kernel⟩
theorem sv_X12_against : Cond.instanceMethod yX12_against ∈ BW ∧ Cond.selects RX12 yX12_against yX12_against ∈ BW := ⟨bw_1598, bp_70⟩
theorem sf_X12_aRule : SF yX12_aRule cX12_aRule 3 (some .boolean) 0 := ⟨bw_1588, bw_17, ⟨by decide +kernel, by decide +kernel⟩, by decide +kernel⟩
theorem sv_X12_aRule : Cond.instanceMethod yX12_aRule ∈ BW ∧ Cond.selects RX12 yX12_aRule yX12_aRule ∈ BW := ⟨bw_1587, bp_68⟩
theorem sf_X12_smellsTo : SF yX12_smellsTo cX12_smellsTo 4 (some .boolean) 1 := ⟨bw_1622, bw_17, ⟨by decide +kernel, by decide +kernel⟩, by decide +kernel⟩
theorem sv_X12_smellsTo : Cond.instanceMethod yX12_smellsTo ∈ BW ∧ Cond.selects RX12 yX12_smellsTo yX12_smellsTo ∈ BW := ⟨bw_1621, bp_75⟩
theorem sf_X12_aPerson : SF yX12_aPerson cX12_aPerson 2 (some .boolean) 0 := ⟨bw_1615, bw_17, ⟨by decide +kernel, by decide +kernel⟩, by decide +kernel⟩
theorem sv_X12_aPerson : Cond.instanceMethod yX12_aPerson ∈ BW ∧ Cond.selects RX12 yX12_aPerson yX12_aPerson ∈ BW := ⟨bw_1614, bp_74⟩
theorem sf_X12_aReader : SF yX12_aReader cX12_aReader 2 (some .boolean) 0 := ⟨bw_1626, bw_17, ⟨by decide +kernel, by decide +kernel⟩, by decide +kernel⟩
theorem sv_X12_aReader : Cond.instanceMethod yX12_aReader ∈ BW ∧ Cond.selects RX12 yX12_aReader yX12_aReader ∈ BW := ⟨bw_1625, bp_76⟩
theorem sf_X12_aWord : SF yX12_aWord cX12_aWord 3 (some .boolean) 0 := ⟨bw_1630, bw_17, ⟨by decide +kernel, by decide +kernel⟩, by decide +kernel⟩
theorem sv_X12_aWord : Cond.instanceMethod yX12_aWord ∈ BW ∧ Cond.selects RX12 yX12_aWord yX12_aWord ∈ BW := ⟨bw_1629, bp_77⟩
theorem sf_X12_courtPart : SF yX12_courtPart cX12_courtPart 3 (some .boolean) 0 := ⟨bw_1537, bw_17, ⟨by decide +kernel, by decide +kernel⟩, by decide +kernel⟩
theorem sv_X12_courtPart : Cond.instanceMethod yX12_courtPart ∈ BW ∧ Cond.selects RX12 yX12_courtPart yX12_courtPart ∈ BW := ⟨bw_1536, bp_56⟩
theorem sf_X12_court : SF yX12_court cX12_court 4 (some .int) 1 := ⟨bw_1509, bw_17, ⟨by decide +kernel, by decide +kernel⟩, by decide +kernel⟩
theorem sv_X12_court : Cond.instanceMethod yX12_court ∈ BW ∧ Cond.selects RX12 yX12_court yX12_court ∈ BW := ⟨bw_1507, bw_1508⟩
theorem sf_X12_personTo : SF yX12_personTo cX12_personTo 2 (some .boolean) 1 := ⟨bw_1658, bw_17, ⟨by decide +kernel, by decide +kernel⟩, by decide +kernel⟩
theorem sv_X12_personTo : Cond.instanceMethod yX12_personTo ∈ BW ∧ Cond.selects RX12 yX12_personTo yX12_personTo ∈ BW := ⟨bw_1657, bp_83⟩
theorem sf_X12_smellTo : SF yX12_smellTo cX12_smellTo 2 (some .boolean) 1 := ⟨bw_1662, bw_17, ⟨by decide +kernel, by decide +kernel⟩, by decide +kernel⟩
theorem sv_X12_smellTo : Cond.instanceMethod yX12_smellTo ∈ BW ∧ Cond.selects RX12 yX12_smellTo yX12_smellTo ∈ BW := ⟨bw_1661, bp_84⟩
theorem sf_X12_test : SF yX12_test cX12_test 3 (some .boolean) 1 := ⟨bw_1666, bw_17, ⟨by decide +kernel, by decide +kernel⟩, by decide +kernel⟩
theorem sv_X12_test : Cond.instanceMethod yX12_test ∈ BW ∧ Cond.selects RX12 yX12_test yX12_test ∈ BW := ⟨bw_1665, bp_85⟩
theorem sf_X12_weekOrder : SF yX12_weekOrder cX12_weekOrder 3 (some .boolean) 2 := ⟨bw_1654, bw_17, ⟨by decide +kernel, by decide +kernel⟩, by decide +kernel⟩
theorem sv_X12_weekOrder : Cond.instanceMethod yX12_weekOrder ∈ BW ∧ Cond.selects RX12 yX12_weekOrder yX12_weekOrder ∈ BW := ⟨bw_1653, bp_82⟩
theorem sf_X12_weekStep : SF yX12_weekStep cX12_weekStep 6 (some .boolean) 0 := ⟨bw_1650, bw_17, ⟨by decide +kernel, by decide +kernel⟩, by decide +kernel⟩
theorem sv_X12_weekStep : Cond.instanceMethod yX12_weekStep ∈ BW ∧ Cond.selects RX12 yX12_weekStep yX12_weekStep ∈ BW := ⟨bw_1649, bp_81⟩
theorem sf_X12_weeks : SF yX12_weeks cX12_weeks 4 (some .int) 1 := ⟨bw_1646, bw_17, ⟨by decide +kernel, by decide +kernel⟩, by decide +kernel⟩
theorem sv_X12_weeks : Cond.instanceMethod yX12_weeks ∈ BW ∧ Cond.selects RX12 yX12_weeks yX12_weeks ∈ BW := ⟨bw_1644, bw_1645⟩
theorem sf_X12_isSmell : SF yX12_isSmell cX12_isSmell 2 (some .boolean) 1 := ⟨bw_1821, bw_17, ⟨by decide +kernel, by decide +kernel⟩, by decide +kernel⟩
theorem sv_X12_isSmell : Cond.instanceMethod yX12_isSmell ∈ BW ∧ Cond.selects RX12 yX12_isSmell yX12_isSmell ∈ BW := ⟨bw_1820, bp_106⟩
theorem sf_X12_isCue : SF yX12_isCue cX12_isCue 2 (some .boolean) 1 := ⟨bw_1694, bw_17, ⟨by decide +kernel, by decide +kernel⟩, by decide +kernel⟩
theorem sv_X12_isCue : Cond.instanceMethod yX12_isCue ∈ BW ∧ Cond.selects RX12 yX12_isCue yX12_isCue ∈ BW := ⟨bw_1693, bp_90⟩
theorem sf_X12_isRule : SF yX12_isRule cX12_isRule 2 (some .boolean) 1 := ⟨bw_1702, bw_17, ⟨by decide +kernel, by decide +kernel⟩, by decide +kernel⟩
theorem sv_X12_isRule : Cond.instanceMethod yX12_isRule ∈ BW ∧ Cond.selects RX12 yX12_isRule yX12_isRule ∈ BW := ⟨bw_1701, bp_91⟩
theorem sf_X12_isPerson : SF yX12_isPerson cX12_isPerson 3 (some .boolean) 1 := ⟨bw_1718, bw_17, ⟨by decide +kernel, by decide +kernel⟩, by decide +kernel⟩
theorem sv_X12_isPerson : Cond.instanceMethod yX12_isPerson ∈ BW ∧ Cond.selects RX12 yX12_isPerson yX12_isPerson ∈ BW := ⟨bw_1717, bp_94⟩
theorem sf_X12_isReader : SF yX12_isReader cX12_isReader 2 (some .boolean) 1 := ⟨bw_1726, bw_17, ⟨by decide +kernel, by decide +kernel⟩, by decide +kernel⟩
theorem sv_X12_isReader : Cond.instanceMethod yX12_isReader ∈ BW ∧ Cond.selects RX12 yX12_isReader yX12_isReader ∈ BW := ⟨bw_1725, bp_95⟩
theorem sf_X12_isIn : SF yX12_isIn cX12_isIn 3 (some .boolean) 2 := ⟨bw_1758, bw_17, ⟨by decide +kernel, by decide +kernel⟩, by decide +kernel⟩
theorem sv_X12_isIn : Cond.instanceMethod yX12_isIn ∈ BW ∧ Cond.selects RX12 yX12_isIn yX12_isIn ∈ BW := ⟨bw_1757, bp_101⟩
theorem sf_X12_bits : SF yX12_bits cX12_bits 3 (some .int) 1 := ⟨bw_1800, bw_17, ⟨by decide +kernel, by decide +kernel⟩, by decide +kernel⟩
theorem ss_X12_bits : Cond.static yX12_bits ∈ BW := bw_1799
theorem sf_X12_personOf : SF yX12_personOf cX12_personOf 3 (some .int) 2 := ⟨bw_1686, bw_17, ⟨by decide +kernel, by decide +kernel⟩, by decide +kernel⟩
theorem sv_X12_personOf : Cond.instanceMethod yX12_personOf ∈ BW ∧ Cond.selects RX12 yX12_personOf yX12_personOf ∈ BW := ⟨bw_1685, bp_89⟩
theorem sf_X12_ruleOf : SF yX12_ruleOf cX12_ruleOf 3 (some .int) 2 := ⟨bw_1706, bw_17, ⟨by decide +kernel, by decide +kernel⟩, by decide +kernel⟩
theorem sv_X12_ruleOf : Cond.instanceMethod yX12_ruleOf ∈ BW ∧ Cond.selects RX12 yX12_ruleOf yX12_ruleOf ∈ BW := ⟨bw_1705, bp_92⟩
theorem sf_X12_votesOf : SF yX12_votesOf cX12_votesOf 2 (some .int) 1 := ⟨bw_1678, bw_17, ⟨by decide +kernel, by decide +kernel⟩, by decide +kernel⟩
theorem sv_X12_votesOf : Cond.instanceMethod yX12_votesOf ∈ BW ∧ Cond.selects RX12 yX12_votesOf yX12_votesOf ∈ BW := ⟨bw_1677, bp_87⟩
theorem sf_X12_slipOf : SF yX12_slipOf cX12_slipOf 2 (some .int) 1 := ⟨bw_1730, bw_17, ⟨by decide +kernel, by decide +kernel⟩, by decide +kernel⟩
theorem sv_X12_slipOf : Cond.instanceMethod yX12_slipOf ∈ BW ∧ Cond.selects RX12 yX12_slipOf yX12_slipOf ∈ BW := ⟨bw_1729, bp_96⟩
theorem sf_X12_peopleThat : SF yX12_peopleThat cX12_peopleThat 5 (some .int) 1 := ⟨bw_1682, bw_17, ⟨by decide +kernel, by decide +kernel⟩, by decide +kernel⟩
theorem sv_X12_peopleThat : Cond.instanceMethod yX12_peopleThat ∈ BW ∧ Cond.selects RX12 yX12_peopleThat yX12_peopleThat ∈ BW := ⟨bw_1681, bp_88⟩
theorem sf_X12_allVotes : SF yX12_allVotes cX12_allVotes 3 (some .int) 0 := ⟨bw_1674, bw_17, ⟨by decide +kernel, by decide +kernel⟩, by decide +kernel⟩
theorem sv_X12_allVotes : Cond.instanceMethod yX12_allVotes ∈ BW ∧ Cond.selects RX12 yX12_allVotes yX12_allVotes ∈ BW := ⟨bw_1673, bp_86⟩
theorem sf_X12_told : SF yX12_told cX12_told 2 (some .int) 1 := ⟨bw_1670, bw_17, ⟨by decide +kernel, by decide +kernel⟩, by decide +kernel⟩
theorem sv_X12_told : Cond.instanceMethod yX12_told ∈ BW ∧ Cond.selects RX12 yX12_told yX12_told ∈ BW := ⟨bw_1668, bw_1669⟩
theorem sf_X12_sense : SF yX12_sense cX12_sense 2 (some .int) 1 := ⟨bw_1690, bw_17, ⟨by decide +kernel, by decide +kernel⟩, by decide +kernel⟩
theorem sv_X12_sense : Cond.instanceMethod yX12_sense ∈ BW ∧ Cond.selects RX12 yX12_sense yX12_sense ∈ BW := ⟨bw_1688, bw_1689⟩
theorem sf_X12_rule : SF yX12_rule cX12_rule 3 (some .int) 2 := ⟨bw_1698, bw_17, ⟨by decide +kernel, by decide +kernel⟩, by decide +kernel⟩
theorem sv_X12_rule : Cond.instanceMethod yX12_rule ∈ BW ∧ Cond.selects RX12 yX12_rule yX12_rule ∈ BW := ⟨bw_1696, bw_1697⟩
theorem sf_X12_person : SF yX12_person cX12_person 3 (some .int) 2 := ⟨bw_1714, bw_17, ⟨by decide +kernel, by decide +kernel⟩, by decide +kernel⟩
theorem sv_X12_person : Cond.instanceMethod yX12_person ∈ BW ∧ Cond.selects RX12 yX12_person yX12_person ∈ BW := ⟨bw_1712, bw_1713⟩
theorem sf_X12_reader : SF yX12_reader cX12_reader 3 (some .int) 2 := ⟨bw_1722, bw_17, ⟨by decide +kernel, by decide +kernel⟩, by decide +kernel⟩
theorem sv_X12_reader : Cond.instanceMethod yX12_reader ∈ BW ∧ Cond.selects RX12 yX12_reader yX12_reader ∈ BW := ⟨bw_1720, bw_1721⟩
theorem sf_X12_word : SF yX12_word cX12_word 3 (some .int) 2 := ⟨bw_1734, bw_17, ⟨by decide +kernel, by decide +kernel⟩, by decide +kernel⟩
theorem sv_X12_word : Cond.instanceMethod yX12_word ∈ BW ∧ Cond.selects RX12 yX12_word yX12_word ∈ BW := ⟨bw_1732, bw_1733⟩
theorem sf_X12_isSo : SF yX12_isSo cX12_isSo 3 (some .boolean) 3 := ⟨bw_1761, bw_17, ⟨by decide +kernel, by decide +kernel⟩, by decide +kernel⟩
theorem ss_X12_isSo : Cond.static yX12_isSo ∈ BW := bw_1760
theorem sf_X12_doesBear : SF yX12_doesBear cX12_doesBear 8 (some .boolean) 5 := ⟨bw_1754, bw_17, ⟨by decide +kernel, by decide +kernel⟩, by decide +kernel⟩
theorem sv_X12_doesBear : Cond.instanceMethod yX12_doesBear ∈ BW ∧ Cond.selects RX12 yX12_doesBear yX12_doesBear ∈ BW := ⟨bw_1753, bp_100⟩
theorem sf_X12_firstOf : SF yX12_firstOf cX12_firstOf 6 (some .int) 4 := ⟨bw_1750, bw_17, ⟨by decide +kernel, by decide +kernel⟩, by decide +kernel⟩
theorem sv_X12_firstOf : Cond.instanceMethod yX12_firstOf ∈ BW ∧ Cond.selects RX12 yX12_firstOf yX12_firstOf ∈ BW := ⟨bw_1749, bp_99⟩
theorem sf_X12_cueOf : SF yX12_cueOf cX12_cueOf 6 (some .int) 4 := ⟨bw_1901, bw_17, ⟨by decide +kernel, by decide +kernel⟩, by decide +kernel⟩
theorem sv_X12_cueOf : Cond.instanceMethod yX12_cueOf ∈ BW ∧ Cond.selects RX12 yX12_cueOf yX12_cueOf ∈ BW := ⟨bw_1900, bp_115⟩
theorem sf_X12_ruleFor : SF yX12_ruleFor cX12_ruleFor 3 (some .int) 2 := ⟨bw_1746, bw_17, ⟨by decide +kernel, by decide +kernel⟩, by decide +kernel⟩
theorem sv_X12_ruleFor : Cond.instanceMethod yX12_ruleFor ∈ BW ∧ Cond.selects RX12 yX12_ruleFor yX12_ruleFor ∈ BW := ⟨bw_1745, bp_98⟩
theorem sf_X12_cueFor : SF yX12_cueFor cX12_cueFor 4 (some .int) 2 := ⟨bw_1742, bw_17, ⟨by decide +kernel, by decide +kernel⟩, by decide +kernel⟩
theorem sv_X12_cueFor : Cond.instanceMethod yX12_cueFor ∈ BW ∧ Cond.selects RX12 yX12_cueFor yX12_cueFor ∈ BW := ⟨bw_1741, bp_97⟩
theorem sf_X12_senseFor : SF yX12_senseFor cX12_senseFor 4 (some .int) 2 := ⟨bw_1995, bw_17, ⟨by decide +kernel, by decide +kernel⟩, by decide +kernel⟩
theorem sv_X12_senseFor : Cond.instanceMethod yX12_senseFor ∈ BW ∧ Cond.selects RX12 yX12_senseFor yX12_senseFor ∈ BW := ⟨bw_1994, bp_124⟩
theorem sf_X12_cue : SF yX12_cue cX12_cue 2 (some .int) 1 := ⟨bw_1738, bw_17, ⟨by decide +kernel, by decide +kernel⟩, by decide +kernel⟩
theorem sv_X12_cue : Cond.instanceMethod yX12_cue ∈ BW ∧ Cond.selects RX12 yX12_cue yX12_cue ∈ BW := ⟨bw_1736, bw_1737⟩
theorem sf_X12_cueAt : SF yX12_cueAt cX12_cueAt 3 (some .int) 2 := ⟨bw_1765, bw_17, ⟨by decide +kernel, by decide +kernel⟩, by decide +kernel⟩
theorem sv_X12_cueAt : Cond.instanceMethod yX12_cueAt ∈ BW ∧ Cond.selects RX12 yX12_cueAt yX12_cueAt ∈ BW := ⟨bw_1763, bw_1764⟩
theorem sf_X12_bears : SF yX12_bears cX12_bears 2 (some .int) 1 := ⟨bw_1773, bw_17, ⟨by decide +kernel, by decide +kernel⟩, by decide +kernel⟩
theorem sv_X12_bears : Cond.instanceMethod yX12_bears ∈ BW ∧ Cond.selects RX12 yX12_bears yX12_bears ∈ BW := ⟨bw_1771, bw_1772⟩
theorem sf_X12_bearing : SF yX12_bearing cX12_bearing 4 (some .int) 1 := ⟨bw_1777, bw_17, ⟨by decide +kernel, by decide +kernel⟩, by decide +kernel⟩
theorem sv_X12_bearing : Cond.instanceMethod yX12_bearing ∈ BW ∧ Cond.selects RX12 yX12_bearing yX12_bearing ∈ BW := ⟨bw_1775, bw_1776⟩
theorem sf_X12_shown : SF yX12_shown cX12_shown 4 (some .int) 1 := ⟨bw_1781, bw_17, ⟨by decide +kernel, by decide +kernel⟩, by decide +kernel⟩
theorem sv_X12_shown : Cond.instanceMethod yX12_shown ∈ BW ∧ Cond.selects RX12 yX12_shown yX12_shown ∈ BW := ⟨bw_1779, bw_1780⟩
theorem sf_X12_sits : SF yX12_sits cX12_sits 3 (some .int) 1 := ⟨bw_1789, bw_17, ⟨by decide +kernel, by decide +kernel⟩, by decide +kernel⟩
theorem sv_X12_sits : Cond.instanceMethod yX12_sits ∈ BW ∧ Cond.selects RX12 yX12_sits yX12_sits ∈ BW := ⟨bw_1788, bp_102⟩
theorem sf_X12_sit : SF yX12_sit cX12_sit 3 (some .int) 1 := ⟨bw_1785, bw_17, ⟨by decide +kernel, by decide +kernel⟩, by decide +kernel⟩
theorem sv_X12_sit : Cond.instanceMethod yX12_sit ∈ BW ∧ Cond.selects RX12 yX12_sit yX12_sit ∈ BW := ⟨bw_1783, bw_1784⟩
theorem sf_X12_terms : SF yX12_terms cX12_terms 6 (some .int) 0 := ⟨bw_1804, bw_17, ⟨by decide +kernel, by decide +kernel⟩, by decide +kernel⟩
theorem sv_X12_terms : Cond.instanceMethod yX12_terms ∈ BW ∧ Cond.selects RX12 yX12_terms yX12_terms ∈ BW := ⟨bw_1803, bp_104⟩
theorem sf_X12_isTooMuch : SF yX12_isTooMuch cX12_isTooMuch 1 (some .boolean) 0 := ⟨bw_1797, bw_17, ⟨by decide +kernel, by decide +kernel⟩, by decide +kernel⟩
theorem sv_X12_isTooMuch : Cond.instanceMethod yX12_isTooMuch ∈ BW ∧ Cond.selects RX12 yX12_isTooMuch yX12_isTooMuch ∈ BW := ⟨bw_1796, bp_103⟩
theorem sf_X12_term : SF yX12_term cX12_term 1 (some .int) 0 := ⟨bw_1793, bw_17, ⟨by decide +kernel, by decide +kernel⟩, by decide +kernel⟩
theorem sv_X12_term : Cond.instanceMethod yX12_term ∈ BW ∧ Cond.selects RX12 yX12_term yX12_term ∈ BW := ⟨bw_1791, bw_1792⟩
theorem sf_X12_meals : SF yX12_meals cX12_meals 4 (some .boolean) 2 := ⟨bw_1813, bw_17, ⟨by decide +kernel, by decide +kernel⟩, by decide +kernel⟩
theorem sv_X12_meals : Cond.instanceMethod yX12_meals ∈ BW ∧ Cond.selects RX12 yX12_meals yX12_meals ∈ BW := ⟨bw_1812, bp_105⟩
theorem sf_X12_meal : SF yX12_meal cX12_meal 3 (some .int) 2 := ⟨bw_1808, bw_17, ⟨by decide +kernel, by decide +kernel⟩, by decide +kernel⟩
theorem sv_X12_meal : Cond.instanceMethod yX12_meal ∈ BW ∧ Cond.selects RX12 yX12_meal yX12_meal ∈ BW := ⟨bw_1806, bw_1807⟩
theorem sf_X12_scents : SF yX12_scents cX12_scents 4 (some .boolean) 3 := ⟨bw_1825, bw_17, ⟨by decide +kernel, by decide +kernel⟩, by decide +kernel⟩
theorem sv_X12_scents : Cond.instanceMethod yX12_scents ∈ BW ∧ Cond.selects RX12 yX12_scents yX12_scents ∈ BW := ⟨bw_1824, bp_107⟩
theorem sf_X12_scent : SF yX12_scent cX12_scent 4 (some .boolean) 3 := ⟨bw_1817, bw_17, ⟨by decide +kernel, by decide +kernel⟩, by decide +kernel⟩
theorem sv_X12_scent : Cond.instanceMethod yX12_scent ∈ BW ∧ Cond.selects RX12 yX12_scent yX12_scent ∈ BW := ⟨bw_1815, bw_1816⟩
theorem sf_X12_nights : SF yX12_nights cX12_nights 2 (some .boolean) 0 := ⟨bw_1833, bw_17, ⟨by decide +kernel, by decide +kernel⟩, by decide +kernel⟩
theorem sv_X12_nights : Cond.instanceMethod yX12_nights ∈ BW ∧ Cond.selects RX12 yX12_nights yX12_nights ∈ BW := ⟨bw_1832, bp_108⟩
theorem sf_X12_night : SF yX12_night cX12_night 2 (some .int) 0 := ⟨bw_1829, bw_17, ⟨by decide +kernel, by decide +kernel⟩, by decide +kernel⟩
theorem sv_X12_night : Cond.instanceMethod yX12_night ∈ BW ∧ Cond.selects RX12 yX12_night yX12_night ∈ BW := ⟨bw_1827, bw_1828⟩
theorem sf_X12_appeal : SF yX12_appeal cX12_appeal 3 (some .int) 1 := ⟨bw_1837, bw_17, ⟨by decide +kernel, by decide +kernel⟩, by decide +kernel⟩
theorem sv_X12_appeal : Cond.instanceMethod yX12_appeal ∈ BW ∧ Cond.selects RX12 yX12_appeal yX12_appeal ∈ BW := ⟨bw_1835, bw_1836⟩
theorem sf_X12_blame : SF yX12_blame cX12_blame 4 (some .boolean) 2 := ⟨bw_1841, bw_17, ⟨by decide +kernel, by decide +kernel⟩, by decide +kernel⟩
theorem sv_X12_blame : Cond.instanceMethod yX12_blame ∈ BW ∧ Cond.selects RX12 yX12_blame yX12_blame ∈ BW := ⟨bw_1839, bw_1840⟩
theorem sf_X12_reread : SF yX12_reread cX12_reread 3 (some .boolean) 2 := ⟨bw_1845, bw_17, ⟨by decide +kernel, by decide +kernel⟩, by decide +kernel⟩
theorem sv_X12_reread : Cond.instanceMethod yX12_reread ∈ BW ∧ Cond.selects RX12 yX12_reread yX12_reread ∈ BW := ⟨bw_1843, bw_1844⟩
theorem sf_X12_enact : SF yX12_enact cX12_enact 6 (some .int) 3 := ⟨bw_1850, bw_17, ⟨by decide +kernel, by decide +kernel⟩, by decide +kernel⟩
theorem sv_X12_enact : Cond.instanceMethod yX12_enact ∈ BW ∧ Cond.selects RX12 yX12_enact yX12_enact ∈ BW := ⟨bw_1848, bw_1849⟩
theorem sf_X12_repeal : SF yX12_repeal cX12_repeal 3 (some .int) 1 := ⟨bw_1854, bw_17, ⟨by decide +kernel, by decide +kernel⟩, by decide +kernel⟩
theorem sv_X12_repeal : Cond.instanceMethod yX12_repeal ∈ BW ∧ Cond.selects RX12 yX12_repeal yX12_repeal ∈ BW := ⟨bw_1852, bw_1853⟩
theorem sf_X12_strain : SF yX12_strain cX12_strain 3 (some .boolean) 2 := ⟨bw_1858, bw_17, ⟨by decide +kernel, by decide +kernel⟩, by decide +kernel⟩
theorem sv_X12_strain : Cond.instanceMethod yX12_strain ∈ BW ∧ Cond.selects RX12 yX12_strain yX12_strain ∈ BW := ⟨bw_1856, bw_1857⟩
theorem sf_X12_levelAt : SF yX12_levelAt cX12_levelAt 1 (some .int) 1 := ⟨bw_2039, bw_17, ⟨by decide +kernel, by decide +kernel⟩, by decide +kernel⟩
theorem ss_X12_levelAt : Cond.static yX12_levelAt ∈ BW := bw_2038
theorem sf_X12_keeps : SF yX12_keeps cX12_keeps 3 none 1 := ⟨bw_1868, bw_17, ⟨by decide +kernel, by decide +kernel⟩, by decide +kernel⟩
theorem sv_X12_keeps : Cond.instanceMethod yX12_keeps ∈ BW ∧ Cond.selects RX12 yX12_keeps yX12_keeps ∈ BW := ⟨bw_1867, bp_109⟩
theorem sf_X12_restores : SF yX12_restores cX12_restores 3 none 1 := ⟨bw_1872, bw_17, ⟨by decide +kernel, by decide +kernel⟩, by decide +kernel⟩
theorem sv_X12_restores : Cond.instanceMethod yX12_restores ∈ BW ∧ Cond.selects RX12 yX12_restores yX12_restores ∈ BW := ⟨bw_1871, bp_110⟩
theorem sf_X12_freeIn : SF yX12_freeIn cX12_freeIn 3 (some .int) 1 := ⟨bw_1863, bw_17, ⟨by decide +kernel, by decide +kernel⟩, by decide +kernel⟩
theorem sv_X12_freeIn : Cond.instanceMethod yX12_freeIn ∈ BW ∧ Cond.selects RX12 yX12_freeIn yX12_freeIn ∈ BW := ⟨bw_1861, bw_1862⟩
theorem sf_X12_judgedIn : SF yX12_judgedIn cX12_judgedIn 4 (some .int) 1 := ⟨bw_1876, bw_17, ⟨by decide +kernel, by decide +kernel⟩, by decide +kernel⟩
theorem sv_X12_judgedIn : Cond.instanceMethod yX12_judgedIn ∈ BW ∧ Cond.selects RX12 yX12_judgedIn yX12_judgedIn ∈ BW := ⟨bw_1874, bw_1875⟩
theorem sf_X12_wrongSeen : SF yX12_wrongSeen cX12_wrongSeen 5 (some .int) 2 := ⟨bw_1884, bw_17, ⟨by decide +kernel, by decide +kernel⟩, by decide +kernel⟩
theorem sv_X12_wrongSeen : Cond.instanceMethod yX12_wrongSeen ∈ BW ∧ Cond.selects RX12 yX12_wrongSeen yX12_wrongSeen ∈ BW := ⟨bw_1883, bp_111⟩
theorem sf_X12_wouldShow : SF yX12_wouldShow cX12_wouldShow 5 (some .int) 3 := ⟨bw_1897, bw_17, ⟨by decide +kernel, by decide +kernel⟩, by decide +kernel⟩
theorem sv_X12_wouldShow : Cond.instanceMethod yX12_wouldShow ∈ BW ∧ Cond.selects RX12 yX12_wouldShow yX12_wouldShow ∈ BW := ⟨bw_1896, bp_114⟩
theorem sf_X12_doesFit : SF yX12_doesFit cX12_doesFit 6 (some .boolean) 3 := ⟨bw_1893, bw_17, ⟨by decide +kernel, by decide +kernel⟩, by decide +kernel⟩
theorem sv_X12_doesFit : Cond.instanceMethod yX12_doesFit ∈ BW ∧ Cond.selects RX12 yX12_doesFit yX12_doesFit ∈ BW := ⟨bw_1892, bp_113⟩
theorem sf_X12_laysFits : SF yX12_laysFits cX12_laysFits 4 none 2 := ⟨bw_1889, bw_17, ⟨by decide +kernel, by decide +kernel⟩, by decide +kernel⟩
theorem sv_X12_laysFits : Cond.instanceMethod yX12_laysFits ∈ BW ∧ Cond.selects RX12 yX12_laysFits yX12_laysFits ∈ BW := ⟨bw_1888, bp_112⟩
theorem sf_X12_guiltyIn : SF yX12_guiltyIn cX12_guiltyIn 4 (some .int) 1 := ⟨bw_1909, bw_17, ⟨by decide +kernel, by decide +kernel⟩, by decide +kernel⟩
theorem sv_X12_guiltyIn : Cond.instanceMethod yX12_guiltyIn ∈ BW ∧ Cond.selects RX12 yX12_guiltyIn yX12_guiltyIn ∈ BW := ⟨bw_1908, bp_116⟩
theorem sf_X12_fits : SF yX12_fits cX12_fits 4 (some .int) 2 := ⟨bw_1880, bw_17, ⟨by decide +kernel, by decide +kernel⟩, by decide +kernel⟩
theorem sv_X12_fits : Cond.instanceMethod yX12_fits ∈ BW ∧ Cond.selects RX12 yX12_fits yX12_fits ∈ BW := ⟨bw_1878, bw_1879⟩
theorem sf_X12_sure : SF yX12_sure cX12_sure 6 (some .int) 3 := ⟨bw_1905, bw_17, ⟨by decide +kernel, by decide +kernel⟩, by decide +kernel⟩
theorem sv_X12_sure : Cond.instanceMethod yX12_sure ∈ BW ∧ Cond.selects RX12 yX12_sure yX12_sure ∈ BW := ⟨bw_1903, bw_1904⟩
theorem sf_X12_odds : SF yX12_odds cX12_odds 5 (some .boolean) 3 := ⟨bw_1913, bw_17, ⟨by decide +kernel, by decide +kernel⟩, by decide +kernel⟩
theorem sv_X12_odds : Cond.instanceMethod yX12_odds ∈ BW ∧ Cond.selects RX12 yX12_odds yX12_odds ∈ BW := ⟨bw_1911, bw_1912⟩
theorem sf_X12_mostAlike : SF yX12_mostAlike cX12_mostAlike 6 (some .int) 2 := ⟨bw_1926, bw_17, ⟨by decide +kernel, by decide +kernel⟩, by decide +kernel⟩
theorem sv_X12_mostAlike : Cond.instanceMethod yX12_mostAlike ∈ BW ∧ Cond.selects RX12 yX12_mostAlike yX12_mostAlike ∈ BW := ⟨bw_1925, bp_118⟩
theorem sf_X12_ask : SF yX12_ask cX12_ask 9 (some .int) 3 := ⟨bw_1921, bw_17, ⟨by decide +kernel, by decide +kernel⟩, by decide +kernel⟩
theorem sv_X12_ask : Cond.instanceMethod yX12_ask ∈ BW ∧ Cond.selects RX12 yX12_ask yX12_ask ∈ BW := ⟨bw_1919, bw_1920⟩
theorem sf_X12_laysLeast : SF yX12_laysLeast cX12_laysLeast 7 none 2 := ⟨bw_1935, bw_17, ⟨by decide +kernel, by decide +kernel⟩, by decide +kernel⟩
theorem sv_X12_laysLeast : Cond.instanceMethod yX12_laysLeast ∈ BW ∧ Cond.selects RX12 yX12_laysLeast yX12_laysLeast ∈ BW := ⟨bw_1934, bp_119⟩
theorem sf_X12_least : SF yX12_least cX12_least 3 (some .int) 2 := ⟨bw_1931, bw_17, ⟨by decide +kernel, by decide +kernel⟩, by decide +kernel⟩
theorem sv_X12_least : Cond.instanceMethod yX12_least ∈ BW ∧ Cond.selects RX12 yX12_least yX12_least ∈ BW := ⟨bw_1929, bw_1930⟩
theorem sf_X12_leastBy : SF yX12_leastBy cX12_leastBy 4 (some .int) 3 := ⟨bw_1939, bw_17, ⟨by decide +kernel, by decide +kernel⟩, by decide +kernel⟩
theorem sv_X12_leastBy : Cond.instanceMethod yX12_leastBy ∈ BW ∧ Cond.selects RX12 yX12_leastBy yX12_leastBy ∈ BW := ⟨bw_1937, bw_1938⟩
theorem sf_X12_laysWorlds : SF yX12_laysWorlds cX12_laysWorlds 4 none 0 := ⟨bw_1947, bw_17, ⟨by decide +kernel, by decide +kernel⟩, by decide +kernel⟩
theorem sv_X12_laysWorlds : Cond.instanceMethod yX12_laysWorlds ∈ BW ∧ Cond.selects RX12 yX12_laysWorlds yX12_laysWorlds ∈ BW := ⟨bw_1946, bp_120⟩
theorem sf_X12_reach : SF yX12_reach cX12_reach 2 (some .int) 1 := ⟨bw_1943, bw_17, ⟨by decide +kernel, by decide +kernel⟩, by decide +kernel⟩
theorem sv_X12_reach : Cond.instanceMethod yX12_reach ∈ BW ∧ Cond.selects RX12 yX12_reach yX12_reach ∈ BW := ⟨bw_1941, bw_1942⟩
theorem sf_X12_idle : SF yX12_idle cX12_idle 3 (some .int) 0 := ⟨bw_1951, bw_17, ⟨by decide +kernel, by decide +kernel⟩, by decide +kernel⟩
theorem sv_X12_idle : Cond.instanceMethod yX12_idle ∈ BW ∧ Cond.selects RX12 yX12_idle yX12_idle ∈ BW := ⟨bw_1949, bw_1950⟩
theorem sf_X12_tells : SF yX12_tells cX12_tells 5 (some .boolean) 1 := ⟨bw_1955, bw_17, ⟨by decide +kernel, by decide +kernel⟩, by decide +kernel⟩
theorem sv_X12_tells : Cond.instanceMethod yX12_tells ∈ BW ∧ Cond.selects RX12 yX12_tells yX12_tells ∈ BW := ⟨bw_1953, bw_1954⟩
theorem sf_X12_mute : SF yX12_mute cX12_mute 1 (some .int) 0 := ⟨bw_1959, bw_17, ⟨by decide +kernel, by decide +kernel⟩, by decide +kernel⟩
theorem sv_X12_mute : Cond.instanceMethod yX12_mute ∈ BW ∧ Cond.selects RX12 yX12_mute yX12_mute ∈ BW := ⟨bw_1957, bw_1958⟩
theorem sf_X12_rightOf : SF yX12_rightOf cX12_rightOf 10 (some .long) 1 := ⟨bw_1967, bw_17, ⟨by decide +kernel, by decide +kernel⟩, by decide +kernel⟩
theorem sv_X12_rightOf : Cond.instanceMethod yX12_rightOf ∈ BW ∧ Cond.selects RX12 yX12_rightOf yX12_rightOf ∈ BW := ⟨bw_1966, bp_121⟩
theorem sf_X12_verdict : SF yX12_verdict cX12_verdict 2 (some .boolean) 1 := ⟨bw_1963, bw_17, ⟨by decide +kernel, by decide +kernel⟩, by decide +kernel⟩
theorem sv_X12_verdict : Cond.instanceMethod yX12_verdict ∈ BW ∧ Cond.selects RX12 yX12_verdict yX12_verdict ∈ BW := ⟨bw_1961, bw_1962⟩
theorem sf_X12_sworn : SF yX12_sworn cX12_sworn 8 (some .int) 1 := ⟨bw_1971, bw_17, ⟨by decide +kernel, by decide +kernel⟩, by decide +kernel⟩
theorem sv_X12_sworn : Cond.instanceMethod yX12_sworn ∈ BW ∧ Cond.selects RX12 yX12_sworn yX12_sworn ∈ BW := ⟨bw_1969, bw_1970⟩
theorem sf_X12_orders : SF yX12_orders cX12_orders 4 (some .long) 1 := ⟨bw_1979, bw_17, ⟨by decide +kernel, by decide +kernel⟩, by decide +kernel⟩
theorem ss_X12_orders : Cond.static yX12_orders ∈ BW := bw_1978
theorem sf_X12_power : SF yX12_power cX12_power 8 (some .boolean) 1 := ⟨bw_1976, bw_17, ⟨by decide +kernel, by decide +kernel⟩, by decide +kernel⟩
theorem sv_X12_power : Cond.instanceMethod yX12_power ∈ BW ∧ Cond.selects RX12 yX12_power yX12_power ∈ BW := ⟨bw_1974, bw_1975⟩
theorem sf_X12_wordOf : SF yX12_wordOf cX12_wordOf 3 (some .int) 2 := ⟨bw_1991, bw_17, ⟨by decide +kernel, by decide +kernel⟩, by decide +kernel⟩
theorem sv_X12_wordOf : Cond.instanceMethod yX12_wordOf ∈ BW ∧ Cond.selects RX12 yX12_wordOf yX12_wordOf ∈ BW := ⟨bw_1990, bp_123⟩
theorem sf_X12_clashing : SF yX12_clashing cX12_clashing 3 (some .int) 0 := ⟨bw_1987, bw_17, ⟨by decide +kernel, by decide +kernel⟩, by decide +kernel⟩
theorem sv_X12_clashing : Cond.instanceMethod yX12_clashing ∈ BW ∧ Cond.selects RX12 yX12_clashing yX12_clashing ∈ BW := ⟨bw_1986, bp_122⟩
theorem sf_X12_clash : SF yX12_clash cX12_clash 1 (some .int) 0 := ⟨bw_1983, bw_17, ⟨by decide +kernel, by decide +kernel⟩, by decide +kernel⟩
theorem sv_X12_clash : Cond.instanceMethod yX12_clash ∈ BW ∧ Cond.selects RX12 yX12_clash yX12_clash ∈ BW := ⟨bw_1981, bw_1982⟩
theorem sf_X12_areUnlike : SF yX12_areUnlike cX12_areUnlike 4 (some .boolean) 1 := ⟨bw_2007, bw_17, ⟨by decide +kernel, by decide +kernel⟩, by decide +kernel⟩
theorem sv_X12_areUnlike : Cond.instanceMethod yX12_areUnlike ∈ BW ∧ Cond.selects RX12 yX12_areUnlike yX12_areUnlike ∈ BW := ⟨bw_2006, bp_126⟩
theorem sf_X12_striking : SF yX12_striking cX12_striking 4 (some .int) 0 := ⟨bw_2003, bw_17, ⟨by decide +kernel, by decide +kernel⟩, by decide +kernel⟩
theorem sv_X12_striking : Cond.instanceMethod yX12_striking ∈ BW ∧ Cond.selects RX12 yX12_striking yX12_striking ∈ BW := ⟨bw_2002, bp_125⟩
theorem sf_X12_struck : SF yX12_struck cX12_struck 1 (some .int) 0 := ⟨bw_1999, bw_17, ⟨by decide +kernel, by decide +kernel⟩, by decide +kernel⟩
theorem sv_X12_struck : Cond.instanceMethod yX12_struck ∈ BW ∧ Cond.selects RX12 yX12_struck yX12_struck ∈ BW := ⟨bw_1997, bw_1998⟩
theorem sf_X12_struckSet : SF yX12_struckSet cX12_struckSet 1 (some .int) 0 := ⟨bw_2011, bw_17, ⟨by decide +kernel, by decide +kernel⟩, by decide +kernel⟩
theorem sv_X12_struckSet : Cond.instanceMethod yX12_struckSet ∈ BW ∧ Cond.selects RX12 yX12_struckSet yX12_struckSet ∈ BW := ⟨bw_2009, bw_2010⟩
theorem sf_X12_laysOrders : SF yX12_laysOrders cX12_laysOrders 5 (some .int) 0 := ⟨bw_2019, bw_17, ⟨by decide +kernel, by decide +kernel⟩, by decide +kernel⟩
theorem sv_X12_laysOrders : Cond.instanceMethod yX12_laysOrders ∈ BW ∧ Cond.selects RX12 yX12_laysOrders yX12_laysOrders ∈ BW := ⟨bw_2018, bp_127⟩
theorem sf_X12_best : SF yX12_best cX12_best 1 (some .int) 0 := ⟨bw_2015, bw_17, ⟨by decide +kernel, by decide +kernel⟩, by decide +kernel⟩
theorem sv_X12_best : Cond.instanceMethod yX12_best ∈ BW ∧ Cond.selects RX12 yX12_best yX12_best ∈ BW := ⟨bw_2013, bw_2014⟩
theorem sf_X12_bestAt : SF yX12_bestAt cX12_bestAt 7 (some .int) 1 := ⟨bw_2023, bw_17, ⟨by decide +kernel, by decide +kernel⟩, by decide +kernel⟩
theorem sv_X12_bestAt : Cond.instanceMethod yX12_bestAt ∈ BW ∧ Cond.selects RX12 yX12_bestAt yX12_bestAt ∈ BW := ⟨bw_2021, bw_2022⟩
theorem sf_X12_standing : SF yX12_standing cX12_standing 4 (some .int) 0 := ⟨bw_2036, bw_17, ⟨by decide +kernel, by decide +kernel⟩, by decide +kernel⟩
theorem sv_X12_standing : Cond.instanceMethod yX12_standing ∈ BW ∧ Cond.selects RX12 yX12_standing yX12_standing ∈ BW := ⟨bw_2035, bp_129⟩
theorem sf_X12_settles : SF yX12_settles cX12_settles 4 none 2 := ⟨bw_2047, bw_17, ⟨by decide +kernel, by decide +kernel⟩, by decide +kernel⟩
theorem sv_X12_settles : Cond.instanceMethod yX12_settles ∈ BW ∧ Cond.selects RX12 yX12_settles yX12_settles ∈ BW := ⟨bw_2046, bp_131⟩
theorem sf_X12_deeds : SF yX12_deeds cX12_deeds 1 (some .int) 0 := ⟨bw_2043, bw_17, ⟨by decide +kernel, by decide +kernel⟩, by decide +kernel⟩
theorem sv_X12_deeds : Cond.instanceMethod yX12_deeds ∈ BW ∧ Cond.selects RX12 yX12_deeds yX12_deeds ∈ BW := ⟨bw_2042, bp_130⟩
theorem sf_X12_doesDeed : SF yX12_doesDeed cX12_doesDeed 4 (some .boolean) 1 := ⟨bw_2051, bw_17, ⟨by decide +kernel, by decide +kernel⟩, by decide +kernel⟩
theorem sv_X12_doesDeed : Cond.instanceMethod yX12_doesDeed ∈ BW ∧ Cond.selects RX12 yX12_doesDeed yX12_doesDeed ∈ BW := ⟨bw_2050, bp_132⟩
theorem sf_X12_playing : SF yX12_playing cX12_playing 3 (some .int) 1 := ⟨bw_2032, bw_17, ⟨by decide +kernel, by decide +kernel⟩, by decide +kernel⟩
theorem sv_X12_playing : Cond.instanceMethod yX12_playing ∈ BW ∧ Cond.selects RX12 yX12_playing yX12_playing ∈ BW := ⟨bw_2031, bp_128⟩
theorem sf_X12_game : SF yX12_game cX12_game 2 (some .int) 1 := ⟨bw_2027, bw_17, ⟨by decide +kernel, by decide +kernel⟩, by decide +kernel⟩
theorem sv_X12_game : Cond.instanceMethod yX12_game ∈ BW ∧ Cond.selects RX12 yX12_game yX12_game ∈ BW := ⟨bw_2025, bw_2026⟩
theorem sf_X12_moveOf : SF yX12_moveOf cX12_moveOf 4 (some .int) 2 := ⟨bw_2055, bw_17, ⟨by decide +kernel, by decide +kernel⟩, by decide +kernel⟩
theorem sv_X12_moveOf : Cond.instanceMethod yX12_moveOf ∈ BW ∧ Cond.selects RX12 yX12_moveOf yX12_moveOf ∈ BW := ⟨bw_2053, bw_2054⟩
theorem sf_X12_copyFed : SF yX12_copyFed cX12_copyFed 3 (some .int) 1 := ⟨bw_2059, bw_17, ⟨by decide +kernel, by decide +kernel⟩, by decide +kernel⟩
theorem sv_X12_copyFed : Cond.instanceMethod yX12_copyFed ∈ BW ∧ Cond.selects RX12 yX12_copyFed yX12_copyFed ∈ BW := ⟨bw_2057, bw_2058⟩
theorem sf_X12_draw : SF yX12_draw cX12_draw 2 (some .int) 1 := ⟨bw_2088, bw_17, ⟨by decide +kernel, by decide +kernel⟩, by decide +kernel⟩
theorem sv_X12_draw : Cond.instanceMethod yX12_draw ∈ BW ∧ Cond.selects RX12 yX12_draw yX12_draw ∈ BW := ⟨bw_2087, bp_138⟩
theorem sf_X12_sitsBy : SF yX12_sitsBy cX12_sitsBy 2 (some .boolean) 1 := ⟨bw_2076, bw_17, ⟨by decide +kernel, by decide +kernel⟩, by decide +kernel⟩
theorem sv_X12_sitsBy : Cond.instanceMethod yX12_sitsBy ∈ BW ∧ Cond.selects RX12 yX12_sitsBy yX12_sitsBy ∈ BW := ⟨bw_2075, bp_135⟩
theorem sf_X12_termsBy : SF yX12_termsBy cX12_termsBy 2 (some .boolean) 0 := ⟨bw_2080, bw_17, ⟨by decide +kernel, by decide +kernel⟩, by decide +kernel⟩
theorem sv_X12_termsBy : Cond.instanceMethod yX12_termsBy ∈ BW ∧ Cond.selects RX12 yX12_termsBy yX12_termsBy ∈ BW := ⟨bw_2079, bp_136⟩
theorem sf_X12_feedsAny : SF yX12_feedsAny cX12_feedsAny 3 (some .boolean) 0 := ⟨bw_2084, bw_17, ⟨by decide +kernel, by decide +kernel⟩, by decide +kernel⟩
theorem sv_X12_feedsAny : Cond.instanceMethod yX12_feedsAny ∈ BW ∧ Cond.selects RX12 yX12_feedsAny yX12_feedsAny ∈ BW := ⟨bw_2083, bp_137⟩
theorem sf_X12_does : SF yX12_does cX12_does 4 (some .boolean) 1 := ⟨bw_2072, bw_17, ⟨by decide +kernel, by decide +kernel⟩, by decide +kernel⟩
theorem sv_X12_does : Cond.instanceMethod yX12_does ∈ BW ∧ Cond.selects RX12 yX12_does yX12_does ∈ BW := ⟨bw_2071, bp_134⟩
theorem sf_X12_holds : SF yX12_holds cX12_holds 4 (some .boolean) 1 := ⟨bw_2093, bw_17, ⟨by decide +kernel, by decide +kernel⟩, by decide +kernel⟩
theorem sv_X12_holds : Cond.instanceMethod yX12_holds ∈ BW ∧ Cond.selects RX12 yX12_holds yX12_holds ∈ BW := ⟨bw_2092, bp_139⟩
theorem sf_X12_behindEnds : SF yX12_behindEnds cX12_behindEnds 5 (some .int) 1 := ⟨bw_2097, bw_17, ⟨by decide +kernel, by decide +kernel⟩, by decide +kernel⟩
theorem sv_X12_behindEnds : Cond.instanceMethod yX12_behindEnds ∈ BW ∧ Cond.selects RX12 yX12_behindEnds yX12_behindEnds ∈ BW := ⟨bw_2096, bp_140⟩
theorem sf_X12_lives : SF yX12_lives cX12_lives 4 none 1 := ⟨bw_2068, bw_17, ⟨by decide +kernel, by decide +kernel⟩, by decide +kernel⟩
theorem sv_X12_lives : Cond.instanceMethod yX12_lives ∈ BW ∧ Cond.selects RX12 yX12_lives yX12_lives ∈ BW := ⟨bw_2067, bp_133⟩
theorem sf_X12_live : SF yX12_live cX12_live 3 (some .int) 1 := ⟨bw_2063, bw_17, ⟨by decide +kernel, by decide +kernel⟩, by decide +kernel⟩
theorem sv_X12_live : Cond.instanceMethod yX12_live ∈ BW ∧ Cond.selects RX12 yX12_live yX12_live ∈ BW := ⟨bw_2061, bw_2062⟩
theorem sf_X12_lived : SF yX12_lived cX12_lived 2 (some .int) 1 := ⟨bw_2101, bw_17, ⟨by decide +kernel, by decide +kernel⟩, by decide +kernel⟩
theorem sv_X12_lived : Cond.instanceMethod yX12_lived ∈ BW ∧ Cond.selects RX12 yX12_lived yX12_lived ∈ BW := ⟨bw_2099, bw_2100⟩
theorem sf_X12_mean : SF yX12_mean cX12_mean 7 (some .boolean) 2 := ⟨bw_2105, bw_17, ⟨by decide +kernel, by decide +kernel⟩, by decide +kernel⟩
theorem sv_X12_mean : Cond.instanceMethod yX12_mean ∈ BW ∧ Cond.selects RX12 yX12_mean yX12_mean ∈ BW := ⟨bw_2103, bw_2104⟩
theorem sf_X12_copies : SF yX12_copies cX12_copies 4 none 2 := ⟨bw_2113, bw_17, ⟨by decide +kernel, by decide +kernel⟩, by decide +kernel⟩
theorem sv_X12_copies : Cond.instanceMethod yX12_copies ∈ BW ∧ Cond.selects RX12 yX12_copies yX12_copies ∈ BW := ⟨bw_2112, bp_141⟩
theorem sf_X12_mark : SF yX12_mark cX12_mark 1 (some .int) 0 := ⟨bw_2109, bw_17, ⟨by decide +kernel, by decide +kernel⟩, by decide +kernel⟩
theorem sv_X12_mark : Cond.instanceMethod yX12_mark ∈ BW ∧ Cond.selects RX12 yX12_mark yX12_mark ∈ BW := ⟨bw_2107, bw_2108⟩
theorem sf_X12_undo : SF yX12_undo cX12_undo 1 (some .int) 0 := ⟨bw_2117, bw_17, ⟨by decide +kernel, by decide +kernel⟩, by decide +kernel⟩
theorem sv_X12_undo : Cond.instanceMethod yX12_undo ∈ BW ∧ Cond.selects RX12 yX12_undo yX12_undo ∈ BW := ⟨bw_2115, bw_2116⟩
