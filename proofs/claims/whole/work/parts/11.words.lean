theorem um_list {ws : List Cond} (ps : List Nat) (h : ws.map some = ps.map (fun i => lw_tbl[i]?)) (g : ws.all goodWord = true) : ∀ w ∈ ws, w ∈ mU := by
  intro w hw
  have h1 : some w ∈ ws.map some := List.mem_map.mpr ⟨w, hw, rfl⟩
  rw [h] at h1
  obtain ⟨i, -, hi⟩ := List.mem_map.mp h1
  exact um i hi (List.all_eq_true.mp g w hw)
theorem lw_in {w : Cond} (h : w ∈ tables_1) (g : goodWord w = true) : w ∈ mU := List.mem_filter.mpr ⟨List.mem_append_right _ h, g⟩
theorem lt_1 {w : Cond} (i : Nat) (h0 : tables_1_1[i]? = some w) (g : goodWord w = true) : w ∈ mU := have h := List.mem_of_getElem? h0; lw_in (List.mem_append_left _ h) g
theorem lt_2 {w : Cond} (i : Nat) (h0 : tables_1_2[i]? = some w) (g : goodWord w = true) : w ∈ mU := have h := List.mem_of_getElem? h0; lw_in (List.mem_append_right _ (List.mem_append_left _ h)) g
theorem lt_3 {w : Cond} (i : Nat) (h0 : tables_1_3[i]? = some w) (g : goodWord w = true) : w ∈ mU := have h := List.mem_of_getElem? h0; lw_in (List.mem_append_right _ (List.mem_append_right _ (List.mem_append_left _ h))) g
theorem lt_4 {w : Cond} (i : Nat) (h0 : tables_1_4[i]? = some w) (g : goodWord w = true) : w ∈ mU := have h := List.mem_of_getElem? h0; lw_in (List.mem_append_right _ (List.mem_append_right _ (List.mem_append_right _ (List.mem_append_left _ h)))) g
theorem lt_5 {w : Cond} (i : Nat) (h0 : tables_1_5[i]? = some w) (g : goodWord w = true) : w ∈ mU := have h := List.mem_of_getElem? h0; lw_in (List.mem_append_right _ (List.mem_append_right _ (List.mem_append_right _ (List.mem_append_right _ (List.mem_append_left _ h))))) g
theorem lt_6 {w : Cond} (i : Nat) (h0 : tables_1_6[i]? = some w) (g : goodWord w = true) : w ∈ mU := have h := List.mem_of_getElem? h0; lw_in (List.mem_append_right _ (List.mem_append_right _ (List.mem_append_right _ (List.mem_append_right _ (List.mem_append_right _ (List.mem_append_left _ h)))))) g
theorem lt_7 {w : Cond} (i : Nat) (h0 : tables_1_7[i]? = some w) (g : goodWord w = true) : w ∈ mU := have h := List.mem_of_getElem? h0; lw_in (List.mem_append_right _ (List.mem_append_right _ (List.mem_append_right _ (List.mem_append_right _ (List.mem_append_right _ (List.mem_append_right _ (List.mem_append_left _ h))))))) g
theorem lt_8 {w : Cond} (i : Nat) (h0 : tables_1_8[i]? = some w) (g : goodWord w = true) : w ∈ mU := have h := List.mem_of_getElem? h0; lw_in (List.mem_append_right _ (List.mem_append_right _ (List.mem_append_right _ (List.mem_append_right _ (List.mem_append_right _ (List.mem_append_right _ (List.mem_append_right _ (List.mem_append_left _ h)))))))) g
theorem lt_9 {w : Cond} (i : Nat) (h0 : tables_1_9[i]? = some w) (g : goodWord w = true) : w ∈ mU := have h := List.mem_of_getElem? h0; lw_in (List.mem_append_right _ (List.mem_append_right _ (List.mem_append_right _ (List.mem_append_right _ (List.mem_append_right _ (List.mem_append_right _ (List.mem_append_right _ (List.mem_append_right _ (List.mem_append_left _ h))))))))) g
theorem lt_10 {w : Cond} (i : Nat) (h0 : tables_1_10[i]? = some w) (g : goodWord w = true) : w ∈ mU := have h := List.mem_of_getElem? h0; lw_in (List.mem_append_right _ (List.mem_append_right _ (List.mem_append_right _ (List.mem_append_right _ (List.mem_append_right _ (List.mem_append_right _ (List.mem_append_right _ (List.mem_append_right _ (List.mem_append_right _ h))))))))) g
theorem ws_0 : Cond.selects yX11_refuse.cls yX11_refuse yX11_refuse ∈ mU := um 0 rfl rfl
theorem ws_1 : Cond.selects yX4_statement.cls yX4_statement yX4_statement ∈ mU := um 1 rfl rfl
theorem ws_2 : Cond.selects yX4_numberBehind.cls yX4_numberBehind yX4_numberBehind ∈ mU := um 2 rfl rfl
theorem ws_3 : Cond.selects yX4_failed.cls yX4_failed yX4_failed ∈ mU := um 3 rfl rfl
theorem ws_4 : Cond.selects yX4_addPerson.cls yX4_addPerson yX4_addPerson ∈ mU := um 4 rfl rfl
theorem ws_5 : Cond.selects yX8_isOwnWord.cls yX8_isOwnWord yX8_isOwnWord ∈ mU := um 5 rfl rfl
theorem ws_6 : Cond.selects yX8_isOwnWordFrom.cls yX8_isOwnWordFrom yX8_isOwnWordFrom ∈ mU := um 6 rfl rfl
theorem ws_7 : Cond.selects yX4_addPieces.cls yX4_addPieces yX4_addPieces ∈ mU := um 7 rfl rfl
theorem ws_8 : Cond.selects yX4_beginsOnce.cls yX4_beginsOnce yX4_beginsOnce ∈ mU := um 8 rfl rfl
theorem ws_9 : Cond.selects yX6_sum.cls yX6_sum yX6_sum ∈ mU := um 9 rfl rfl
theorem ws_10 : Cond.selects yX6_product.cls yX6_product yX6_product ∈ mU := um 10 rfl rfl
theorem ws_11 : Cond.selects yX6_part.cls yX6_part yX6_part ∈ mU := um 11 rfl rfl
theorem ws_12 : Cond.selects yX6_putWith.cls yX6_putWith yX6_putWith ∈ mU := um 12 rfl rfl
theorem ws_13 : Cond.selects yX6_opens.cls yX6_opens yX6_opens ∈ mU := um 13 rfl rfl
theorem ws_14 : Cond.selects yX6_pair.cls yX6_pair yX6_pair ∈ mU := um 14 rfl rfl
theorem ws_15 : Cond.selects yX6_put.cls yX6_put yX6_put ∈ mU := um 15 rfl rfl
theorem ws_16 : Cond.selects yX6_factOfPerson.cls yX6_factOfPerson yX6_factOfPerson ∈ mU := um 16 rfl rfl
theorem ws_17 : Cond.selects yX6_factOfPart.cls yX6_factOfPart yX6_factOfPart ∈ mU := um 17 rfl rfl
theorem ws_18 : Cond.selects yX6_test.cls yX6_test yX6_test ∈ mU := um 18 rfl rfl
theorem ws_19 : Cond.selects yX6_both.cls yX6_both yX6_both ∈ mU := um 19 rfl rfl
theorem ws_20 : Cond.selects yX6_fact.cls yX6_fact yX6_fact ∈ mU := um 20 rfl rfl
theorem ws_21 : Cond.selects yX6_comparisonHere.cls yX6_comparisonHere yX6_comparisonHere ∈ mU := um 21 rfl rfl
theorem ws_22 : Cond.selects yX11_keepFault.cls yX11_keepFault yX11_keepFault ∈ mU := um 22 rfl rfl
theorem ws_23 : Cond.selects yX1_search.cls yX1_search yX1_search ∈ mU := um 23 rfl rfl
theorem ws_24 : Cond.selects yX1_keepSet.cls yX1_keepSet yX1_keepSet ∈ mU := um 24 rfl rfl
theorem ws_25 : Cond.selects yX11_isPerson.cls yX11_isPerson yX11_isPerson ∈ mU := um 25 rfl rfl
theorem ws_26 : Cond.selects yX11_isSize.cls yX11_isSize yX11_isSize ∈ mU := um 26 rfl rfl
theorem ws_27 : Cond.selects yX11_isShare.cls yX11_isShare yX11_isShare ∈ mU := um 27 rfl rfl
theorem ws_28 : Cond.selects yX11_hasOffice.cls yX11_hasOffice yX11_hasOffice ∈ mU := um 28 rfl rfl
theorem ws_29 : Cond.selects yX11_priceOf.cls yX11_priceOf yX11_priceOf ∈ mU := um 29 rfl rfl
theorem ws_30 : Cond.selects yX11_isSet.cls yX11_isSet yX11_isSet ∈ mU := um 30 rfl rfl
theorem ws_31 : Cond.selects yX5_fillCutRow.cls yX5_fillCutRow yX5_fillCutRow ∈ mU := um 31 rfl rfl
theorem ws_32 : Cond.selects yX5_cutsServe.cls yX5_cutsServe yX5_cutsServe ∈ mU := um 32 rfl rfl
theorem ws_33 : Cond.selects yX5_nextCutRow.cls yX5_nextCutRow yX5_nextCutRow ∈ mU := um 33 rfl rfl
theorem ws_34 : Cond.selects yX5_seat.cls yX5_seat yX5_seat ∈ mU := um 34 rfl rfl
theorem ws_35 : Cond.selects yX5_servedWithout.cls yX5_servedWithout yX5_servedWithout ∈ mU := um 35 rfl rfl
theorem ws_36 : Cond.selects yX5_lastSeenDay.cls yX5_lastSeenDay yX5_lastSeenDay ∈ mU := um 36 rfl rfl
theorem ws_37 : Cond.selects yX5_comingDays.cls yX5_comingDays yX5_comingDays ∈ mU := um 37 rfl rfl
theorem ws_38 : Cond.selects yX5_watch.cls yX5_watch yX5_watch ∈ mU := um 38 rfl rfl
theorem ws_39 : Cond.selects yX5_stocksAsSeen.cls yX5_stocksAsSeen yX5_stocksAsSeen ∈ mU := um 39 rfl rfl
theorem ws_40 : Cond.selects yX5_isAsSeen.cls yX5_isAsSeen yX5_isAsSeen ∈ mU := um 40 rfl rfl
theorem ws_41 : Cond.selects yX5_servedBy.cls yX5_servedBy yX5_servedBy ∈ mU := um 41 rfl rfl
theorem ws_42 : Cond.selects yX11_daysCanBe.cls yX11_daysCanBe yX11_daysCanBe ∈ mU := um 42 rfl rfl
theorem ws_43 : Cond.selects yX11_draw.cls yX11_draw yX11_draw ∈ mU := um 43 rfl rfl
theorem ws_44 : Cond.selects yX6_questionHere.cls yX6_questionHere yX6_questionHere ∈ mU := um 44 rfl rfl
theorem ws_45 : Cond.selects yX11_firstHolding.cls yX11_firstHolding yX11_firstHolding ∈ mU := um 45 rfl rfl
theorem ws_46 : Cond.selects yX11_answerOf.cls yX11_answerOf yX11_answerOf ∈ mU := um 46 rfl rfl
theorem ws_47 : Cond.selects yX11_lastHolding.cls yX11_lastHolding yX11_lastHolding ∈ mU := um 47 rfl rfl
theorem ws_48 : Cond.selects yX11_sumOfAll.cls yX11_sumOfAll yX11_sumOfAll ∈ mU := um 48 rfl rfl
theorem ws_49 : Cond.selects yX11_greatestOfAll.cls yX11_greatestOfAll yX11_greatestOfAll ∈ mU := um 49 rfl rfl
theorem ws_50 : Cond.selects yX11_leastOfAll.cls yX11_leastOfAll yX11_leastOfAll ∈ mU := um 50 rfl rfl
theorem ws_51 : Cond.selects yX11_addTwo.cls yX11_addTwo yX11_addTwo ∈ mU := um 51 rfl rfl
theorem ws_52 : Cond.selects yX11_addByte.cls yX11_addByte yX11_addByte ∈ mU := um 52 rfl rfl
theorem ws_53 : Cond.selects yX12_finestTold.cls yX12_finestTold yX12_finestTold ∈ mU := um 53 rfl rfl
theorem ws_54 : Cond.selects yX12_asks.cls yX12_asks yX12_asks ∈ mU := um 54 rfl rfl
theorem ws_55 : Cond.selects yX12_takes.cls yX12_takes yX12_takes ∈ mU := um 55 rfl rfl
theorem ws_56 : Cond.selects yX12_isHere.cls yX12_isHere yX12_isHere ∈ mU := um 56 rfl rfl
theorem ws_57 : Cond.selects yX12_look.cls yX12_look yX12_look ∈ mU := um 57 rfl rfl
theorem ws_58 : Cond.selects yX12_fail.cls yX12_fail yX12_fail ∈ mU := um 58 rfl rfl
theorem ws_59 : Cond.selects yX12_number.cls yX12_number yX12_number ∈ mU := um 59 rfl rfl
theorem ws_60 : Cond.selects yX12_asksSign.cls yX12_asksSign yX12_asksSign ∈ mU := um 60 rfl rfl
theorem ws_61 : Cond.selects yX12_takesSign.cls yX12_takesSign yX12_takesSign ∈ mU := um 61 rfl rfl
theorem ws_62 : Cond.selects yX12_statementTold.cls yX12_statementTold yX12_statementTold ∈ mU := um 62 rfl rfl
theorem ws_63 : Cond.selects yX12_personTold.cls yX12_personTold yX12_personTold ∈ mU := um 63 rfl rfl
theorem ws_64 : Cond.selects yX12_name.cls yX12_name yX12_name ∈ mU := um 64 rfl rfl
theorem ws_65 : Cond.selects yX12_isOwnHere.cls yX12_isOwnHere yX12_isOwnHere ∈ mU := um 65 rfl rfl
theorem ws_66 : Cond.selects yX12_haveTold.cls yX12_haveTold yX12_haveTold ∈ mU := um 66 rfl rfl
theorem ws_67 : Cond.selects yX12_codesTold.cls yX12_codesTold yX12_codesTold ∈ mU := um 67 rfl rfl
theorem ws_68 : Cond.selects yX12_qTest.cls yX12_qTest yX12_qTest ∈ mU := um 68 rfl rfl
theorem ws_69 : Cond.selects yX12_qOpens.cls yX12_qOpens yX12_qOpens ∈ mU := um 69 rfl rfl
theorem ws_70 : Cond.selects yX12_qFact.cls yX12_qFact yX12_qFact ∈ mU := um 70 rfl rfl
theorem ws_71 : Cond.selects yX12_qCode.cls yX12_qCode yX12_qCode ∈ mU := um 71 rfl rfl
theorem ws_72 : Cond.selects yX12_qSums.cls yX12_qSums yX12_qSums ∈ mU := um 72 rfl rfl
theorem ws_73 : Cond.selects yX12_qPartTold.cls yX12_qPartTold yX12_qPartTold ∈ mU := um 73 rfl rfl
theorem ws_74 : Cond.selects yX12_qWordOf.cls yX12_qWordOf yX12_qWordOf ∈ mU := um 74 rfl rfl
theorem ws_75 : Cond.selects yX12_qWordHere.cls yX12_qWordHere yX12_qWordHere ∈ mU := um 75 rfl rfl
theorem ws_76 : Cond.selects yX12_isAllowed.cls yX12_isAllowed yX12_isAllowed ∈ mU := um 76 rfl rfl
theorem ws_77 : Cond.selects yX12_qAsksWord.cls yX12_qAsksWord yX12_qAsksWord ∈ mU := um 77 rfl rfl
theorem ws_78 : Cond.selects yX12_qEndsPart.cls yX12_qEndsPart yX12_qEndsPart ∈ mU := um 78 rfl rfl
theorem ws_79 : Cond.selects yX12_qDrops.cls yX12_qDrops yX12_qDrops ∈ mU := um 79 rfl rfl
theorem ws_80 : Cond.selects yX12_qGoesOn.cls yX12_qGoesOn yX12_qGoesOn ∈ mU := um 80 rfl rfl
theorem ws_81 : Cond.selects yX12_qBracket.cls yX12_qBracket yX12_qBracket ∈ mU := um 81 rfl rfl
theorem ws_82 : Cond.selects yX12_qDropsToBracket.cls yX12_qDropsToBracket yX12_qDropsToBracket ∈ mU := um 82 rfl rfl
theorem ws_83 : Cond.selects yX12_qIsOn.cls yX12_qIsOn yX12_qIsOn ∈ mU := um 83 rfl rfl
theorem ws_84 : Cond.selects yX12_qDropsNots.cls yX12_qDropsNots yX12_qDropsNots ∈ mU := um 84 rfl rfl
theorem ws_85 : Cond.selects yX12_qGoesOnTest.cls yX12_qGoesOnTest yX12_qGoesOnTest ∈ mU := um 85 rfl rfl
theorem ws_86 : Cond.selects yX12_qHasSquare.cls yX12_qHasSquare yX12_qHasSquare ∈ mU := um 86 rfl rfl
theorem ws_87 : Cond.selects yX12_refuses.cls yX12_refuses yX12_refuses ∈ mU := um 87 rfl rfl
theorem ws_88 : Cond.selects yX12_stands.cls yX12_stands yX12_stands ∈ mU := um 88 rfl rfl
theorem ws_89 : Cond.selects yX12_laysDue.cls yX12_laysDue yX12_laysDue ∈ mU := um 89 rfl rfl
theorem ws_90 : Cond.selects yX12_laysWritings.cls yX12_laysWritings yX12_laysWritings ∈ mU := um 90 rfl rfl
theorem ws_91 : Cond.selects yX12_finest.cls yX12_finest yX12_finest ∈ mU := um 91 rfl rfl
theorem ws_92 : Cond.selects yX12_mostParts.cls yX12_mostParts yX12_mostParts ∈ mU := um 92 rfl rfl
theorem ws_93 : Cond.selects yX12_rowSet.cls yX12_rowSet yX12_rowSet ∈ mU := um 93 rfl rfl
theorem ws_94 : Cond.selects yX12_personMany.cls yX12_personMany yX12_personMany ∈ mU := um 94 rfl rfl
theorem ws_95 : Cond.selects yX12_sumOf.cls yX12_sumOf yX12_sumOf ∈ mU := um 95 rfl rfl
theorem ws_96 : Cond.selects yX12_hungryMany.cls yX12_hungryMany yX12_hungryMany ∈ mU := um 96 rfl rfl
theorem ws_97 : Cond.selects yX12_hungerOf.cls yX12_hungerOf yX12_hungerOf ∈ mU := um 97 rfl rfl
theorem ws_98 : Cond.selects yX12_isPerson.cls yX12_isPerson yX12_isPerson ∈ mU := um 98 rfl rfl
theorem ws_99 : Cond.selects yX12_timesOf.cls yX12_timesOf yX12_timesOf ∈ mU := um 99 rfl rfl
theorem ws_100 : Cond.selects yX12_takenBy.cls yX12_takenBy yX12_takenBy ∈ mU := um 100 rfl rfl
theorem ws_101 : Cond.selects yX12_writingFor.cls yX12_writingFor yX12_writingFor ∈ mU := um 101 rfl rfl
theorem ws_102 : Cond.selects yX12_isInStock.cls yX12_isInStock yX12_isInStock ∈ mU := um 102 rfl rfl
theorem ws_103 : Cond.selects yX12_isLiked.cls yX12_isLiked yX12_isLiked ∈ mU := um 103 rfl rfl
theorem ws_104 : Cond.selects yX12_isCoded.cls yX12_isCoded yX12_isCoded ∈ mU := um 104 rfl rfl
theorem ws_105 : Cond.selects yX12_codesTell.cls yX12_codesTell yX12_codesTell ∈ mU := um 105 rfl rfl
theorem ws_106 : Cond.selects yX12_qPuts.cls yX12_qPuts yX12_qPuts ∈ mU := um 106 rfl rfl
theorem ws_107 : Cond.selects yX12_qPartOf.cls yX12_qPartOf yX12_qPartOf ∈ mU := um 107 rfl rfl
theorem ws_108 : Cond.selects yX12_qJoins.cls yX12_qJoins yX12_qJoins ∈ mU := um 108 rfl rfl
theorem ws_109 : Cond.selects yX12_isSize.cls yX12_isSize yX12_isSize ∈ mU := um 109 rfl rfl
theorem ws_110 : Cond.selects yX12_isShare.cls yX12_isShare yX12_isShare ∈ mU := um 110 rfl rfl
theorem ws_111 : Cond.selects yX12_shortestFound.cls yX12_shortestFound yX12_shortestFound ∈ mU := um 111 rfl rfl
theorem ws_112 : Cond.selects yX12_costOf.cls yX12_costOf yX12_costOf ∈ mU := um 112 rfl rfl
theorem ws_113 : Cond.selects yX12_isSet.cls yX12_isSet yX12_isSet ∈ mU := um 113 rfl rfl
theorem ws_114 : Cond.selects yX12_madeBy.cls yX12_madeBy yX12_madeBy ∈ mU := um 114 rfl rfl
theorem ws_115 : Cond.selects yX12_isAhead.cls yX12_isAhead yX12_isAhead ∈ mU := um 115 rfl rfl
theorem ws_116 : Cond.selects yX12_putsAside.cls yX12_putsAside yX12_putsAside ∈ mU := um 116 rfl rfl
theorem ws_117 : Cond.selects yX12_daysGo.cls yX12_daysGo yX12_daysGo ∈ mU := um 117 rfl rfl
theorem ws_118 : Cond.selects yX12_dayGoes.cls yX12_dayGoes yX12_dayGoes ∈ mU := um 118 rfl rfl
theorem ws_119 : Cond.selects yX12_comesBy.cls yX12_comesBy yX12_comesBy ∈ mU := um 119 rfl rfl
theorem ws_120 : Cond.selects yX12_hands.cls yX12_hands yX12_hands ∈ mU := um 120 rfl rfl
theorem ws_121 : Cond.selects yX12_moves.cls yX12_moves yX12_moves ∈ mU := um 121 rfl rfl
theorem ws_122 : Cond.selects yX12_isKept.cls yX12_isKept yX12_isKept ∈ mU := um 122 rfl rfl
theorem ws_123 : Cond.selects yX12_takesBack.cls yX12_takesBack yX12_takesBack ∈ mU := um 123 rfl rfl
theorem ws_124 : Cond.selects yX12_triesAnew.cls yX12_triesAnew yX12_triesAnew ∈ mU := um 124 rfl rfl
theorem ws_125 : Cond.selects yX12_isFoundBy.cls yX12_isFoundBy yX12_isFoundBy ∈ mU := um 125 rfl rfl
theorem ws_126 : Cond.selects yX12_isEnough.cls yX12_isEnough yX12_isEnough ∈ mU := um 126 rfl rfl
theorem ws_127 : Cond.selects yX12_goesOn.cls yX12_goesOn yX12_goesOn ∈ mU := um 127 rfl rfl
theorem ws_128 : Cond.selects yX12_laysFeast.cls yX12_laysFeast yX12_laysFeast ∈ mU := um 128 rfl rfl
theorem ws_129 : Cond.selects yX12_choiceBehind.cls yX12_choiceBehind yX12_choiceBehind ∈ mU := um 129 rfl rfl
theorem ws_130 : Cond.selects yX12_isGone.cls yX12_isGone yX12_isGone ∈ mU := um 130 rfl rfl
theorem ws_131 : Cond.selects yX12_stockSet.cls yX12_stockSet yX12_stockSet ∈ mU := um 131 rfl rfl
theorem ws_132 : Cond.selects yX12_isAsSeen.cls yX12_isAsSeen yX12_isAsSeen ∈ mU := um 132 rfl rfl
theorem ws_133 : Cond.selects yX12_mostAlike.cls yX12_mostAlike yX12_mostAlike ∈ mU := um 133 rfl rfl
theorem ws_134 : Cond.selects yX12_keeps.cls yX12_keeps yX12_keeps ∈ mU := um 134 rfl rfl
theorem ws_135 : Cond.selects yX12_isWriting.cls yX12_isWriting yX12_isWriting ∈ mU := um 135 rfl rfl
theorem ws_136 : Cond.selects yX12_isRefused.cls yX12_isRefused yX12_isRefused ∈ mU := um 136 rfl rfl
theorem ws_137 : Cond.selects yX12_drawOf.cls yX12_drawOf yX12_drawOf ∈ mU := um 137 rfl rfl
theorem ws_138 : Cond.selects yX12_qKind.cls yX12_qKind yX12_qKind ∈ mU := um 138 rfl rfl
theorem ws_139 : Cond.selects yX12_qTold.cls yX12_qTold yX12_qTold ∈ mU := um 139 rfl rfl
theorem ws_140 : Cond.selects yX12_qOf.cls yX12_qOf yX12_qOf ∈ mU := um 140 rfl rfl
theorem ws_141 : Cond.selects yX12_qTakes.cls yX12_qTakes yX12_qTakes ∈ mU := um 141 rfl rfl
theorem ws_142 : Cond.selects yX12_writesTwo.cls yX12_writesTwo yX12_writesTwo ∈ mU := um 142 rfl rfl
theorem ws_143 : Cond.selects yX12_writes.cls yX12_writes yX12_writes ∈ mU := um 143 rfl rfl
theorem ws_144 : Cond.selects yX12_isImage.cls yX12_isImage yX12_isImage ∈ mU := um 144 rfl rfl
theorem ws_145 : Cond.selects yX12_twoAt.cls yX12_twoAt yX12_twoAt ∈ mU := um 145 rfl rfl
theorem wt_1 : Cond.initialized "UnlikeLoaves" ∈ mU := lt_1 1 rfl rfl
theorem wt_2 : Cond.initialized "UnlikeLoaves$Tape" ∈ mU := lt_1 2 rfl rfl
theorem wt_3 : Cond.initialized "UnlikeLoaves$Scanner" ∈ mU := lt_1 3 rfl rfl
theorem wt_4 : Cond.initialized "UnlikeLoaves$Phrases" ∈ mU := lt_1 4 rfl rfl
theorem wt_5 : Cond.initialized "UnlikeLoaves$OfficeReader" ∈ mU := lt_1 5 rfl rfl
theorem wt_6 : Cond.initialized "UnlikeLoaves$Rules" ∈ mU := lt_1 6 rfl rfl
theorem wt_7 : Cond.initialized "UnlikeLoaves$Formula" ∈ mU := lt_1 7 rfl rfl
theorem wt_8 : Cond.initialized "UnlikeLoaves$Finder" ∈ mU := lt_1 8 rfl rfl
theorem wt_9 : Cond.initialized "UnlikeLoaves$State" ∈ mU := lt_1 9 rfl rfl
theorem wt_10 : Cond.initialized "UnlikeLoaves$History" ∈ mU := lt_1 10 rfl rfl
theorem wt_11 : Cond.initialized "UnlikeLoaves$Course" ∈ mU := lt_1 11 rfl rfl
theorem wt_12 : Cond.initialized "UnlikeLoaves$Outlook" ∈ mU := lt_1 12 rfl rfl
theorem wt_13 : Cond.initialized "UnlikeLoavesModel" ∈ mU := lt_1 13 rfl rfl
theorem wt_14 : Cond.initialized "java/lang/String" ∈ mU := lt_1 14 rfl rfl
theorem wt_15 : Cond.initialized "java/lang/StringLatin1" ∈ mU := lt_1 15 rfl rfl
theorem wt_16 : Cond.initialized "jdk/internal/util/Preconditions" ∈ mU := lt_1 16 rfl rfl
theorem wt_18 : Cond.initialized "java/lang/System" ∈ mU := lt_1 18 rfl rfl
theorem wt_19 : Cond.initialized "java/lang/Math" ∈ mU := lt_1 19 rfl rfl
theorem wt_20 : Cond.initialized "java/lang/Integer" ∈ mU := lt_1 20 rfl rfl
theorem wt_35 : Cond.fieldLink "UnlikeLoaves$Tape" 9 "UnlikeLoaves$Tape" "bytes" "[I" ∈ mU := lt_1 35 rfl rfl
theorem wt_36 : Cond.fieldLink "UnlikeLoaves$Scanner" 39 "UnlikeLoaves$Tape" "bytes" "[I" ∈ mU := lt_1 36 rfl rfl
theorem wt_37 : Cond.fieldLink "UnlikeLoaves$State" 64 "UnlikeLoaves$Tape" "bytes" "[I" ∈ mU := lt_1 37 rfl rfl
theorem wt_38 : Cond.fieldLink "UnlikeLoaves$Outlook" 134 "UnlikeLoaves$Tape" "bytes" "[I" ∈ mU := lt_1 38 rfl rfl
theorem wt_39 : Cond.fieldLink "UnlikeLoaves$Tape" 15 "UnlikeLoaves$Tape" "count" "I" ∈ mU := lt_1 39 rfl rfl
theorem wt_40 : Cond.fieldLink "UnlikeLoaves" 119 "UnlikeLoaves$Tape" "count" "I" ∈ mU := lt_1 40 rfl rfl
theorem wt_41 : Cond.fieldLink "UnlikeLoaves$Scanner" 34 "UnlikeLoaves$Tape" "count" "I" ∈ mU := lt_1 41 rfl rfl
theorem wt_42 : Cond.fieldLink "UnlikeLoaves$Outlook" 129 "UnlikeLoaves$Tape" "count" "I" ∈ mU := lt_1 42 rfl rfl
theorem wt_55 : Cond.fieldLink "UnlikeLoaves$Scanner" 27 "UnlikeLoaves$Scanner" "tape" "LUnlikeLoaves$Tape;" ∈ mU := lt_1 55 rfl rfl
theorem wt_56 : Cond.fieldLink "UnlikeLoaves$Scanner" 11 "UnlikeLoaves$Scanner" "kind" "I" ∈ mU := lt_1 56 rfl rfl
theorem wt_57 : Cond.fieldLink "UnlikeLoaves$OfficeReader" 34 "UnlikeLoaves$Scanner" "kind" "I" ∈ mU := lt_1 57 rfl rfl
theorem wt_58 : Cond.fieldLink "UnlikeLoaves$Phrases" 57 "UnlikeLoaves$Scanner" "kind" "I" ∈ mU := lt_1 58 rfl rfl
theorem wt_59 : Cond.fieldLink "UnlikeLoaves$Scanner" 15 "UnlikeLoaves$Scanner" "at" "I" ∈ mU := lt_1 59 rfl rfl
theorem wt_60 : Cond.fieldLink "UnlikeLoaves$Scanner" 18 "UnlikeLoaves$Scanner" "stop" "I" ∈ mU := lt_1 60 rfl rfl
theorem wt_61 : Cond.fieldLink "UnlikeLoaves$Scanner" 21 "UnlikeLoaves$Scanner" "fault" "I" ∈ mU := lt_1 61 rfl rfl
theorem wt_62 : Cond.fieldLink "UnlikeLoaves" 400 "UnlikeLoaves$Scanner" "fault" "I" ∈ mU := lt_1 62 rfl rfl
theorem wt_63 : Cond.fieldLink "UnlikeLoaves$Scanner" 24 "UnlikeLoaves$Scanner" "place" "I" ∈ mU := lt_1 63 rfl rfl
theorem wt_64 : Cond.fieldLink "UnlikeLoaves" 403 "UnlikeLoaves$Scanner" "place" "I" ∈ mU := lt_1 64 rfl rfl
theorem wt_84 : Cond.fieldLink "UnlikeLoaves$Phrases" 19 "UnlikeLoaves$Phrases" "scanner" "LUnlikeLoaves$Scanner;" ∈ mU := lt_1 84 rfl rfl
theorem wt_85 : Cond.fieldLink "UnlikeLoaves$Phrases" 9 "UnlikeLoaves$Phrases" "out" "LUnlikeLoaves$Formula;" ∈ mU := lt_1 85 rfl rfl
theorem wt_86 : Cond.fieldLink "UnlikeLoaves$Phrases" 15 "UnlikeLoaves$Phrases" "where" "I" ∈ mU := lt_1 86 rfl rfl
theorem wt_112 : Cond.fieldLink "UnlikeLoaves$Formula" 11 "UnlikeLoaves$Formula" "steps" "[I" ∈ mU := lt_1 112 rfl rfl
theorem wt_113 : Cond.fieldLink "UnlikeLoaves$Formula" 15 "UnlikeLoaves$Formula" "pile" "[I" ∈ mU := lt_1 113 rfl rfl
theorem wt_114 : Cond.fieldLink "UnlikeLoaves$Formula" 18 "UnlikeLoaves$Formula" "count" "I" ∈ mU := lt_1 114 rfl rfl
theorem wt_122 : Cond.fieldLink "UnlikeLoaves$Rules" 9 "UnlikeLoaves$Rules" "finest" "I" ∈ mU := lt_1 122 rfl rfl
theorem wt_123 : Cond.fieldLink "UnlikeLoaves$Course" 40 "UnlikeLoaves$Rules" "finest" "I" ∈ mU := lt_1 123 rfl rfl
theorem wt_124 : Cond.fieldLink "UnlikeLoaves$OfficeReader" 64 "UnlikeLoaves$Rules" "finest" "I" ∈ mU := lt_1 124 rfl rfl
theorem wt_125 : Cond.fieldLink "UnlikeLoaves$State" 58 "UnlikeLoaves$Rules" "finest" "I" ∈ mU := lt_1 125 rfl rfl
theorem wt_126 : Cond.fieldLink "UnlikeLoaves$Outlook" 88 "UnlikeLoaves$Rules" "finest" "I" ∈ mU := lt_1 126 rfl rfl
theorem wt_127 : Cond.fieldLink "UnlikeLoaves" 178 "UnlikeLoaves$Rules" "finest" "I" ∈ mU := lt_1 127 rfl rfl
theorem wt_128 : Cond.fieldLink "UnlikeLoaves$Finder" 58 "UnlikeLoaves$Rules" "finest" "I" ∈ mU := lt_1 128 rfl rfl
theorem wt_129 : Cond.fieldLink "UnlikeLoaves$Rules" 15 "UnlikeLoaves$Rules" "most" "I" ∈ mU := lt_1 129 rfl rfl
theorem wt_130 : Cond.fieldLink "UnlikeLoaves$OfficeReader" 68 "UnlikeLoaves$Rules" "most" "I" ∈ mU := lt_1 130 rfl rfl
theorem wt_131 : Cond.fieldLink "UnlikeLoaves$Finder" 45 "UnlikeLoaves$Rules" "most" "I" ∈ mU := lt_1 131 rfl rfl
theorem wt_132 : Cond.fieldLink "UnlikeLoaves" 181 "UnlikeLoaves$Rules" "most" "I" ∈ mU := lt_1 132 rfl rfl
theorem wt_133 : Cond.fieldLink "UnlikeLoaves$Rules" 18 "UnlikeLoaves$Rules" "people" "I" ∈ mU := lt_1 133 rfl rfl
theorem wt_134 : Cond.fieldLink "UnlikeLoaves$Course" 64 "UnlikeLoaves$Rules" "people" "I" ∈ mU := lt_1 134 rfl rfl
theorem wt_135 : Cond.fieldLink "UnlikeLoaves" 146 "UnlikeLoaves$Rules" "people" "I" ∈ mU := lt_1 135 rfl rfl
theorem wt_136 : Cond.fieldLink "UnlikeLoaves$State" 61 "UnlikeLoaves$Rules" "people" "I" ∈ mU := lt_1 136 rfl rfl
theorem wt_137 : Cond.fieldLink "UnlikeLoaves$OfficeReader" 123 "UnlikeLoaves$Rules" "people" "I" ∈ mU := lt_1 137 rfl rfl
theorem wt_138 : Cond.fieldLink "UnlikeLoaves$Outlook" 100 "UnlikeLoaves$Rules" "people" "I" ∈ mU := lt_1 138 rfl rfl
theorem wt_139 : Cond.fieldLink "UnlikeLoaves$Rules" 21 "UnlikeLoaves$Rules" "bakes" "I" ∈ mU := lt_1 139 rfl rfl
theorem wt_140 : Cond.fieldLink "UnlikeLoaves$Course" 57 "UnlikeLoaves$Rules" "bakes" "I" ∈ mU := lt_1 140 rfl rfl
theorem wt_141 : Cond.fieldLink "UnlikeLoaves$OfficeReader" 72 "UnlikeLoaves$Rules" "bakes" "I" ∈ mU := lt_1 141 rfl rfl
theorem wt_142 : Cond.fieldLink "UnlikeLoaves$Rules" 24 "UnlikeLoaves$Rules" "mice" "I" ∈ mU := lt_1 142 rfl rfl
theorem wt_143 : Cond.fieldLink "UnlikeLoaves$OfficeReader" 76 "UnlikeLoaves$Rules" "mice" "I" ∈ mU := lt_1 143 rfl rfl
theorem wt_144 : Cond.fieldLink "UnlikeLoaves$Outlook" 123 "UnlikeLoaves$Rules" "mice" "I" ∈ mU := lt_1 144 rfl rfl
theorem wt_145 : Cond.fieldLink "UnlikeLoaves" 354 "UnlikeLoaves$Rules" "mice" "I" ∈ mU := lt_1 145 rfl rfl
theorem wt_146 : Cond.fieldLink "UnlikeLoaves$Rules" 27 "UnlikeLoaves$Rules" "costsTold" "Z" ∈ mU := lt_1 146 rfl rfl
theorem wt_147 : Cond.fieldLink "UnlikeLoaves$OfficeReader" 91 "UnlikeLoaves$Rules" "costsTold" "Z" ∈ mU := lt_1 147 rfl rfl
theorem wt_148 : Cond.fieldLink "UnlikeLoaves$Rules" 31 "UnlikeLoaves$Rules" "likesTold" "Z" ∈ mU := lt_1 148 rfl rfl
theorem wt_149 : Cond.fieldLink "UnlikeLoaves$OfficeReader" 109 "UnlikeLoaves$Rules" "likesTold" "Z" ∈ mU := lt_1 149 rfl rfl
theorem wt_150 : Cond.fieldLink "UnlikeLoaves$Rules" 34 "UnlikeLoaves$Rules" "names" "[I" ∈ mU := lt_1 150 rfl rfl
theorem wt_151 : Cond.fieldLink "UnlikeLoaves" 204 "UnlikeLoaves$Rules" "names" "[I" ∈ mU := lt_1 151 rfl rfl
theorem wt_152 : Cond.fieldLink "UnlikeLoaves$OfficeReader" 136 "UnlikeLoaves$Rules" "names" "[I" ∈ mU := lt_1 152 rfl rfl
theorem wt_153 : Cond.fieldLink "UnlikeLoaves$Rules" 38 "UnlikeLoaves$Rules" "top" "[I" ∈ mU := lt_1 153 rfl rfl
theorem wt_154 : Cond.fieldLink "UnlikeLoaves" 149 "UnlikeLoaves$Rules" "top" "[I" ∈ mU := lt_1 154 rfl rfl
theorem wt_155 : Cond.fieldLink "UnlikeLoaves$OfficeReader" 140 "UnlikeLoaves$Rules" "top" "[I" ∈ mU := lt_1 155 rfl rfl
theorem wt_156 : Cond.fieldLink "UnlikeLoaves$Rules" 41 "UnlikeLoaves$Rules" "bottom" "[I" ∈ mU := lt_1 156 rfl rfl
theorem wt_157 : Cond.fieldLink "UnlikeLoaves" 152 "UnlikeLoaves$Rules" "bottom" "[I" ∈ mU := lt_1 157 rfl rfl
theorem wt_158 : Cond.fieldLink "UnlikeLoaves$OfficeReader" 143 "UnlikeLoaves$Rules" "bottom" "[I" ∈ mU := lt_1 158 rfl rfl
theorem wt_159 : Cond.fieldLink "UnlikeLoaves$Rules" 44 "UnlikeLoaves$Rules" "told" "[I" ∈ mU := lt_1 159 rfl rfl
theorem wt_160 : Cond.fieldLink "UnlikeLoaves$State" 34 "UnlikeLoaves$Rules" "told" "[I" ∈ mU := lt_1 160 rfl rfl
theorem wt_161 : Cond.fieldLink "UnlikeLoaves$OfficeReader" 154 "UnlikeLoaves$Rules" "told" "[I" ∈ mU := lt_1 161 rfl rfl
theorem wt_162 : Cond.fieldLink "UnlikeLoaves$Rules" 50 "UnlikeLoaves$Rules" "costs" "LUnlikeLoaves$Formula;" ∈ mU := lt_1 162 rfl rfl
theorem wt_163 : Cond.fieldLink "UnlikeLoaves$OfficeReader" 98 "UnlikeLoaves$Rules" "costs" "LUnlikeLoaves$Formula;" ∈ mU := lt_1 163 rfl rfl
theorem wt_164 : Cond.fieldLink "UnlikeLoaves" 412 "UnlikeLoaves$Rules" "costs" "LUnlikeLoaves$Formula;" ∈ mU := lt_1 164 rfl rfl
theorem wt_165 : Cond.fieldLink "UnlikeLoaves$Rules" 54 "UnlikeLoaves$Rules" "likes" "LUnlikeLoaves$Formula;" ∈ mU := lt_1 165 rfl rfl
theorem wt_166 : Cond.fieldLink "UnlikeLoaves$Course" 46 "UnlikeLoaves$Rules" "likes" "LUnlikeLoaves$Formula;" ∈ mU := lt_1 166 rfl rfl
theorem wt_167 : Cond.fieldLink "UnlikeLoaves$OfficeReader" 112 "UnlikeLoaves$Rules" "likes" "LUnlikeLoaves$Formula;" ∈ mU := lt_1 167 rfl rfl
theorem wt_168 : Cond.fieldLink "UnlikeLoaves$Rules" 57 "UnlikeLoaves$Rules" "rows" "[I" ∈ mU := lt_1 168 rfl rfl
theorem wt_169 : Cond.fieldLink "UnlikeLoaves$Rules" 60 "UnlikeLoaves$Rules" "ways" "[I" ∈ mU := lt_1 169 rfl rfl
theorem wt_170 : Cond.fieldLink "UnlikeLoaves" 213 "UnlikeLoaves$Rules" "ways" "[I" ∈ mU := lt_1 170 rfl rfl
theorem wt_171 : Cond.fieldLink "UnlikeLoaves$Outlook" 111 "UnlikeLoaves$Rules" "ways" "[I" ∈ mU := lt_1 171 rfl rfl
theorem wt_172 : Cond.fieldLink "UnlikeLoaves$Rules" 63 "UnlikeLoaves$Rules" "fitting" "[I" ∈ mU := lt_1 172 rfl rfl
theorem wt_173 : Cond.fieldLink "UnlikeLoaves" 419 "UnlikeLoaves$Rules" "fitting" "[I" ∈ mU := lt_1 173 rfl rfl
theorem wt_207 : Cond.fieldLink "UnlikeLoaves$OfficeReader" 18 "UnlikeLoaves$OfficeReader" "scanner" "LUnlikeLoaves$Scanner;" ∈ mU := lt_1 207 rfl rfl
theorem wt_208 : Cond.fieldLink "UnlikeLoaves$OfficeReader" 22 "UnlikeLoaves$OfficeReader" "phrases" "LUnlikeLoaves$Phrases;" ∈ mU := lt_1 208 rfl rfl
theorem wt_209 : Cond.fieldLink "UnlikeLoaves$OfficeReader" 12 "UnlikeLoaves$OfficeReader" "draft" "LUnlikeLoaves$Rules;" ∈ mU := lt_1 209 rfl rfl
theorem wt_210 : Cond.fieldLink "UnlikeLoaves" 137 "UnlikeLoaves$OfficeReader" "draft" "LUnlikeLoaves$Rules;" ∈ mU := lt_1 210 rfl rfl
theorem wt_226 : Cond.constantLong "UnlikeLoaves$Finder" 37 (5354228880 : Int64) ∈ mU := lt_1 226 rfl rfl
theorem wt_227 : Cond.fieldLink "UnlikeLoaves$Finder" 33 "UnlikeLoaves$Finder" "rules" "LUnlikeLoaves$Rules;" ∈ mU := lt_1 227 rfl rfl
theorem wt_228 : Cond.fieldLink "UnlikeLoaves$Finder" 9 "UnlikeLoaves$Finder" "parts" "[J" ∈ mU := lt_1 228 rfl rfl
theorem wt_229 : Cond.fieldLink "UnlikeLoaves$Finder" 15 "UnlikeLoaves$Finder" "sets" "[I" ∈ mU := lt_1 229 rfl rfl
theorem wt_230 : Cond.fieldLink "UnlikeLoaves" 163 "UnlikeLoaves$Finder" "sets" "[I" ∈ mU := lt_1 230 rfl rfl
theorem wt_231 : Cond.fieldLink "UnlikeLoaves$Finder" 19 "UnlikeLoaves$Finder" "count" "I" ∈ mU := lt_1 231 rfl rfl
theorem wt_232 : Cond.fieldLink "UnlikeLoaves" 166 "UnlikeLoaves$Finder" "count" "I" ∈ mU := lt_1 232 rfl rfl
theorem wt_233 : Cond.fieldLink "UnlikeLoaves$Finder" 23 "UnlikeLoaves$Finder" "firstGoing" "I" ∈ mU := lt_1 233 rfl rfl
theorem wt_234 : Cond.fieldLink "UnlikeLoaves" 272 "UnlikeLoaves$Finder" "firstGoing" "I" ∈ mU := lt_1 234 rfl rfl
theorem wt_235 : Cond.fieldLink "UnlikeLoaves$Finder" 26 "UnlikeLoaves$Finder" "firstComing" "I" ∈ mU := lt_1 235 rfl rfl
theorem wt_236 : Cond.fieldLink "UnlikeLoaves" 275 "UnlikeLoaves$Finder" "firstComing" "I" ∈ mU := lt_1 236 rfl rfl
theorem wt_237 : Cond.fieldLink "UnlikeLoaves$Finder" 29 "UnlikeLoaves$Finder" "known" "J" ∈ mU := lt_1 237 rfl rfl
theorem wt_260 : Cond.fieldLink "UnlikeLoaves$State" 9 "UnlikeLoaves$State" "day" "I" ∈ mU := lt_2 20 rfl rfl
theorem wt_261 : Cond.fieldLink "UnlikeLoaves$Outlook" 55 "UnlikeLoaves$State" "day" "I" ∈ mU := lt_2 21 rfl rfl
theorem wt_262 : Cond.fieldLink "UnlikeLoaves$Course" 33 "UnlikeLoaves$State" "day" "I" ∈ mU := lt_2 22 rfl rfl
theorem wt_263 : Cond.fieldLink "UnlikeLoaves" 184 "UnlikeLoaves$State" "day" "I" ∈ mU := lt_2 23 rfl rfl
theorem wt_264 : Cond.fieldLink "UnlikeLoaves$State" 15 "UnlikeLoaves$State" "stock" "[I" ∈ mU := lt_2 24 rfl rfl
theorem wt_265 : Cond.fieldLink "UnlikeLoaves$Course" 43 "UnlikeLoaves$State" "stock" "[I" ∈ mU := lt_2 25 rfl rfl
theorem wt_266 : Cond.fieldLink "UnlikeLoaves$Outlook" 68 "UnlikeLoaves$State" "stock" "[I" ∈ mU := lt_2 26 rfl rfl
theorem wt_267 : Cond.fieldLink "UnlikeLoaves" 226 "UnlikeLoaves$State" "stock" "[I" ∈ mU := lt_2 27 rfl rfl
theorem wt_268 : Cond.fieldLink "UnlikeLoaves$State" 19 "UnlikeLoaves$State" "hunger" "[I" ∈ mU := lt_2 28 rfl rfl
theorem wt_269 : Cond.fieldLink "UnlikeLoaves$Course" 37 "UnlikeLoaves$State" "hunger" "[I" ∈ mU := lt_2 29 rfl rfl
theorem wt_270 : Cond.fieldLink "UnlikeLoaves" 207 "UnlikeLoaves$State" "hunger" "[I" ∈ mU := lt_2 30 rfl rfl
theorem wt_271 : Cond.fieldLink "UnlikeLoaves$State" 22 "UnlikeLoaves$State" "times" "[I" ∈ mU := lt_2 31 rfl rfl
theorem wt_272 : Cond.fieldLink "UnlikeLoaves" 210 "UnlikeLoaves$State" "times" "[I" ∈ mU := lt_2 32 rfl rfl
theorem wt_273 : Cond.fieldLink "UnlikeLoaves$State" 25 "UnlikeLoaves$State" "keptRows" "[I" ∈ mU := lt_2 33 rfl rfl
theorem wt_274 : Cond.fieldLink "UnlikeLoaves$State" 28 "UnlikeLoaves$State" "keptFirst" "I" ∈ mU := lt_2 34 rfl rfl
theorem wt_275 : Cond.fieldLink "UnlikeLoaves$State" 31 "UnlikeLoaves$State" "keptCount" "I" ∈ mU := lt_2 35 rfl rfl
theorem wt_276 : Cond.fieldLink "UnlikeLoaves" 196 "UnlikeLoaves$State" "keptCount" "I" ∈ mU := lt_2 36 rfl rfl
theorem wt_301 : Cond.fieldLink "UnlikeLoaves$History" 11 "UnlikeLoaves$History" "states" "[LUnlikeLoaves$State;" ∈ mU := lt_2 61 rfl rfl
theorem wt_302 : Cond.fieldLink "UnlikeLoaves$History" 15 "UnlikeLoaves$History" "first" "I" ∈ mU := lt_2 62 rfl rfl
theorem wt_303 : Cond.fieldLink "UnlikeLoaves$History" 19 "UnlikeLoaves$History" "count" "I" ∈ mU := lt_2 63 rfl rfl
theorem wt_304 : Cond.fieldLink "UnlikeLoaves" 199 "UnlikeLoaves$History" "count" "I" ∈ mU := lt_2 64 rfl rfl
theorem wt_318 : Cond.fieldLink "UnlikeLoaves$Course" 17 "UnlikeLoaves$Course" "rules" "LUnlikeLoaves$Rules;" ∈ mU := lt_2 78 rfl rfl
theorem wt_319 : Cond.fieldLink "UnlikeLoaves$Course" 11 "UnlikeLoaves$Course" "facts" "[I" ∈ mU := lt_2 79 rfl rfl
theorem wt_333 : Cond.fieldLink "UnlikeLoaves$Outlook" 44 "UnlikeLoaves$Outlook" "rules" "LUnlikeLoaves$Rules;" ∈ mU := lt_2 93 rfl rfl
theorem wt_334 : Cond.fieldLink "UnlikeLoaves$Outlook" 48 "UnlikeLoaves$Outlook" "course" "LUnlikeLoaves$Course;" ∈ mU := lt_2 94 rfl rfl
theorem wt_335 : Cond.fieldLink "UnlikeLoaves$Outlook" 52 "UnlikeLoaves$Outlook" "now" "LUnlikeLoaves$State;" ∈ mU := lt_2 95 rfl rfl
theorem wt_336 : Cond.fieldLink "UnlikeLoaves$Outlook" 12 "UnlikeLoaves$Outlook" "then" "LUnlikeLoaves$State;" ∈ mU := lt_2 96 rfl rfl
theorem wt_337 : Cond.fieldLink "UnlikeLoaves" 281 "UnlikeLoaves$Outlook" "then" "LUnlikeLoaves$State;" ∈ mU := lt_2 97 rfl rfl
theorem wt_338 : Cond.fieldLink "UnlikeLoaves$Outlook" 18 "UnlikeLoaves$Outlook" "cutRow" "[I" ∈ mU := lt_2 98 rfl rfl
theorem wt_339 : Cond.fieldLink "UnlikeLoaves" 294 "UnlikeLoaves$Outlook" "cutRow" "[I" ∈ mU := lt_2 99 rfl rfl
theorem wt_340 : Cond.fieldLink "UnlikeLoaves$Outlook" 22 "UnlikeLoaves$Outlook" "feastRow" "[I" ∈ mU := lt_2 100 rfl rfl
theorem wt_341 : Cond.fieldLink "UnlikeLoaves" 300 "UnlikeLoaves$Outlook" "feastRow" "[I" ∈ mU := lt_2 101 rfl rfl
theorem wt_342 : Cond.fieldLink "UnlikeLoaves$Outlook" 25 "UnlikeLoaves$Outlook" "seen" "[I" ∈ mU := lt_2 102 rfl rfl
theorem wt_343 : Cond.fieldLink "UnlikeLoaves$Outlook" 28 "UnlikeLoaves$Outlook" "seenCount" "I" ∈ mU := lt_2 103 rfl rfl
theorem wt_344 : Cond.fieldLink "UnlikeLoaves" 175 "UnlikeLoaves$Outlook" "seenCount" "I" ∈ mU := lt_2 104 rfl rfl
theorem wt_345 : Cond.fieldLink "UnlikeLoaves$Outlook" 32 "UnlikeLoaves$Outlook" "watched" "[I" ∈ mU := lt_2 105 rfl rfl
theorem wt_346 : Cond.fieldLink "UnlikeLoaves$Outlook" 35 "UnlikeLoaves$Outlook" "tellingDay" "I" ∈ mU := lt_2 106 rfl rfl
theorem wt_347 : Cond.fieldLink "UnlikeLoaves" 319 "UnlikeLoaves$Outlook" "tellingDay" "I" ∈ mU := lt_2 107 rfl rfl
theorem wt_348 : Cond.fieldLink "UnlikeLoaves$Outlook" 38 "UnlikeLoaves$Outlook" "tellingPerson" "I" ∈ mU := lt_2 108 rfl rfl
theorem wt_349 : Cond.fieldLink "UnlikeLoaves" 322 "UnlikeLoaves$Outlook" "tellingPerson" "I" ∈ mU := lt_2 109 rfl rfl
theorem wt_350 : Cond.fieldLink "UnlikeLoaves$Outlook" 41 "UnlikeLoaves$Outlook" "tellingLeft" "I" ∈ mU := lt_2 110 rfl rfl
theorem wt_351 : Cond.fieldLink "UnlikeLoaves" 316 "UnlikeLoaves$Outlook" "tellingLeft" "I" ∈ mU := lt_2 111 rfl rfl
theorem wt_379 : Cond.fieldLink "UnlikeLoaves" 7 "UnlikeLoaves" "refused" "[I" ∈ mU := lt_2 139 rfl rfl
theorem wt_380 : Cond.fieldLink "UnlikeLoaves" 16 "UnlikeLoaves" "tape" "LUnlikeLoaves$Tape;" ∈ mU := lt_2 140 rfl rfl
theorem wt_381 : Cond.fieldLink "UnlikeLoaves" 25 "UnlikeLoaves" "scanner" "LUnlikeLoaves$Scanner;" ∈ mU := lt_2 141 rfl rfl
theorem wt_382 : Cond.fieldLink "UnlikeLoaves" 34 "UnlikeLoaves" "phrases" "LUnlikeLoaves$Phrases;" ∈ mU := lt_2 142 rfl rfl
theorem wt_383 : Cond.fieldLink "UnlikeLoaves" 43 "UnlikeLoaves" "reader" "LUnlikeLoaves$OfficeReader;" ∈ mU := lt_2 143 rfl rfl
theorem wt_384 : Cond.fieldLink "UnlikeLoaves" 50 "UnlikeLoaves" "rules" "LUnlikeLoaves$Rules;" ∈ mU := lt_2 144 rfl rfl
theorem wt_385 : Cond.fieldLink "UnlikeLoaves" 59 "UnlikeLoaves" "finder" "LUnlikeLoaves$Finder;" ∈ mU := lt_2 145 rfl rfl
theorem wt_386 : Cond.fieldLink "UnlikeLoaves" 66 "UnlikeLoaves" "now" "LUnlikeLoaves$State;" ∈ mU := lt_2 146 rfl rfl
theorem wt_387 : Cond.fieldLink "UnlikeLoaves" 73 "UnlikeLoaves" "history" "LUnlikeLoaves$History;" ∈ mU := lt_2 147 rfl rfl
theorem wt_388 : Cond.fieldLink "UnlikeLoaves" 80 "UnlikeLoaves" "course" "LUnlikeLoaves$Course;" ∈ mU := lt_2 148 rfl rfl
theorem wt_389 : Cond.fieldLink "UnlikeLoaves" 89 "UnlikeLoaves" "outlook" "LUnlikeLoaves$Outlook;" ∈ mU := lt_2 149 rfl rfl
theorem wt_390 : Cond.fieldLink "UnlikeLoaves" 96 "UnlikeLoaves" "question" "LUnlikeLoaves$Formula;" ∈ mU := lt_2 150 rfl rfl
theorem wt_391 : Cond.fieldLink "UnlikeLoaves" 100 "UnlikeLoaves" "facts" "[I" ∈ mU := lt_2 151 rfl rfl
theorem wt_392 : Cond.fieldLink "UnlikeLoaves" 103 "UnlikeLoaves" "picture" "[I" ∈ mU := lt_2 152 rfl rfl
theorem wt_393 : Cond.fieldLink "UnlikeLoaves" 106 "UnlikeLoaves" "pictureLength" "I" ∈ mU := lt_2 153 rfl rfl
theorem wt_394 : Cond.fieldLink "UnlikeLoaves" 110 "UnlikeLoaves" "seed" "I" ∈ mU := lt_2 154 rfl rfl
theorem wt_395 : Cond.fieldLink "UnlikeLoaves" 113 "UnlikeLoaves" "faultKind" "I" ∈ mU := lt_2 155 rfl rfl
theorem wt_396 : Cond.fieldLink "UnlikeLoaves" 116 "UnlikeLoaves" "faultPlace" "I" ∈ mU := lt_2 156 rfl rfl
theorem wt_438 : Cond.methodLink "UnlikeLoaves" 122 yX11_refuse ∈ mU := lt_2 198 rfl rfl
theorem wt_440 : Cond.instanceMethod yX11_refuse ∈ mU := lt_2 200 rfl rfl
theorem wt_441 : Cond.code yX11_refuse cX11_refuse 2 (some .int) ∈ mU := lt_2 201 rfl rfl
theorem wt_442 : Cond.methodLink "UnlikeLoaves" 126 yX10_add ∈ mU := lt_2 202 rfl rfl
theorem wt_443 : Cond.instanceMethod yX10_add ∈ mU := lt_2 203 rfl rfl
theorem wt_444 : Cond.selects "UnlikeLoaves$Tape" yX10_add yX10_add ∈ mU := lt_2 204 rfl rfl
theorem wt_445 : Cond.code yX10_add cX10_add 3 none ∈ mU := lt_2 205 rfl rfl
theorem wt_454 : Cond.methodLink "UnlikeLoaves" 130 yX4_read ∈ mU := lt_2 214 rfl rfl
theorem wt_455 : Cond.instanceMethod yX4_read ∈ mU := lt_2 215 rfl rfl
theorem wt_456 : Cond.selects "UnlikeLoaves$OfficeReader" yX4_read yX4_read ∈ mU := lt_2 216 rfl rfl
theorem wt_457 : Cond.code yX4_read cX4_read 3 (some .int) ∈ mU := lt_2 217 rfl rfl
theorem wt_458 : Cond.methodLink "UnlikeLoaves$OfficeReader" 26 yX7_clear ∈ mU := lt_2 218 rfl rfl
theorem wt_459 : Cond.instanceMethod yX7_clear ∈ mU := lt_2 219 rfl rfl
theorem wt_460 : Cond.selects "UnlikeLoaves$Rules" yX7_clear yX7_clear ∈ mU := lt_2 220 rfl rfl
theorem wt_461 : Cond.code yX7_clear cX7_clear 2 none ∈ mU := lt_2 221 rfl rfl
theorem wt_462 : Cond.methodLink "UnlikeLoaves$Rules" 66 yX2_clear ∈ mU := lt_2 222 rfl rfl
theorem wt_463 : Cond.instanceMethod yX2_clear ∈ mU := lt_2 223 rfl rfl
theorem wt_464 : Cond.selects "UnlikeLoaves$Formula" yX2_clear yX2_clear ∈ mU := lt_2 224 rfl rfl
theorem wt_465 : Cond.code yX2_clear cX2_clear 1 none ∈ mU := lt_2 225 rfl rfl
theorem wt_466 : Cond.methodLink "UnlikeLoaves$Rules" 69 yX2_add ∈ mU := lt_2 226 rfl rfl
theorem wt_467 : Cond.instanceMethod yX2_add ∈ mU := lt_2 227 rfl rfl
theorem wt_468 : Cond.selects "UnlikeLoaves$Formula" yX2_add yX2_add ∈ mU := lt_2 228 rfl rfl
theorem wt_469 : Cond.code yX2_add cX2_add 3 none ∈ mU := lt_2 229 rfl rfl
theorem wt_470 : Cond.methodLink "UnlikeLoaves$OfficeReader" 29 yX8_begin ∈ mU := lt_2 230 rfl rfl
theorem wt_471 : Cond.instanceMethod yX8_begin ∈ mU := lt_2 231 rfl rfl
theorem wt_472 : Cond.selects "UnlikeLoaves$Scanner" yX8_begin yX8_begin ∈ mU := lt_2 232 rfl rfl
theorem wt_473 : Cond.code yX8_begin cX8_begin 1 none ∈ mU := lt_2 233 rfl rfl
theorem wt_474 : Cond.methodLink "UnlikeLoaves$Scanner" 31 yX8_advance ∈ mU := lt_2 234 rfl rfl
theorem wt_475 : Cond.instanceMethod yX8_advance ∈ mU := lt_2 235 rfl rfl
theorem wt_476 : Cond.selects "UnlikeLoaves$Scanner" yX8_advance yX8_advance ∈ mU := lt_2 236 rfl rfl
theorem wt_477 : Cond.code yX8_advance cX8_advance 6 none ∈ mU := lt_2 237 rfl rfl
theorem wt_478 : Cond.methodLink "UnlikeLoaves$OfficeReader" 38 yX8_fail ∈ mU := lt_2 238 rfl rfl
theorem wt_479 : Cond.instanceMethod yX8_fail ∈ mU := lt_2 239 rfl rfl
theorem wt_480 : Cond.selects "UnlikeLoaves$Scanner" yX8_fail yX8_fail ∈ mU := lt_3 0 rfl rfl
theorem wt_481 : Cond.code yX8_fail cX8_fail 2 (some .boolean) ∈ mU := lt_3 1 rfl rfl
theorem wt_482 : Cond.methodLink "UnlikeLoaves$OfficeReader" 42 yX4_statement ∈ mU := lt_3 2 rfl rfl
theorem wt_484 : Cond.instanceMethod yX4_statement ∈ mU := lt_3 4 rfl rfl
theorem wt_485 : Cond.code yX4_statement cX4_statement 3 (some .boolean) ∈ mU := lt_3 5 rfl rfl
theorem wt_487 : Cond.methodLink "UnlikeLoaves$OfficeReader" 52 yX8_isWord ∈ mU := lt_3 7 rfl rfl
theorem wt_488 : Cond.instanceMethod yX8_isWord ∈ mU := lt_3 8 rfl rfl
theorem wt_489 : Cond.selects "UnlikeLoaves$Scanner" yX8_isWord yX8_isWord ∈ mU := lt_3 9 rfl rfl
theorem wt_490 : Cond.code yX8_isWord cX8_isWord 3 (some .boolean) ∈ mU := lt_3 10 rfl rfl
theorem wt_491 : Cond.methodLink "UnlikeLoaves$Scanner" 43 yJ0_length_8abf5 ∈ mU := lt_3 11 rfl rfl
theorem wt_492 : Cond.instanceMethod yJ0_length_8abf5 ∈ mU := lt_3 12 rfl rfl
theorem wt_493 : Cond.selects "java/lang/String" yJ0_length_8abf5 yJ0_length_8abf5 ∈ mU := lt_3 13 rfl rfl
theorem wt_494 : Cond.code yJ0_length_8abf5 cJ0_length_8abf5 1 (some .int) ∈ mU := lt_3 14 rfl rfl
theorem wt_495 : Cond.methodLink "java/lang/String" 335 yJ0_coder_7d493 ∈ mU := lt_3 15 rfl rfl
theorem wt_496 : Cond.instanceMethod yJ0_coder_7d493 ∈ mU := lt_3 16 rfl rfl
theorem wt_497 : Cond.selects "java/lang/String" yJ0_coder_7d493 yJ0_coder_7d493 ∈ mU := lt_3 17 rfl rfl
theorem wt_498 : Cond.code yJ0_coder_7d493 cJ0_coder_7d493 1 (some .byte) ∈ mU := lt_3 18 rfl rfl
theorem wt_499 : Cond.fieldLink "java/lang/String" 38 "java/lang/String" "COMPACT_STRINGS" "Z" ∈ mU := lt_3 19 rfl rfl
theorem wt_501 : Cond.methodLink "UnlikeLoaves$Scanner" 49 yJ0_charAt_5068e ∈ mU := lt_3 21 rfl rfl
theorem wt_502 : Cond.instanceMethod yJ0_charAt_5068e ∈ mU := lt_3 22 rfl rfl
theorem wt_503 : Cond.selects "java/lang/String" yJ0_charAt_5068e yJ0_charAt_5068e ∈ mU := lt_3 23 rfl rfl
theorem wt_504 : Cond.code yJ0_charAt_5068e cJ0_charAt_5068e 2 (some .char) ∈ mU := lt_3 24 rfl rfl
theorem wt_505 : Cond.methodLink "java/lang/String" 492 yJ0_isLatin1_aae02 ∈ mU := lt_3 25 rfl rfl
theorem wt_506 : Cond.instanceMethod yJ0_isLatin1_aae02 ∈ mU := lt_3 26 rfl rfl
theorem wt_507 : Cond.selects "java/lang/String" yJ0_isLatin1_aae02 yJ0_isLatin1_aae02 ∈ mU := lt_3 27 rfl rfl
theorem wt_508 : Cond.code yJ0_isLatin1_aae02 cJ0_isLatin1_aae02 1 (some .boolean) ∈ mU := lt_3 28 rfl rfl
theorem wt_509 : Cond.methodLink "java/lang/String" 495 yJ1_charAt_3b067 ∈ mU := lt_3 29 rfl rfl
theorem wt_510 : Cond.static yJ1_charAt_3b067 ∈ mU := lt_3 30 rfl rfl
theorem wt_511 : Cond.code yJ1_charAt_3b067 cJ1_charAt_3b067 2 (some .char) ∈ mU := lt_3 31 rfl rfl
theorem wt_512 : Cond.methodLink "java/lang/StringLatin1" 9 yJ0_checkIndex_df160 ∈ mU := lt_3 32 rfl rfl
theorem wt_513 : Cond.static yJ0_checkIndex_df160 ∈ mU := lt_3 33 rfl rfl
theorem wt_514 : Cond.code yJ0_checkIndex_df160 cJ0_checkIndex_df160 2 none ∈ mU := lt_3 34 rfl rfl
theorem wt_515 : Cond.fieldLink "java/lang/String" 1053 "jdk/internal/util/Preconditions" "SIOOBE_FORMATTER" "Ljava/util/function/BiFunction;" ∈ mU := lt_3 35 rfl rfl
theorem wt_517 : Cond.methodLink "java/lang/String" 1059 yJ3_checkIndex_8e157 ∈ mU := lt_3 37 rfl rfl
theorem wt_518 : Cond.static yJ3_checkIndex_8e157 ∈ mU := lt_3 38 rfl rfl
theorem wt_519 : Cond.code yJ3_checkIndex_8e157 cJ3_checkIndex_8e157 3 (some .int) ∈ mU := lt_3 39 rfl rfl
theorem wt_539 : Cond.methodLink "UnlikeLoaves$OfficeReader" 56 yX4_numberBehind ∈ mU := lt_3 59 rfl rfl
theorem wt_541 : Cond.instanceMethod yX4_numberBehind ∈ mU := lt_3 61 rfl rfl
theorem wt_542 : Cond.code yX4_numberBehind cX4_numberBehind 3 (some .int) ∈ mU := lt_3 62 rfl rfl
theorem wt_543 : Cond.methodLink "UnlikeLoaves$OfficeReader" 117 yX8_advance ∈ mU := lt_3 63 rfl rfl
theorem wt_544 : Cond.methodLink "UnlikeLoaves$OfficeReader" 120 yX8_takeNumber ∈ mU := lt_3 64 rfl rfl
theorem wt_545 : Cond.instanceMethod yX8_takeNumber ∈ mU := lt_3 65 rfl rfl
theorem wt_546 : Cond.selects "UnlikeLoaves$Scanner" yX8_takeNumber yX8_takeNumber ∈ mU := lt_3 66 rfl rfl
theorem wt_547 : Cond.code yX8_takeNumber cX8_takeNumber 4 (some .int) ∈ mU := lt_3 67 rfl rfl
theorem wt_548 : Cond.methodLink "UnlikeLoaves$Scanner" 74 yX8_seeNumber ∈ mU := lt_3 68 rfl rfl
theorem wt_549 : Cond.instanceMethod yX8_seeNumber ∈ mU := lt_3 69 rfl rfl
theorem wt_550 : Cond.selects "UnlikeLoaves$Scanner" yX8_seeNumber yX8_seeNumber ∈ mU := lt_3 70 rfl rfl
theorem wt_551 : Cond.code yX8_seeNumber cX8_seeNumber 3 (some .int) ∈ mU := lt_3 71 rfl rfl
theorem wt_552 : Cond.methodLink "UnlikeLoaves$Scanner" 63 yX8_fail ∈ mU := lt_3 72 rfl rfl
theorem wt_553 : Cond.methodLink "UnlikeLoaves$Scanner" 70 yX8_failAt ∈ mU := lt_3 73 rfl rfl
theorem wt_554 : Cond.instanceMethod yX8_failAt ∈ mU := lt_3 74 rfl rfl
theorem wt_555 : Cond.selects "UnlikeLoaves$Scanner" yX8_failAt yX8_failAt ∈ mU := lt_3 75 rfl rfl
theorem wt_556 : Cond.code yX8_failAt cX8_failAt 3 none ∈ mU := lt_3 76 rfl rfl
theorem wt_557 : Cond.methodLink "UnlikeLoaves$OfficeReader" 60 yX4_failed ∈ mU := lt_3 77 rfl rfl
theorem wt_559 : Cond.instanceMethod yX4_failed ∈ mU := lt_3 79 rfl rfl
theorem wt_560 : Cond.code yX4_failed cX4_failed 1 (some .int) ∈ mU := lt_3 80 rfl rfl
theorem wt_565 : Cond.methodLink "UnlikeLoaves$OfficeReader" 80 yX4_addPerson ∈ mU := lt_3 85 rfl rfl
theorem wt_567 : Cond.instanceMethod yX4_addPerson ∈ mU := lt_3 87 rfl rfl
theorem wt_568 : Cond.code yX4_addPerson cX4_addPerson 5 (some .boolean) ∈ mU := lt_3 88 rfl rfl
theorem wt_569 : Cond.methodLink "UnlikeLoaves$OfficeReader" 126 yX8_seeName ∈ mU := lt_3 89 rfl rfl
theorem wt_570 : Cond.instanceMethod yX8_seeName ∈ mU := lt_3 90 rfl rfl
theorem wt_571 : Cond.selects "UnlikeLoaves$Scanner" yX8_seeName yX8_seeName ∈ mU := lt_3 91 rfl rfl
theorem wt_572 : Cond.code yX8_seeName cX8_seeName 3 (some .int) ∈ mU := lt_3 92 rfl rfl
theorem wt_573 : Cond.methodLink "UnlikeLoaves$Scanner" 77 yX8_isOwnWord ∈ mU := lt_3 93 rfl rfl
theorem wt_575 : Cond.instanceMethod yX8_isOwnWord ∈ mU := lt_3 95 rfl rfl
theorem wt_576 : Cond.code yX8_isOwnWord cX8_isOwnWord 3 (some .boolean) ∈ mU := lt_3 96 rfl rfl
theorem wt_578 : Cond.methodLink "UnlikeLoaves$Scanner" 55 yX8_isOwnWordFrom ∈ mU := lt_3 98 rfl rfl
theorem wt_580 : Cond.instanceMethod yX8_isOwnWordFrom ∈ mU := lt_3 100 rfl rfl
theorem wt_581 : Cond.code yX8_isOwnWordFrom cX8_isOwnWordFrom 3 (some .boolean) ∈ mU := lt_3 101 rfl rfl
theorem wt_582 : Cond.methodLink "UnlikeLoaves$OfficeReader" 129 yX7_hasName ∈ mU := lt_3 102 rfl rfl
theorem wt_583 : Cond.instanceMethod yX7_hasName ∈ mU := lt_3 103 rfl rfl
theorem wt_584 : Cond.selects "UnlikeLoaves$Rules" yX7_hasName yX7_hasName ∈ mU := lt_3 104 rfl rfl
theorem wt_585 : Cond.code yX7_hasName cX7_hasName 3 (some .boolean) ∈ mU := lt_3 105 rfl rfl
theorem wt_589 : Cond.methodLink "UnlikeLoaves$OfficeReader" 86 yX4_addPieces ∈ mU := lt_3 109 rfl rfl
theorem wt_591 : Cond.instanceMethod yX4_addPieces ∈ mU := lt_3 111 rfl rfl
theorem wt_592 : Cond.code yX4_addPieces cX4_addPieces 3 (some .boolean) ∈ mU := lt_3 112 rfl rfl
theorem wt_594 : Cond.methodLink "UnlikeLoaves$OfficeReader" 148 yX8_takeWord ∈ mU := lt_3 114 rfl rfl
theorem wt_595 : Cond.instanceMethod yX8_takeWord ∈ mU := lt_3 115 rfl rfl
theorem wt_596 : Cond.selects "UnlikeLoaves$Scanner" yX8_takeWord yX8_takeWord ∈ mU := lt_3 116 rfl rfl
theorem wt_597 : Cond.code yX8_takeWord cX8_takeWord 2 (some .boolean) ∈ mU := lt_3 117 rfl rfl
theorem wt_598 : Cond.methodLink "UnlikeLoaves$Scanner" 66 yX8_isWord ∈ mU := lt_3 118 rfl rfl
theorem wt_599 : Cond.methodLink "UnlikeLoaves$OfficeReader" 151 yX8_seeNumber ∈ mU := lt_3 119 rfl rfl
theorem wt_601 : Cond.methodLink "UnlikeLoaves$OfficeReader" 95 yX4_beginsOnce ∈ mU := lt_3 121 rfl rfl
theorem wt_603 : Cond.instanceMethod yX4_beginsOnce ∈ mU := lt_3 123 rfl rfl
theorem wt_604 : Cond.code yX4_beginsOnce cX4_beginsOnce 2 (some .boolean) ∈ mU := lt_3 124 rfl rfl
theorem wt_605 : Cond.methodLink "UnlikeLoaves$OfficeReader" 103 yX6_readSum ∈ mU := lt_3 125 rfl rfl
theorem wt_606 : Cond.instanceMethod yX6_readSum ∈ mU := lt_3 126 rfl rfl
theorem wt_607 : Cond.selects "UnlikeLoaves$Phrases" yX6_readSum yX6_readSum ∈ mU := lt_3 127 rfl rfl
theorem wt_608 : Cond.code yX6_readSum cX6_readSum 3 (some .boolean) ∈ mU := lt_3 128 rfl rfl
theorem wt_609 : Cond.methodLink "UnlikeLoaves$Phrases" 23 yX2_clear ∈ mU := lt_3 129 rfl rfl
theorem wt_610 : Cond.methodLink "UnlikeLoaves$Phrases" 28 yX6_sum ∈ mU := lt_3 130 rfl rfl
theorem wt_612 : Cond.instanceMethod yX6_sum ∈ mU := lt_3 132 rfl rfl
theorem wt_613 : Cond.code yX6_sum cX6_sum 4 (some .boolean) ∈ mU := lt_3 133 rfl rfl
theorem wt_614 : Cond.methodLink "UnlikeLoaves$Phrases" 114 yX6_product ∈ mU := lt_3 134 rfl rfl
theorem wt_616 : Cond.instanceMethod yX6_product ∈ mU := lt_3 136 rfl rfl
theorem wt_617 : Cond.code yX6_product cX6_product 4 (some .boolean) ∈ mU := lt_3 137 rfl rfl
theorem wt_618 : Cond.methodLink "UnlikeLoaves$Phrases" 117 yX6_part ∈ mU := lt_3 138 rfl rfl
theorem wt_620 : Cond.instanceMethod yX6_part ∈ mU := lt_3 140 rfl rfl
theorem wt_621 : Cond.code yX6_part cX6_part 3 (some .boolean) ∈ mU := lt_3 141 rfl rfl
theorem wt_622 : Cond.methodLink "UnlikeLoaves$Phrases" 120 yX8_seeNumber ∈ mU := lt_3 142 rfl rfl
theorem wt_623 : Cond.methodLink "UnlikeLoaves$Phrases" 47 yX8_advance ∈ mU := lt_3 143 rfl rfl
theorem wt_624 : Cond.methodLink "UnlikeLoaves$Phrases" 107 yX6_putWith ∈ mU := lt_3 144 rfl rfl
theorem wt_626 : Cond.instanceMethod yX6_putWith ∈ mU := lt_3 146 rfl rfl
theorem wt_627 : Cond.code yX6_putWith cX6_putWith 3 (some .boolean) ∈ mU := lt_3 147 rfl rfl
theorem wt_628 : Cond.methodLink "UnlikeLoaves$Phrases" 76 yX2_add ∈ mU := lt_3 148 rfl rfl
theorem wt_629 : Cond.methodLink "UnlikeLoaves$Phrases" 98 yX8_isSign ∈ mU := lt_3 149 rfl rfl
theorem wt_630 : Cond.instanceMethod yX8_isSign ∈ mU := lt_3 150 rfl rfl
theorem wt_631 : Cond.selects "UnlikeLoaves$Scanner" yX8_isSign yX8_isSign ∈ mU := lt_3 151 rfl rfl
theorem wt_632 : Cond.code yX8_isSign cX8_isSign 2 (some .boolean) ∈ mU := lt_3 152 rfl rfl
theorem wt_633 : Cond.methodLink "UnlikeLoaves$Phrases" 95 yX6_opens ∈ mU := lt_3 153 rfl rfl
theorem wt_635 : Cond.instanceMethod yX6_opens ∈ mU := lt_3 155 rfl rfl
theorem wt_636 : Cond.code yX6_opens cX6_opens 2 (some .boolean) ∈ mU := lt_3 156 rfl rfl
theorem wt_637 : Cond.methodLink "UnlikeLoaves$Phrases" 44 yX8_fail ∈ mU := lt_3 157 rfl rfl
theorem wt_638 : Cond.methodLink "UnlikeLoaves$Phrases" 102 yX8_takeSign ∈ mU := lt_3 158 rfl rfl
theorem wt_639 : Cond.instanceMethod yX8_takeSign ∈ mU := lt_3 159 rfl rfl
theorem wt_640 : Cond.selects "UnlikeLoaves$Scanner" yX8_takeSign yX8_takeSign ∈ mU := lt_3 160 rfl rfl
theorem wt_641 : Cond.code yX8_takeSign cX8_takeSign 2 (some .boolean) ∈ mU := lt_3 161 rfl rfl
theorem wt_642 : Cond.methodLink "UnlikeLoaves$Scanner" 59 yX8_isSign ∈ mU := lt_3 162 rfl rfl
theorem wt_644 : Cond.methodLink "UnlikeLoaves$Phrases" 62 yX8_isWord ∈ mU := lt_3 164 rfl rfl
theorem wt_645 : Cond.methodLink "UnlikeLoaves$Phrases" 125 yX6_pair ∈ mU := lt_3 165 rfl rfl
theorem wt_647 : Cond.instanceMethod yX6_pair ∈ mU := lt_3 167 rfl rfl
theorem wt_648 : Cond.code yX6_pair cX6_pair 3 (some .boolean) ∈ mU := lt_3 168 rfl rfl
theorem wt_649 : Cond.methodLink "UnlikeLoaves$Phrases" 85 yX6_put ∈ mU := lt_3 169 rfl rfl
theorem wt_651 : Cond.instanceMethod yX6_put ∈ mU := lt_3 171 rfl rfl
theorem wt_652 : Cond.code yX6_put cX6_put 2 (some .boolean) ∈ mU := lt_3 172 rfl rfl
theorem wt_656 : Cond.methodLink "UnlikeLoaves$Phrases" 134 yX6_factOfPerson ∈ mU := lt_3 176 rfl rfl
theorem wt_658 : Cond.instanceMethod yX6_factOfPerson ∈ mU := lt_3 178 rfl rfl
theorem wt_659 : Cond.code yX6_factOfPerson cX6_factOfPerson 1 (some .int) ∈ mU := lt_3 179 rfl rfl
theorem wt_667 : Cond.methodLink "UnlikeLoaves$Phrases" 137 yX6_factOfPart ∈ mU := lt_3 187 rfl rfl
theorem wt_669 : Cond.instanceMethod yX6_factOfPart ∈ mU := lt_3 189 rfl rfl
theorem wt_670 : Cond.code yX6_factOfPart cX6_factOfPart 1 (some .int) ∈ mU := lt_3 190 rfl rfl
theorem wt_674 : Cond.methodLink "UnlikeLoaves$OfficeReader" 114 yX6_readTest ∈ mU := lt_3 194 rfl rfl
theorem wt_675 : Cond.instanceMethod yX6_readTest ∈ mU := lt_3 195 rfl rfl
theorem wt_676 : Cond.selects "UnlikeLoaves$Phrases" yX6_readTest yX6_readTest ∈ mU := lt_3 196 rfl rfl
theorem wt_677 : Cond.code yX6_readTest cX6_readTest 3 (some .boolean) ∈ mU := lt_3 197 rfl rfl
theorem wt_678 : Cond.methodLink "UnlikeLoaves$Phrases" 32 yX6_test ∈ mU := lt_3 198 rfl rfl
theorem wt_680 : Cond.instanceMethod yX6_test ∈ mU := lt_3 200 rfl rfl
theorem wt_681 : Cond.code yX6_test cX6_test 3 (some .boolean) ∈ mU := lt_3 201 rfl rfl
theorem wt_682 : Cond.methodLink "UnlikeLoaves$Phrases" 80 yX6_both ∈ mU := lt_3 202 rfl rfl
theorem wt_684 : Cond.instanceMethod yX6_both ∈ mU := lt_3 204 rfl rfl
theorem wt_685 : Cond.code yX6_both cX6_both 3 (some .boolean) ∈ mU := lt_3 205 rfl rfl
theorem wt_686 : Cond.methodLink "UnlikeLoaves$Phrases" 88 yX6_fact ∈ mU := lt_3 206 rfl rfl
theorem wt_688 : Cond.instanceMethod yX6_fact ∈ mU := lt_3 208 rfl rfl
theorem wt_689 : Cond.code yX6_fact cX6_fact 3 (some .boolean) ∈ mU := lt_3 209 rfl rfl
theorem wt_692 : Cond.methodLink "UnlikeLoaves$Phrases" 111 yX6_comparisonHere ∈ mU := lt_3 212 rfl rfl
theorem wt_694 : Cond.instanceMethod yX6_comparisonHere ∈ mU := lt_3 214 rfl rfl
theorem wt_695 : Cond.code yX6_comparisonHere cX6_comparisonHere 1 (some .int) ∈ mU := lt_3 215 rfl rfl
theorem wt_698 : Cond.methodLink "UnlikeLoaves$OfficeReader" 46 yX8_takeSign ∈ mU := lt_3 218 rfl rfl
theorem wt_699 : Cond.methodLink "UnlikeLoaves" 134 yX11_keepFault ∈ mU := lt_3 219 rfl rfl
theorem wt_701 : Cond.instanceMethod yX11_keepFault ∈ mU := lt_3 221 rfl rfl
theorem wt_702 : Cond.code yX11_keepFault cX11_keepFault 1 none ∈ mU := lt_3 222 rfl rfl
theorem wt_703 : Cond.methodLink "UnlikeLoaves" 140 yX7_take ∈ mU := lt_3 223 rfl rfl
theorem wt_704 : Cond.instanceMethod yX7_take ∈ mU := lt_3 224 rfl rfl
theorem wt_705 : Cond.selects "UnlikeLoaves$Rules" yX7_take yX7_take ∈ mU := lt_3 225 rfl rfl
theorem wt_706 : Cond.code yX7_take cX7_take 2 none ∈ mU := lt_3 226 rfl rfl
theorem wt_707 : Cond.methodLink "UnlikeLoaves$Rules" 73 arraycopyName ∈ mU := lt_3 227 rfl rfl
theorem wt_708 : Cond.static arraycopyName ∈ mU := lt_3 228 rfl rfl
theorem wt_709 : Cond.native arraycopyName ∈ mU := lt_3 229 rfl rfl
theorem wt_710 : Cond.methodLink "UnlikeLoaves$Rules" 79 yX2_take ∈ mU := lt_3 230 rfl rfl
theorem wt_711 : Cond.instanceMethod yX2_take ∈ mU := lt_3 231 rfl rfl
theorem wt_712 : Cond.selects "UnlikeLoaves$Formula" yX2_take yX2_take ∈ mU := lt_3 232 rfl rfl
theorem wt_713 : Cond.code yX2_take cX2_take 2 none ∈ mU := lt_3 233 rfl rfl
theorem wt_714 : Cond.methodLink "UnlikeLoaves$Formula" 22 arraycopyName ∈ mU := lt_3 234 rfl rfl
theorem wt_715 : Cond.methodLink "UnlikeLoaves" 143 yX1_forget ∈ mU := lt_3 235 rfl rfl
theorem wt_716 : Cond.instanceMethod yX1_forget ∈ mU := lt_3 236 rfl rfl
theorem wt_717 : Cond.selects "UnlikeLoaves$Finder" yX1_forget yX1_forget ∈ mU := lt_3 237 rfl rfl
theorem wt_718 : Cond.code yX1_forget cX1_forget 1 none ∈ mU := lt_3 238 rfl rfl
theorem wt_719 : Cond.methodLink "UnlikeLoaves" 155 yX1_units ∈ mU := lt_3 239 rfl rfl
theorem wt_720 : Cond.instanceMethod yX1_units ∈ mU := lt_4 0 rfl rfl
theorem wt_721 : Cond.selects "UnlikeLoaves$Finder" yX1_units yX1_units ∈ mU := lt_4 1 rfl rfl
theorem wt_722 : Cond.code yX1_units cX1_units 3 (some .long) ∈ mU := lt_4 2 rfl rfl
theorem wt_723 : Cond.methodLink "UnlikeLoaves" 159 yX1_find ∈ mU := lt_4 3 rfl rfl
theorem wt_724 : Cond.instanceMethod yX1_find ∈ mU := lt_4 4 rfl rfl
theorem wt_725 : Cond.selects "UnlikeLoaves$Finder" yX1_find yX1_find ∈ mU := lt_4 5 rfl rfl
theorem wt_726 : Cond.code yX1_find cX1_find 3 (some .int) ∈ mU := lt_4 6 rfl rfl
theorem wt_727 : Cond.methodLink "UnlikeLoaves$Finder" 54 yX1_search ∈ mU := lt_4 7 rfl rfl
theorem wt_729 : Cond.instanceMethod yX1_search ∈ mU := lt_4 9 rfl rfl
theorem wt_730 : Cond.code yX1_search cX1_search 8 none ∈ mU := lt_4 10 rfl rfl
theorem wt_731 : Cond.methodLink "UnlikeLoaves$Finder" 61 yX1_keepSet ∈ mU := lt_4 11 rfl rfl
theorem wt_733 : Cond.instanceMethod yX1_keepSet ∈ mU := lt_4 13 rfl rfl
theorem wt_734 : Cond.code yX1_keepSet cX1_keepSet 2 none ∈ mU := lt_4 14 rfl rfl
theorem wt_735 : Cond.methodLink "UnlikeLoaves" 167 yX7_tellWays ∈ mU := lt_4 15 rfl rfl
theorem wt_736 : Cond.instanceMethod yX7_tellWays ∈ mU := lt_4 16 rfl rfl
theorem wt_737 : Cond.selects "UnlikeLoaves$Rules" yX7_tellWays yX7_tellWays ∈ mU := lt_4 17 rfl rfl
theorem wt_738 : Cond.code yX7_tellWays cX7_tellWays 5 none ∈ mU := lt_4 18 rfl rfl
theorem wt_739 : Cond.methodLink "UnlikeLoaves" 171 yX9_begin ∈ mU := lt_4 19 rfl rfl
theorem wt_740 : Cond.instanceMethod yX9_begin ∈ mU := lt_4 20 rfl rfl
theorem wt_741 : Cond.selects "UnlikeLoaves$State" yX9_begin yX9_begin ∈ mU := lt_4 21 rfl rfl
theorem wt_742 : Cond.code yX9_begin cX9_begin 3 none ∈ mU := lt_4 22 rfl rfl
theorem wt_743 : Cond.methodLink "UnlikeLoaves$State" 39 arraycopyName ∈ mU := lt_4 23 rfl rfl
theorem wt_744 : Cond.methodLink "UnlikeLoaves$State" 45 yX9_forgetKept ∈ mU := lt_4 24 rfl rfl
theorem wt_745 : Cond.instanceMethod yX9_forgetKept ∈ mU := lt_4 25 rfl rfl
theorem wt_746 : Cond.selects "UnlikeLoaves$State" yX9_forgetKept yX9_forgetKept ∈ mU := lt_4 26 rfl rfl
theorem wt_747 : Cond.code yX9_forgetKept cX9_forgetKept 1 none ∈ mU := lt_4 27 rfl rfl
theorem wt_748 : Cond.methodLink "UnlikeLoaves" 174 yX3_forget ∈ mU := lt_4 28 rfl rfl
theorem wt_749 : Cond.instanceMethod yX3_forget ∈ mU := lt_4 29 rfl rfl
theorem wt_750 : Cond.selects "UnlikeLoaves$History" yX3_forget yX3_forget ∈ mU := lt_4 30 rfl rfl
theorem wt_751 : Cond.code yX3_forget cX3_forget 1 none ∈ mU := lt_4 31 rfl rfl
theorem wt_761 : Cond.methodLink "UnlikeLoaves" 187 yX9_allPieces ∈ mU := lt_4 41 rfl rfl
theorem wt_762 : Cond.instanceMethod yX9_allPieces ∈ mU := lt_4 42 rfl rfl
theorem wt_763 : Cond.selects "UnlikeLoaves$State" yX9_allPieces yX9_allPieces ∈ mU := lt_4 43 rfl rfl
theorem wt_764 : Cond.code yX9_allPieces cX9_allPieces 1 (some .int) ∈ mU := lt_4 44 rfl rfl
theorem wt_765 : Cond.methodLink "UnlikeLoaves$State" 67 yX9_sumOfRow ∈ mU := lt_4 45 rfl rfl
theorem wt_766 : Cond.static yX9_sumOfRow ∈ mU := lt_4 46 rfl rfl
theorem wt_767 : Cond.code yX9_sumOfRow cX9_sumOfRow 6 (some .int) ∈ mU := lt_4 47 rfl rfl
theorem wt_768 : Cond.methodLink "UnlikeLoaves" 190 yX9_hungry ∈ mU := lt_4 48 rfl rfl
theorem wt_769 : Cond.instanceMethod yX9_hungry ∈ mU := lt_4 49 rfl rfl
theorem wt_770 : Cond.selects "UnlikeLoaves$State" yX9_hungry yX9_hungry ∈ mU := lt_4 50 rfl rfl
theorem wt_771 : Cond.code yX9_hungry cX9_hungry 6 (some .int) ∈ mU := lt_4 51 rfl rfl
theorem wt_772 : Cond.methodLink "UnlikeLoaves" 193 yX9_allTimes ∈ mU := lt_4 52 rfl rfl
theorem wt_773 : Cond.instanceMethod yX9_allTimes ∈ mU := lt_4 53 rfl rfl
theorem wt_774 : Cond.selects "UnlikeLoaves$State" yX9_allTimes yX9_allTimes ∈ mU := lt_4 54 rfl rfl
theorem wt_775 : Cond.code yX9_allTimes cX9_allTimes 1 (some .int) ∈ mU := lt_4 55 rfl rfl
theorem wt_780 : Cond.methodLink "UnlikeLoaves" 200 yX11_isPerson ∈ mU := lt_4 60 rfl rfl
theorem wt_782 : Cond.instanceMethod yX11_isPerson ∈ mU := lt_4 62 rfl rfl
theorem wt_783 : Cond.code yX11_isPerson cX11_isPerson 2 (some .boolean) ∈ mU := lt_4 63 rfl rfl
theorem wt_788 : Cond.methodLink "UnlikeLoaves" 216 yX0_choose ∈ mU := lt_4 68 rfl rfl
theorem wt_789 : Cond.instanceMethod yX0_choose ∈ mU := lt_4 69 rfl rfl
theorem wt_790 : Cond.selects "UnlikeLoaves$Course" yX0_choose yX0_choose ∈ mU := lt_4 70 rfl rfl
theorem wt_791 : Cond.code yX0_choose cX0_choose 6 (some .int) ∈ mU := lt_4 71 rfl rfl
theorem wt_792 : Cond.methodLink "UnlikeLoaves$Course" 21 yX9_inStock ∈ mU := lt_4 72 rfl rfl
theorem wt_793 : Cond.instanceMethod yX9_inStock ∈ mU := lt_4 73 rfl rfl
theorem wt_794 : Cond.selects "UnlikeLoaves$State" yX9_inStock yX9_inStock ∈ mU := lt_4 74 rfl rfl
theorem wt_795 : Cond.code yX9_inStock cX9_inStock 3 (some .int) ∈ mU := lt_4 75 rfl rfl
theorem wt_796 : Cond.methodLink "UnlikeLoaves$Course" 27 yX7_sizesOfWaysWithin ∈ mU := lt_4 76 rfl rfl
theorem wt_797 : Cond.instanceMethod yX7_sizesOfWaysWithin ∈ mU := lt_4 77 rfl rfl
theorem wt_798 : Cond.selects "UnlikeLoaves$Rules" yX7_sizesOfWaysWithin yX7_sizesOfWaysWithin ∈ mU := lt_4 78 rfl rfl
theorem wt_799 : Cond.code yX7_sizesOfWaysWithin cX7_sizesOfWaysWithin 6 (some .int) ∈ mU := lt_4 79 rfl rfl
theorem wt_800 : Cond.methodLink "UnlikeLoaves$Rules" 83 yX7_wayOf ∈ mU := lt_4 80 rfl rfl
theorem wt_801 : Cond.instanceMethod yX7_wayOf ∈ mU := lt_4 81 rfl rfl
theorem wt_802 : Cond.selects "UnlikeLoaves$Rules" yX7_wayOf yX7_wayOf ∈ mU := lt_4 82 rfl rfl
theorem wt_803 : Cond.code yX7_wayOf cX7_wayOf 3 (some .int) ∈ mU := lt_4 83 rfl rfl
theorem wt_804 : Cond.methodLink "UnlikeLoaves$Course" 50 yX2_reckon ∈ mU := lt_4 84 rfl rfl
theorem wt_805 : Cond.instanceMethod yX2_reckon ∈ mU := lt_4 85 rfl rfl
theorem wt_806 : Cond.selects "UnlikeLoaves$Formula" yX2_reckon yX2_reckon ∈ mU := lt_4 86 rfl rfl
theorem wt_807 : Cond.code yX2_reckon cX2_reckon 6 (some .int) ∈ mU := lt_4 87 rfl rfl
theorem wt_808 : Cond.methodLink "UnlikeLoaves$Formula" 28 yX2_factAt ∈ mU := lt_4 88 rfl rfl
theorem wt_809 : Cond.static yX2_factAt ∈ mU := lt_4 89 rfl rfl
theorem wt_810 : Cond.code yX2_factAt cX2_factAt 2 (some .int) ∈ mU := lt_4 90 rfl rfl
theorem wt_811 : Cond.methodLink "UnlikeLoaves$Formula" 32 yX2_turn ∈ mU := lt_4 91 rfl rfl
theorem wt_812 : Cond.static yX2_turn ∈ mU := lt_4 92 rfl rfl
theorem wt_813 : Cond.code yX2_turn cX2_turn 3 (some .int) ∈ mU := lt_4 93 rfl rfl
theorem wt_814 : Cond.methodLink "UnlikeLoaves$Formula" 36 yX2_join ∈ mU := lt_4 94 rfl rfl
theorem wt_815 : Cond.static yX2_join ∈ mU := lt_4 95 rfl rfl
theorem wt_816 : Cond.code yX2_join cX2_join 3 (some .int) ∈ mU := lt_4 96 rfl rfl
theorem wt_817 : Cond.methodLink "UnlikeLoaves$Formula" 40 yX2_hold ∈ mU := lt_4 97 rfl rfl
theorem wt_818 : Cond.static yX2_hold ∈ mU := lt_4 98 rfl rfl
theorem wt_819 : Cond.code yX2_hold cX2_hold 2 (some .int) ∈ mU := lt_4 99 rfl rfl
theorem wt_820 : Cond.constantLong "UnlikeLoaves$Formula" 56 (1000000 : Int64) ∈ mU := lt_4 100 rfl rfl
theorem wt_821 : Cond.constant "UnlikeLoaves$Formula" 58 (1000000 : Int32) ∈ mU := lt_4 101 rfl rfl
theorem wt_822 : Cond.constantLong "UnlikeLoaves$Formula" 59 (-1000000 : Int64) ∈ mU := lt_4 102 rfl rfl
theorem wt_823 : Cond.constant "UnlikeLoaves$Formula" 61 (-1000000 : Int32) ∈ mU := lt_4 103 rfl rfl
theorem wt_824 : Cond.methodLink "UnlikeLoaves$Formula" 44 yJ9_floorDiv_7cf53 ∈ mU := lt_4 104 rfl rfl
theorem wt_825 : Cond.static yJ9_floorDiv_7cf53 ∈ mU := lt_4 105 rfl rfl
theorem wt_826 : Cond.code yJ9_floorDiv_7cf53 cJ9_floorDiv_7cf53 3 (some .int) ∈ mU := lt_4 106 rfl rfl
theorem wt_827 : Cond.methodLink "UnlikeLoaves$Formula" 50 Lib.Math.min.name ∈ mU := lt_4 107 rfl rfl
theorem wt_828 : Cond.static Lib.Math.min.name ∈ mU := lt_4 108 rfl rfl
theorem wt_829 : Cond.code Lib.Math.min.name Lib.Math.min.code 2 (some .int) ∈ mU := lt_4 109 rfl rfl
theorem wt_830 : Cond.methodLink "UnlikeLoaves$Formula" 53 Lib.Math.max.name ∈ mU := lt_4 110 rfl rfl
theorem wt_831 : Cond.static Lib.Math.max.name ∈ mU := lt_4 111 rfl rfl
theorem wt_832 : Cond.code Lib.Math.max.name Lib.Math.max.code 2 (some .int) ∈ mU := lt_4 112 rfl rfl
theorem wt_833 : Cond.methodLink "UnlikeLoaves$Course" 54 yX7_firstWayWithin ∈ mU := lt_4 113 rfl rfl
theorem wt_834 : Cond.instanceMethod yX7_firstWayWithin ∈ mU := lt_4 114 rfl rfl
theorem wt_835 : Cond.selects "UnlikeLoaves$Rules" yX7_firstWayWithin yX7_firstWayWithin ∈ mU := lt_4 115 rfl rfl
theorem wt_836 : Cond.code yX7_firstWayWithin cX7_firstWayWithin 5 (some .int) ∈ mU := lt_4 116 rfl rfl
theorem wt_837 : Cond.methodLink "UnlikeLoaves" 220 yX11_setOrNone ∈ mU := lt_4 117 rfl rfl
theorem wt_838 : Cond.static yX11_setOrNone ∈ mU := lt_4 118 rfl rfl
theorem wt_839 : Cond.code yX11_setOrNone cX11_setOrNone 1 (some .int) ∈ mU := lt_4 119 rfl rfl
theorem wt_844 : Cond.methodLink "UnlikeLoaves" 223 yX11_isSize ∈ mU := lt_4 124 rfl rfl
theorem wt_846 : Cond.instanceMethod yX11_isSize ∈ mU := lt_4 126 rfl rfl
theorem wt_847 : Cond.code yX11_isSize cX11_isSize 2 (some .boolean) ∈ mU := lt_4 127 rfl rfl
theorem wt_852 : Cond.methodLink "UnlikeLoaves" 229 yX9_keptAt ∈ mU := lt_4 132 rfl rfl
theorem wt_853 : Cond.instanceMethod yX9_keptAt ∈ mU := lt_4 133 rfl rfl
theorem wt_854 : Cond.selects "UnlikeLoaves$State" yX9_keptAt yX9_keptAt ∈ mU := lt_4 134 rfl rfl
theorem wt_855 : Cond.code yX9_keptAt cX9_keptAt 3 (some .int) ∈ mU := lt_4 135 rfl rfl
theorem wt_857 : Cond.instanceMethod yX11_writings ∈ mU := lt_4 137 rfl rfl
theorem wt_858 : Cond.selects "UnlikeLoaves" yX11_writings yX11_writings ∈ mU := lt_4 138 rfl rfl
theorem wt_859 : Cond.code yX11_writings cX11_writings 3 (some .int) ∈ mU := lt_4 139 rfl rfl
theorem wt_860 : Cond.methodLink "UnlikeLoaves" 233 yX11_isShare ∈ mU := lt_4 140 rfl rfl
theorem wt_862 : Cond.instanceMethod yX11_isShare ∈ mU := lt_4 142 rfl rfl
theorem wt_863 : Cond.code yX11_isShare cX11_isShare 3 (some .boolean) ∈ mU := lt_4 143 rfl rfl
theorem wt_864 : Cond.methodLink "UnlikeLoaves" 287 yX11_hasOffice ∈ mU := lt_4 144 rfl rfl
theorem wt_866 : Cond.instanceMethod yX11_hasOffice ∈ mU := lt_4 146 rfl rfl
theorem wt_867 : Cond.code yX11_hasOffice cX11_hasOffice 1 (some .boolean) ∈ mU := lt_4 147 rfl rfl
theorem wt_872 : Cond.methodLink "UnlikeLoaves" 237 yX11_writings ∈ mU := lt_4 152 rfl rfl
theorem wt_877 : Cond.methodLink "UnlikeLoaves" 240 yX1_greedySet ∈ mU := lt_4 157 rfl rfl
theorem wt_878 : Cond.instanceMethod yX1_greedySet ∈ mU := lt_4 158 rfl rfl
theorem wt_879 : Cond.selects "UnlikeLoaves$Finder" yX1_greedySet yX1_greedySet ∈ mU := lt_4 159 rfl rfl
theorem wt_880 : Cond.code yX1_greedySet cX1_greedySet 8 (some .int) ∈ mU := lt_4 160 rfl rfl
theorem wt_885 : Cond.methodLink "UnlikeLoaves" 243 yX1_shortestSet ∈ mU := lt_4 165 rfl rfl
theorem wt_886 : Cond.instanceMethod yX1_shortestSet ∈ mU := lt_4 166 rfl rfl
theorem wt_887 : Cond.selects "UnlikeLoaves$Finder" yX1_shortestSet yX1_shortestSet ∈ mU := lt_4 167 rfl rfl
theorem wt_888 : Cond.code yX1_shortestSet cX1_shortestSet 5 (some .int) ∈ mU := lt_4 168 rfl rfl
theorem wt_889 : Cond.methodLink "UnlikeLoaves$Finder" 65 yX1_find ∈ mU := lt_4 169 rfl rfl
theorem wt_890 : Cond.methodLink "UnlikeLoaves$Finder" 39 yJ6_bitCount_0f7a4 ∈ mU := lt_4 170 rfl rfl
theorem wt_891 : Cond.static yJ6_bitCount_0f7a4 ∈ mU := lt_4 171 rfl rfl
theorem wt_892 : Cond.code yJ6_bitCount_0f7a4 cJ6_bitCount_0f7a4 1 (some .int) ∈ mU := lt_4 172 rfl rfl
theorem wt_893 : Cond.constant "java/lang/Integer" 265 (1431655765 : Int32) ∈ mU := lt_4 173 rfl rfl
theorem wt_894 : Cond.constant "java/lang/Integer" 266 (858993459 : Int32) ∈ mU := lt_4 174 rfl rfl
theorem wt_895 : Cond.constant "java/lang/Integer" 267 (252645135 : Int32) ∈ mU := lt_4 175 rfl rfl
theorem wt_900 : Cond.constantLong "UnlikeLoaves" 246 (-1000000000000000 : Int64) ∈ mU := lt_4 180 rfl rfl
theorem wt_901 : Cond.methodLink "UnlikeLoaves" 248 yX11_priceOf ∈ mU := lt_4 181 rfl rfl
theorem wt_903 : Cond.instanceMethod yX11_priceOf ∈ mU := lt_4 183 rfl rfl
theorem wt_904 : Cond.code yX11_priceOf cX11_priceOf 6 (some .long) ∈ mU := lt_4 184 rfl rfl
theorem wt_905 : Cond.methodLink "UnlikeLoaves" 415 yX2_reckon ∈ mU := lt_4 185 rfl rfl
theorem wt_910 : Cond.methodLink "UnlikeLoaves" 252 yX11_isSet ∈ mU := lt_4 190 rfl rfl
theorem wt_912 : Cond.instanceMethod yX11_isSet ∈ mU := lt_4 192 rfl rfl
theorem wt_913 : Cond.code yX11_isSet cX11_isSet 2 (some .boolean) ∈ mU := lt_4 193 rfl rfl
theorem wt_914 : Cond.methodLink "UnlikeLoaves" 255 yX1_sumOf ∈ mU := lt_4 194 rfl rfl
theorem wt_915 : Cond.instanceMethod yX1_sumOf ∈ mU := lt_4 195 rfl rfl
theorem wt_916 : Cond.selects "UnlikeLoaves$Finder" yX1_sumOf yX1_sumOf ∈ mU := lt_4 196 rfl rfl
theorem wt_917 : Cond.code yX1_sumOf cX1_sumOf 5 (some .long) ∈ mU := lt_4 197 rfl rfl
theorem wt_918 : Cond.constantLong "UnlikeLoaves" 258 (5354228880 : Int64) ∈ mU := lt_4 198 rfl rfl
theorem wt_919 : Cond.methodLink "UnlikeLoaves" 260 yX1_commonDivisor ∈ mU := lt_4 199 rfl rfl
theorem wt_920 : Cond.static yX1_commonDivisor ∈ mU := lt_4 200 rfl rfl
theorem wt_921 : Cond.code yX1_commonDivisor cX1_commonDivisor 11 (some .long) ∈ mU := lt_4 201 rfl rfl
theorem wt_930 : Cond.methodLink "UnlikeLoaves" 264 yX1_isWriting ∈ mU := lt_4 210 rfl rfl
theorem wt_931 : Cond.instanceMethod yX1_isWriting ∈ mU := lt_4 211 rfl rfl
theorem wt_932 : Cond.selects "UnlikeLoaves$Finder" yX1_isWriting yX1_isWriting ∈ mU := lt_4 212 rfl rfl
theorem wt_933 : Cond.code yX1_isWriting cX1_isWriting 4 (some .boolean) ∈ mU := lt_4 213 rfl rfl
theorem wt_934 : Cond.methodLink "UnlikeLoaves$Finder" 50 yX1_sumOf ∈ mU := lt_4 214 rfl rfl
theorem wt_935 : Cond.methodLink "UnlikeLoaves" 268 yX1_mendings ∈ mU := lt_4 215 rfl rfl
theorem wt_936 : Cond.instanceMethod yX1_mendings ∈ mU := lt_4 216 rfl rfl
theorem wt_937 : Cond.selects "UnlikeLoaves$Finder" yX1_mendings yX1_mendings ∈ mU := lt_4 217 rfl rfl
theorem wt_938 : Cond.code yX1_mendings cX1_mendings 10 (some .int) ∈ mU := lt_4 218 rfl rfl
theorem wt_947 : Cond.methodLink "UnlikeLoaves" 278 yX5_goAhead ∈ mU := lt_4 227 rfl rfl
theorem wt_948 : Cond.instanceMethod yX5_goAhead ∈ mU := lt_4 228 rfl rfl
theorem wt_949 : Cond.selects "UnlikeLoaves$Outlook" yX5_goAhead yX5_goAhead ∈ mU := lt_4 229 rfl rfl
theorem wt_950 : Cond.code yX5_goAhead cX5_goAhead 3 (some .boolean) ∈ mU := lt_4 230 rfl rfl
theorem wt_951 : Cond.methodLink "UnlikeLoaves$Outlook" 58 yX9_takeCourse ∈ mU := lt_4 231 rfl rfl
theorem wt_952 : Cond.instanceMethod yX9_takeCourse ∈ mU := lt_4 232 rfl rfl
theorem wt_953 : Cond.selects "UnlikeLoaves$State" yX9_takeCourse yX9_takeCourse ∈ mU := lt_4 233 rfl rfl
theorem wt_954 : Cond.code yX9_takeCourse cX9_takeCourse 2 none ∈ mU := lt_4 234 rfl rfl
theorem wt_955 : Cond.methodLink "UnlikeLoaves$Outlook" 62 yX0_passDay ∈ mU := lt_4 235 rfl rfl
theorem wt_956 : Cond.instanceMethod yX0_passDay ∈ mU := lt_4 236 rfl rfl
theorem wt_957 : Cond.selects "UnlikeLoaves$Course" yX0_passDay yX0_passDay ∈ mU := lt_4 237 rfl rfl
theorem wt_958 : Cond.code yX0_passDay cX0_passDay 5 (some .int) ∈ mU := lt_4 238 rfl rfl
theorem wt_959 : Cond.methodLink "UnlikeLoaves$Course" 60 yX9_addPieces ∈ mU := lt_4 239 rfl rfl
theorem wt_960 : Cond.instanceMethod yX9_addPieces ∈ mU := lt_5 0 rfl rfl
theorem wt_961 : Cond.selects "UnlikeLoaves$State" yX9_addPieces yX9_addPieces ∈ mU := lt_5 1 rfl rfl
theorem wt_962 : Cond.code yX9_addPieces cX9_addPieces 3 none ∈ mU := lt_5 2 rfl rfl
theorem wt_963 : Cond.methodLink "UnlikeLoaves$State" 75 Lib.Math.min.name ∈ mU := lt_5 3 rfl rfl
theorem wt_964 : Cond.methodLink "UnlikeLoaves$Course" 67 yX0_choose ∈ mU := lt_5 4 rfl rfl
theorem wt_965 : Cond.methodLink "UnlikeLoaves$Course" 71 yX9_goHungry ∈ mU := lt_5 5 rfl rfl
theorem wt_966 : Cond.instanceMethod yX9_goHungry ∈ mU := lt_5 6 rfl rfl
theorem wt_967 : Cond.selects "UnlikeLoaves$State" yX9_goHungry yX9_goHungry ∈ mU := lt_5 7 rfl rfl
theorem wt_968 : Cond.code yX9_goHungry cX9_goHungry 2 none ∈ mU := lt_5 8 rfl rfl
theorem wt_969 : Cond.methodLink "UnlikeLoaves$Course" 75 yX9_hand ∈ mU := lt_5 9 rfl rfl
theorem wt_970 : Cond.instanceMethod yX9_hand ∈ mU := lt_5 10 rfl rfl
theorem wt_971 : Cond.selects "UnlikeLoaves$State" yX9_hand yX9_hand ∈ mU := lt_5 11 rfl rfl
theorem wt_972 : Cond.code yX9_hand cX9_hand 4 none ∈ mU := lt_5 12 rfl rfl
theorem wt_973 : Cond.methodLink "UnlikeLoaves$State" 81 yX9_move ∈ mU := lt_5 13 rfl rfl
theorem wt_974 : Cond.instanceMethod yX9_move ∈ mU := lt_5 14 rfl rfl
theorem wt_975 : Cond.selects "UnlikeLoaves$State" yX9_move yX9_move ∈ mU := lt_5 15 rfl rfl
theorem wt_976 : Cond.code yX9_move cX9_move 4 none ∈ mU := lt_5 16 rfl rfl
theorem wt_977 : Cond.methodLink "UnlikeLoaves$Course" 78 Lib.Math.min.name ∈ mU := lt_5 17 rfl rfl
theorem wt_982 : Cond.methodLink "UnlikeLoaves" 284 yX5_firstServed ∈ mU := lt_5 22 rfl rfl
theorem wt_983 : Cond.instanceMethod yX5_firstServed ∈ mU := lt_5 23 rfl rfl
theorem wt_984 : Cond.selects "UnlikeLoaves$Outlook" yX5_firstServed yX5_firstServed ∈ mU := lt_5 24 rfl rfl
theorem wt_985 : Cond.code yX5_firstServed cX5_firstServed 3 (some .int) ∈ mU := lt_5 25 rfl rfl
theorem wt_994 : Cond.methodLink "UnlikeLoaves" 291 yX5_fewestCuts ∈ mU := lt_5 34 rfl rfl
theorem wt_995 : Cond.instanceMethod yX5_fewestCuts ∈ mU := lt_5 35 rfl rfl
theorem wt_996 : Cond.selects "UnlikeLoaves$Outlook" yX5_fewestCuts yX5_fewestCuts ∈ mU := lt_5 36 rfl rfl
theorem wt_997 : Cond.code yX5_fewestCuts cX5_fewestCuts 5 (some .int) ∈ mU := lt_5 37 rfl rfl
theorem wt_998 : Cond.methodLink "UnlikeLoaves$Outlook" 71 Lib.Math.min.name ∈ mU := lt_5 38 rfl rfl
theorem wt_999 : Cond.methodLink "UnlikeLoaves$Outlook" 77 yX5_fillCutRow ∈ mU := lt_5 39 rfl rfl
theorem wt_1001 : Cond.instanceMethod yX5_fillCutRow ∈ mU := lt_5 41 rfl rfl
theorem wt_1002 : Cond.code yX5_fillCutRow cX5_fillCutRow 4 none ∈ mU := lt_5 42 rfl rfl
theorem wt_1003 : Cond.methodLink "UnlikeLoaves$Outlook" 81 yX5_cutsServe ∈ mU := lt_5 43 rfl rfl
theorem wt_1005 : Cond.instanceMethod yX5_cutsServe ∈ mU := lt_5 45 rfl rfl
theorem wt_1006 : Cond.code yX5_cutsServe cX5_cutsServe 3 (some .boolean) ∈ mU := lt_5 46 rfl rfl
theorem wt_1007 : Cond.methodLink "UnlikeLoaves$Outlook" 93 yX9_addPieces ∈ mU := lt_5 47 rfl rfl
theorem wt_1008 : Cond.methodLink "UnlikeLoaves$Outlook" 96 yX0_servesAll ∈ mU := lt_5 48 rfl rfl
theorem wt_1009 : Cond.instanceMethod yX0_servesAll ∈ mU := lt_5 49 rfl rfl
theorem wt_1010 : Cond.selects "UnlikeLoaves$Course" yX0_servesAll yX0_servesAll ∈ mU := lt_5 50 rfl rfl
theorem wt_1011 : Cond.code yX0_servesAll cX0_servesAll 4 (some .boolean) ∈ mU := lt_5 51 rfl rfl
theorem wt_1012 : Cond.methodLink "UnlikeLoaves$Outlook" 85 yX5_nextCutRow ∈ mU := lt_5 52 rfl rfl
theorem wt_1014 : Cond.instanceMethod yX5_nextCutRow ∈ mU := lt_5 54 rfl rfl
theorem wt_1015 : Cond.code yX5_nextCutRow cX5_nextCutRow 3 (some .boolean) ∈ mU := lt_5 55 rfl rfl
theorem wt_1020 : Cond.methodLink "UnlikeLoaves" 297 yX5_mostSeated ∈ mU := lt_5 60 rfl rfl
theorem wt_1021 : Cond.instanceMethod yX5_mostSeated ∈ mU := lt_5 61 rfl rfl
theorem wt_1022 : Cond.selects "UnlikeLoaves$Outlook" yX5_mostSeated yX5_mostSeated ∈ mU := lt_5 62 rfl rfl
theorem wt_1023 : Cond.code yX5_mostSeated cX5_mostSeated 2 (some .int) ∈ mU := lt_5 63 rfl rfl
theorem wt_1024 : Cond.methodLink "UnlikeLoaves$Outlook" 103 yX5_seat ∈ mU := lt_5 64 rfl rfl
theorem wt_1026 : Cond.instanceMethod yX5_seat ∈ mU := lt_5 66 rfl rfl
theorem wt_1027 : Cond.code yX5_seat cX5_seat 7 (some .boolean) ∈ mU := lt_5 67 rfl rfl
theorem wt_1028 : Cond.methodLink "UnlikeLoaves$Outlook" 107 yX9_inStock ∈ mU := lt_5 68 rfl rfl
theorem wt_1029 : Cond.methodLink "UnlikeLoaves$Outlook" 114 yX7_wayOf ∈ mU := lt_5 69 rfl rfl
theorem wt_1030 : Cond.methodLink "UnlikeLoaves$Outlook" 117 yX9_move ∈ mU := lt_5 70 rfl rfl
theorem wt_1035 : Cond.methodLink "UnlikeLoaves" 303 yX5_oddsOf ∈ mU := lt_5 75 rfl rfl
theorem wt_1036 : Cond.instanceMethod yX5_oddsOf ∈ mU := lt_5 76 rfl rfl
theorem wt_1037 : Cond.selects "UnlikeLoaves$Outlook" yX5_oddsOf yX5_oddsOf ∈ mU := lt_5 77 rfl rfl
theorem wt_1038 : Cond.code yX5_oddsOf cX5_oddsOf 5 (some .int) ∈ mU := lt_5 78 rfl rfl
theorem wt_1039 : Cond.methodLink "UnlikeLoaves$Outlook" 120 yX5_servedWithout ∈ mU := lt_5 79 rfl rfl
theorem wt_1041 : Cond.instanceMethod yX5_servedWithout ∈ mU := lt_5 81 rfl rfl
theorem wt_1042 : Cond.code yX5_servedWithout cX5_servedWithout 3 (some .int) ∈ mU := lt_5 82 rfl rfl
theorem wt_1043 : Cond.methodLink "UnlikeLoaves$Outlook" 126 yX9_lose ∈ mU := lt_5 83 rfl rfl
theorem wt_1044 : Cond.instanceMethod yX9_lose ∈ mU := lt_5 84 rfl rfl
theorem wt_1045 : Cond.selects "UnlikeLoaves$State" yX9_lose yX9_lose ∈ mU := lt_5 85 rfl rfl
theorem wt_1046 : Cond.code yX9_lose cX9_lose 2 (some .boolean) ∈ mU := lt_5 86 rfl rfl
theorem wt_1051 : Cond.methodLink "UnlikeLoaves" 306 yX5_seeTape ∈ mU := lt_5 91 rfl rfl
theorem wt_1052 : Cond.instanceMethod yX5_seeTape ∈ mU := lt_5 92 rfl rfl
theorem wt_1053 : Cond.selects "UnlikeLoaves$Outlook" yX5_seeTape yX5_seeTape ∈ mU := lt_5 93 rfl rfl
theorem wt_1054 : Cond.code yX5_seeTape cX5_seeTape 4 (some .int) ∈ mU := lt_5 94 rfl rfl
theorem wt_1055 : Cond.methodLink "UnlikeLoaves$Outlook" 137 arraycopyName ∈ mU := lt_5 95 rfl rfl
theorem wt_1060 : Cond.methodLink "UnlikeLoaves" 310 yX5_possibleStocks ∈ mU := lt_5 100 rfl rfl
theorem wt_1061 : Cond.instanceMethod yX5_possibleStocks ∈ mU := lt_5 101 rfl rfl
theorem wt_1062 : Cond.selects "UnlikeLoaves$Outlook" yX5_possibleStocks yX5_possibleStocks ∈ mU := lt_5 102 rfl rfl
theorem wt_1063 : Cond.code yX5_possibleStocks cX5_possibleStocks 3 (some .int) ∈ mU := lt_5 103 rfl rfl
theorem wt_1064 : Cond.methodLink "UnlikeLoaves$Outlook" 146 yX5_lastSeenDay ∈ mU := lt_5 104 rfl rfl
theorem wt_1066 : Cond.instanceMethod yX5_lastSeenDay ∈ mU := lt_5 106 rfl rfl
theorem wt_1067 : Cond.code yX5_lastSeenDay cX5_lastSeenDay 3 (some .int) ∈ mU := lt_5 107 rfl rfl
theorem wt_1068 : Cond.methodLink "UnlikeLoaves$Outlook" 143 Lib.Math.max.name ∈ mU := lt_5 108 rfl rfl
theorem wt_1069 : Cond.methodLink "UnlikeLoaves$Outlook" 149 yX5_comingDays ∈ mU := lt_5 109 rfl rfl
theorem wt_1071 : Cond.instanceMethod yX5_comingDays ∈ mU := lt_5 111 rfl rfl
theorem wt_1072 : Cond.code yX5_comingDays cX5_comingDays 1 (some .int) ∈ mU := lt_5 112 rfl rfl
theorem wt_1073 : Cond.methodLink "UnlikeLoaves$Outlook" 152 yX5_watch ∈ mU := lt_5 113 rfl rfl
theorem wt_1075 : Cond.instanceMethod yX5_watch ∈ mU := lt_5 115 rfl rfl
theorem wt_1076 : Cond.code yX5_watch cX5_watch 5 none ∈ mU := lt_5 116 rfl rfl
theorem wt_1077 : Cond.methodLink "UnlikeLoaves$Outlook" 155 yX5_stocksAsSeen ∈ mU := lt_5 117 rfl rfl
theorem wt_1079 : Cond.instanceMethod yX5_stocksAsSeen ∈ mU := lt_5 119 rfl rfl
theorem wt_1080 : Cond.code yX5_stocksAsSeen cX5_stocksAsSeen 3 (some .int) ∈ mU := lt_5 120 rfl rfl
theorem wt_1081 : Cond.methodLink "UnlikeLoaves$Outlook" 158 yX5_isAsSeen ∈ mU := lt_5 121 rfl rfl
theorem wt_1083 : Cond.instanceMethod yX5_isAsSeen ∈ mU := lt_5 123 rfl rfl
theorem wt_1084 : Cond.code yX5_isAsSeen cX5_isAsSeen 4 (some .boolean) ∈ mU := lt_5 124 rfl rfl
theorem wt_1089 : Cond.methodLink "UnlikeLoaves" 313 yX5_findTelling ∈ mU := lt_5 129 rfl rfl
theorem wt_1090 : Cond.instanceMethod yX5_findTelling ∈ mU := lt_5 130 rfl rfl
theorem wt_1091 : Cond.selects "UnlikeLoaves$Outlook" yX5_findTelling yX5_findTelling ∈ mU := lt_5 131 rfl rfl
theorem wt_1092 : Cond.code yX5_findTelling cX5_findTelling 9 (some .boolean) ∈ mU := lt_5 132 rfl rfl
theorem wt_1093 : Cond.methodLink "UnlikeLoaves$Outlook" 161 yJ6_bitCount_0f7a4 ∈ mU := lt_5 133 rfl rfl
theorem wt_1094 : Cond.methodLink "UnlikeLoaves$Outlook" 167 yX5_servedBy ∈ mU := lt_5 134 rfl rfl
theorem wt_1096 : Cond.instanceMethod yX5_servedBy ∈ mU := lt_5 136 rfl rfl
theorem wt_1097 : Cond.code yX5_servedBy cX5_servedBy 6 (some .int) ∈ mU := lt_5 137 rfl rfl
theorem wt_1102 : Cond.methodLink "UnlikeLoaves" 325 yX3_keep ∈ mU := lt_5 142 rfl rfl
theorem wt_1103 : Cond.instanceMethod yX3_keep ∈ mU := lt_5 143 rfl rfl
theorem wt_1104 : Cond.selects "UnlikeLoaves$History" yX3_keep yX3_keep ∈ mU := lt_5 144 rfl rfl
theorem wt_1105 : Cond.code yX3_keep cX3_keep 2 none ∈ mU := lt_5 145 rfl rfl
theorem wt_1106 : Cond.methodLink "UnlikeLoaves$History" 23 yX9_takeAll ∈ mU := lt_5 146 rfl rfl
theorem wt_1107 : Cond.instanceMethod yX9_takeAll ∈ mU := lt_5 147 rfl rfl
theorem wt_1108 : Cond.selects "UnlikeLoaves$State" yX9_takeAll yX9_takeAll ∈ mU := lt_5 148 rfl rfl
theorem wt_1109 : Cond.code yX9_takeAll cX9_takeAll 2 none ∈ mU := lt_5 149 rfl rfl
theorem wt_1110 : Cond.methodLink "UnlikeLoaves$State" 48 yX9_takeCourse ∈ mU := lt_5 150 rfl rfl
theorem wt_1119 : Cond.methodLink "UnlikeLoaves" 329 yX7_isWayOf ∈ mU := lt_5 159 rfl rfl
theorem wt_1120 : Cond.instanceMethod yX7_isWayOf ∈ mU := lt_5 160 rfl rfl
theorem wt_1121 : Cond.selects "UnlikeLoaves$Rules" yX7_isWayOf yX7_isWayOf ∈ mU := lt_5 161 rfl rfl
theorem wt_1122 : Cond.code yX7_isWayOf cX7_isWayOf 4 (some .boolean) ∈ mU := lt_5 162 rfl rfl
theorem wt_1123 : Cond.methodLink "UnlikeLoaves" 332 yX9_holds ∈ mU := lt_5 163 rfl rfl
theorem wt_1124 : Cond.instanceMethod yX9_holds ∈ mU := lt_5 164 rfl rfl
theorem wt_1125 : Cond.selects "UnlikeLoaves$State" yX9_holds yX9_holds ∈ mU := lt_5 165 rfl rfl
theorem wt_1126 : Cond.code yX9_holds cX9_holds 2 (some .boolean) ∈ mU := lt_5 166 rfl rfl
theorem wt_1127 : Cond.methodLink "UnlikeLoaves$State" 71 yX9_inStock ∈ mU := lt_5 167 rfl rfl
theorem wt_1128 : Cond.methodLink "UnlikeLoaves" 335 yX9_hand ∈ mU := lt_5 168 rfl rfl
theorem wt_1133 : Cond.methodLink "UnlikeLoaves" 339 yX11_daysCanBe ∈ mU := lt_5 173 rfl rfl
theorem wt_1135 : Cond.instanceMethod yX11_daysCanBe ∈ mU := lt_5 175 rfl rfl
theorem wt_1136 : Cond.code yX11_daysCanBe cX11_daysCanBe 2 (some .boolean) ∈ mU := lt_5 176 rfl rfl
theorem wt_1137 : Cond.methodLink "UnlikeLoaves" 342 yX0_passDay ∈ mU := lt_5 177 rfl rfl
theorem wt_1138 : Cond.methodLink "UnlikeLoaves" 346 yJ6_bitCount_0f7a4 ∈ mU := lt_5 178 rfl rfl
theorem wt_1143 : Cond.methodLink "UnlikeLoaves" 351 yX11_draw ∈ mU := lt_5 183 rfl rfl
theorem wt_1145 : Cond.instanceMethod yX11_draw ∈ mU := lt_5 185 rfl rfl
theorem wt_1146 : Cond.code yX11_draw cX11_draw 2 (some .int) ∈ mU := lt_5 186 rfl rfl
theorem wt_1147 : Cond.constantLong "UnlikeLoaves" 406 (1103515245 : Int64) ∈ mU := lt_5 187 rfl rfl
theorem wt_1148 : Cond.constantLong "UnlikeLoaves" 408 (12345 : Int64) ∈ mU := lt_5 188 rfl rfl
theorem wt_1149 : Cond.constantLong "UnlikeLoaves" 410 (2147483647 : Int64) ∈ mU := lt_5 189 rfl rfl
theorem wt_1150 : Cond.methodLink "UnlikeLoaves" 357 yX9_lose ∈ mU := lt_5 190 rfl rfl
theorem wt_1155 : Cond.methodLink "UnlikeLoaves" 360 yX3_back ∈ mU := lt_5 195 rfl rfl
theorem wt_1156 : Cond.instanceMethod yX3_back ∈ mU := lt_5 196 rfl rfl
theorem wt_1157 : Cond.selects "UnlikeLoaves$History" yX3_back yX3_back ∈ mU := lt_5 197 rfl rfl
theorem wt_1158 : Cond.code yX3_back cX3_back 2 (some .boolean) ∈ mU := lt_5 198 rfl rfl
theorem wt_1167 : Cond.methodLink "UnlikeLoaves" 364 yX6_readQuestion ∈ mU := lt_5 207 rfl rfl
theorem wt_1168 : Cond.instanceMethod yX6_readQuestion ∈ mU := lt_5 208 rfl rfl
theorem wt_1169 : Cond.selects "UnlikeLoaves$Phrases" yX6_readQuestion yX6_readQuestion ∈ mU := lt_5 209 rfl rfl
theorem wt_1170 : Cond.code yX6_readQuestion cX6_readQuestion 4 (some .int) ∈ mU := lt_5 210 rfl rfl
theorem wt_1171 : Cond.methodLink "UnlikeLoaves$Phrases" 35 yX8_begin ∈ mU := lt_5 211 rfl rfl
theorem wt_1172 : Cond.methodLink "UnlikeLoaves$Phrases" 40 yX6_questionHere ∈ mU := lt_5 212 rfl rfl
theorem wt_1174 : Cond.instanceMethod yX6_questionHere ∈ mU := lt_5 214 rfl rfl
theorem wt_1175 : Cond.code yX6_questionHere cX6_questionHere 1 (some .int) ∈ mU := lt_5 215 rfl rfl
theorem wt_1182 : Cond.methodLink "UnlikeLoaves$Phrases" 50 yX6_readTest ∈ mU := lt_5 222 rfl rfl
theorem wt_1183 : Cond.methodLink "UnlikeLoaves$Phrases" 54 yX6_readSum ∈ mU := lt_5 223 rfl rfl
theorem wt_1184 : Cond.methodLink "UnlikeLoaves" 368 yX11_firstHolding ∈ mU := lt_5 224 rfl rfl
theorem wt_1186 : Cond.instanceMethod yX11_firstHolding ∈ mU := lt_5 226 rfl rfl
theorem wt_1187 : Cond.code yX11_firstHolding cX11_firstHolding 2 (some .long) ∈ mU := lt_5 227 rfl rfl
theorem wt_1188 : Cond.methodLink "UnlikeLoaves" 428 yX11_answerOf ∈ mU := lt_5 228 rfl rfl
theorem wt_1190 : Cond.instanceMethod yX11_answerOf ∈ mU := lt_5 230 rfl rfl
theorem wt_1191 : Cond.code yX11_answerOf cX11_answerOf 2 (some .int) ∈ mU := lt_5 231 rfl rfl
theorem wt_1192 : Cond.methodLink "UnlikeLoaves" 422 arraycopyName ∈ mU := lt_5 232 rfl rfl
theorem wt_1193 : Cond.constantLong "UnlikeLoaves" 431 (-1 : Int64) ∈ mU := lt_5 233 rfl rfl
theorem wt_1194 : Cond.methodLink "UnlikeLoaves" 372 yX11_lastHolding ∈ mU := lt_5 234 rfl rfl
theorem wt_1196 : Cond.instanceMethod yX11_lastHolding ∈ mU := lt_5 236 rfl rfl
theorem wt_1197 : Cond.code yX11_lastHolding cX11_lastHolding 2 (some .long) ∈ mU := lt_5 237 rfl rfl
theorem wt_1198 : Cond.methodLink "UnlikeLoaves" 375 yX11_sumOfAll ∈ mU := lt_5 238 rfl rfl
theorem wt_1200 : Cond.instanceMethod yX11_sumOfAll ∈ mU := lt_6 0 rfl rfl
theorem wt_1201 : Cond.code yX11_sumOfAll cX11_sumOfAll 4 (some .long) ∈ mU := lt_6 1 rfl rfl
theorem wt_1202 : Cond.methodLink "UnlikeLoaves" 378 yX11_greatestOfAll ∈ mU := lt_6 2 rfl rfl
theorem wt_1204 : Cond.instanceMethod yX11_greatestOfAll ∈ mU := lt_6 4 rfl rfl
theorem wt_1205 : Cond.code yX11_greatestOfAll cX11_greatestOfAll 6 (some .long) ∈ mU := lt_6 5 rfl rfl
theorem wt_1206 : Cond.methodLink "UnlikeLoaves" 433 Lib.MathLoose.max_long.x ∈ mU := lt_6 6 rfl rfl
theorem wt_1207 : Cond.static Lib.MathLoose.max_long.x ∈ mU := lt_6 7 rfl rfl
theorem wt_1208 : Cond.code Lib.MathLoose.max_long.x Lib.MathLoose.max_long.code 4 (some .long) ∈ mU := lt_6 8 rfl rfl
theorem wt_1209 : Cond.methodLink "UnlikeLoaves" 381 yX11_leastOfAll ∈ mU := lt_6 9 rfl rfl
theorem wt_1211 : Cond.instanceMethod yX11_leastOfAll ∈ mU := lt_6 11 rfl rfl
theorem wt_1212 : Cond.code yX11_leastOfAll cX11_leastOfAll 6 (some .long) ∈ mU := lt_6 12 rfl rfl
theorem wt_1213 : Cond.methodLink "UnlikeLoaves" 438 Lib.MathLoose.min_long.x ∈ mU := lt_6 13 rfl rfl
theorem wt_1214 : Cond.static Lib.MathLoose.min_long.x ∈ mU := lt_6 14 rfl rfl
theorem wt_1215 : Cond.code Lib.MathLoose.min_long.x Lib.MathLoose.min_long.code 4 (some .long) ∈ mU := lt_6 15 rfl rfl
theorem wt_1220 : Cond.methodLink "UnlikeLoaves" 384 yX11_addTwo ∈ mU := lt_6 20 rfl rfl
theorem wt_1222 : Cond.instanceMethod yX11_addTwo ∈ mU := lt_6 22 rfl rfl
theorem wt_1223 : Cond.code yX11_addTwo cX11_addTwo 2 none ∈ mU := lt_6 23 rfl rfl
theorem wt_1224 : Cond.methodLink "UnlikeLoaves" 387 yX11_addByte ∈ mU := lt_6 24 rfl rfl
theorem wt_1226 : Cond.instanceMethod yX11_addByte ∈ mU := lt_6 26 rfl rfl
theorem wt_1227 : Cond.code yX11_addByte cX11_addByte 2 none ∈ mU := lt_6 27 rfl rfl
theorem wt_1228 : Cond.methodLink "UnlikeLoaves" 390 yX10_checkOf ∈ mU := lt_6 28 rfl rfl
theorem wt_1229 : Cond.static yX10_checkOf ∈ mU := lt_6 29 rfl rfl
theorem wt_1230 : Cond.code yX10_checkOf cX10_checkOf 4 (some .int) ∈ mU := lt_6 30 rfl rfl
theorem wt_1239 : Cond.methodLink "UnlikeLoaves" 394 yX10_isImage ∈ mU := lt_6 39 rfl rfl
theorem wt_1240 : Cond.instanceMethod yX10_isImage ∈ mU := lt_6 40 rfl rfl
theorem wt_1241 : Cond.selects "UnlikeLoaves$Tape" yX10_isImage yX10_isImage ∈ mU := lt_6 41 rfl rfl
theorem wt_1242 : Cond.code yX10_isImage cX10_isImage 6 (some .boolean) ∈ mU := lt_6 42 rfl rfl
theorem wt_1243 : Cond.methodLink "UnlikeLoaves$Tape" 19 yX10_checkOf ∈ mU := lt_6 43 rfl rfl
theorem wt_1244 : Cond.methodLink "UnlikeLoaves$Tape" 23 yX10_two ∈ mU := lt_6 44 rfl rfl
theorem wt_1245 : Cond.instanceMethod yX10_two ∈ mU := lt_6 45 rfl rfl
theorem wt_1246 : Cond.selects "UnlikeLoaves$Tape" yX10_two yX10_two ∈ mU := lt_6 46 rfl rfl
theorem wt_1247 : Cond.code yX10_two cX10_two 2 (some .int) ∈ mU := lt_6 47 rfl rfl
theorem wt_1248 : Cond.methodLink "UnlikeLoaves" 397 yX9_read ∈ mU := lt_6 48 rfl rfl
theorem wt_1249 : Cond.instanceMethod yX9_read ∈ mU := lt_6 49 rfl rfl
theorem wt_1250 : Cond.selects "UnlikeLoaves$State" yX9_read yX9_read ∈ mU := lt_6 50 rfl rfl
theorem wt_1251 : Cond.code yX9_read cX9_read 5 none ∈ mU := lt_6 51 rfl rfl
theorem wt_1252 : Cond.methodLink "UnlikeLoaves$State" 52 yX10_two ∈ mU := lt_6 52 rfl rfl
theorem wt_1263 : Cond.fieldLink "UnlikeLoavesModel" 7 "UnlikeLoavesModel" "tape" "[I" ∈ mU := lt_6 63 rfl rfl
theorem wt_1264 : Cond.fieldLink "UnlikeLoavesModel" 254 "UnlikeLoavesModel" "taped" "I" ∈ mU := lt_6 64 rfl rfl
theorem wt_1265 : Cond.fieldLink "UnlikeLoavesModel" 263 "UnlikeLoavesModel" "at" "I" ∈ mU := lt_6 65 rfl rfl
theorem wt_1266 : Cond.fieldLink "UnlikeLoavesModel" 266 "UnlikeLoavesModel" "end" "I" ∈ mU := lt_6 66 rfl rfl
theorem wt_1267 : Cond.fieldLink "UnlikeLoavesModel" 277 "UnlikeLoavesModel" "ended" "I" ∈ mU := lt_6 67 rfl rfl
theorem wt_1268 : Cond.fieldLink "UnlikeLoavesModel" 257 "UnlikeLoavesModel" "bad" "I" ∈ mU := lt_6 68 rfl rfl
theorem wt_1269 : Cond.fieldLink "UnlikeLoavesModel" 260 "UnlikeLoavesModel" "badPlace" "I" ∈ mU := lt_6 69 rfl rfl
theorem wt_1270 : Cond.fieldLink "UnlikeLoavesModel" 373 "UnlikeLoavesModel" "fault" "I" ∈ mU := lt_6 70 rfl rfl
theorem wt_1271 : Cond.fieldLink "UnlikeLoavesModel" 13 "UnlikeLoavesModel" "faultPlace" "I" ∈ mU := lt_6 71 rfl rfl
theorem wt_1272 : Cond.fieldLink "UnlikeLoavesModel" 17 "UnlikeLoavesModel" "refused" "[I" ∈ mU := lt_6 72 rfl rfl
theorem wt_1273 : Cond.fieldLink "UnlikeLoavesModel" 297 "UnlikeLoavesModel" "numberPlace" "I" ∈ mU := lt_6 73 rfl rfl
theorem wt_1274 : Cond.fieldLink "UnlikeLoavesModel" 20 "UnlikeLoavesModel" "finestWord" "[C" ∈ mU := lt_6 74 rfl rfl
theorem wt_1275 : Cond.fieldLink "UnlikeLoavesModel" 24 "UnlikeLoavesModel" "mostWord" "[C" ∈ mU := lt_6 75 rfl rfl
theorem wt_1276 : Cond.fieldLink "UnlikeLoavesModel" 27 "UnlikeLoavesModel" "personWord" "[C" ∈ mU := lt_6 76 rfl rfl
theorem wt_1277 : Cond.fieldLink "UnlikeLoavesModel" 30 "UnlikeLoavesModel" "dueWord" "[C" ∈ mU := lt_6 77 rfl rfl
theorem wt_1278 : Cond.fieldLink "UnlikeLoavesModel" 33 "UnlikeLoavesModel" "ofWord" "[C" ∈ mU := lt_6 78 rfl rfl
theorem wt_1279 : Cond.fieldLink "UnlikeLoavesModel" 36 "UnlikeLoavesModel" "haveWord" "[C" ∈ mU := lt_6 79 rfl rfl
theorem wt_1280 : Cond.fieldLink "UnlikeLoavesModel" 39 "UnlikeLoavesModel" "byWord" "[C" ∈ mU := lt_6 80 rfl rfl
theorem wt_1281 : Cond.fieldLink "UnlikeLoavesModel" 42 "UnlikeLoavesModel" "bakesWord" "[C" ∈ mU := lt_6 81 rfl rfl
theorem wt_1282 : Cond.fieldLink "UnlikeLoavesModel" 45 "UnlikeLoavesModel" "costsWord" "[C" ∈ mU := lt_6 82 rfl rfl
theorem wt_1283 : Cond.fieldLink "UnlikeLoavesModel" 48 "UnlikeLoavesModel" "likesWord" "[C" ∈ mU := lt_6 83 rfl rfl
theorem wt_1284 : Cond.fieldLink "UnlikeLoavesModel" 51 "UnlikeLoavesModel" "miceWord" "[C" ∈ mU := lt_6 84 rfl rfl
theorem wt_1285 : Cond.fieldLink "UnlikeLoavesModel" 54 "UnlikeLoavesModel" "sizeWord" "[C" ∈ mU := lt_6 85 rfl rfl
theorem wt_1286 : Cond.fieldLink "UnlikeLoavesModel" 57 "UnlikeLoavesModel" "stockWord" "[C" ∈ mU := lt_6 86 rfl rfl
theorem wt_1287 : Cond.fieldLink "UnlikeLoavesModel" 60 "UnlikeLoavesModel" "placeWord" "[C" ∈ mU := lt_6 87 rfl rfl
theorem wt_1288 : Cond.fieldLink "UnlikeLoavesModel" 63 "UnlikeLoavesModel" "dayWord" "[C" ∈ mU := lt_6 88 rfl rfl
theorem wt_1289 : Cond.fieldLink "UnlikeLoavesModel" 66 "UnlikeLoavesModel" "hungerWord" "[C" ∈ mU := lt_6 89 rfl rfl
theorem wt_1290 : Cond.fieldLink "UnlikeLoavesModel" 69 "UnlikeLoavesModel" "numberWord" "[C" ∈ mU := lt_6 90 rfl rfl
theorem wt_1291 : Cond.fieldLink "UnlikeLoavesModel" 72 "UnlikeLoavesModel" "topWord" "[C" ∈ mU := lt_6 91 rfl rfl
theorem wt_1292 : Cond.fieldLink "UnlikeLoavesModel" 75 "UnlikeLoavesModel" "bottomWord" "[C" ∈ mU := lt_6 92 rfl rfl
theorem wt_1293 : Cond.fieldLink "UnlikeLoavesModel" 78 "UnlikeLoavesModel" "waysWord" "[C" ∈ mU := lt_6 93 rfl rfl
theorem wt_1294 : Cond.fieldLink "UnlikeLoavesModel" 81 "UnlikeLoavesModel" "hadWord" "[C" ∈ mU := lt_6 94 rfl rfl
theorem wt_1295 : Cond.fieldLink "UnlikeLoavesModel" 84 "UnlikeLoavesModel" "fitsWord" "[C" ∈ mU := lt_6 95 rfl rfl
theorem wt_1296 : Cond.fieldLink "UnlikeLoavesModel" 87 "UnlikeLoavesModel" "orWord" "[C" ∈ mU := lt_6 96 rfl rfl
theorem wt_1297 : Cond.fieldLink "UnlikeLoavesModel" 90 "UnlikeLoavesModel" "andWord" "[C" ∈ mU := lt_6 97 rfl rfl
theorem wt_1298 : Cond.fieldLink "UnlikeLoavesModel" 93 "UnlikeLoavesModel" "notWord" "[C" ∈ mU := lt_6 98 rfl rfl
theorem wt_1299 : Cond.fieldLink "UnlikeLoavesModel" 96 "UnlikeLoavesModel" "allWord" "[C" ∈ mU := lt_6 99 rfl rfl
theorem wt_1300 : Cond.fieldLink "UnlikeLoavesModel" 99 "UnlikeLoavesModel" "minWord" "[C" ∈ mU := lt_6 100 rfl rfl
theorem wt_1301 : Cond.fieldLink "UnlikeLoavesModel" 102 "UnlikeLoavesModel" "maxWord" "[C" ∈ mU := lt_6 101 rfl rfl
theorem wt_1302 : Cond.fieldLink "UnlikeLoavesModel" 308 "UnlikeLoavesModel" "namePlace" "I" ∈ mU := lt_6 102 rfl rfl
theorem wt_1303 : Cond.fieldLink "UnlikeLoavesModel" 105 "UnlikeLoavesModel" "many" "[I" ∈ mU := lt_6 103 rfl rfl
theorem wt_1304 : Cond.fieldLink "UnlikeLoavesModel" 108 "UnlikeLoavesModel" "names" "[J" ∈ mU := lt_6 104 rfl rfl
theorem wt_1305 : Cond.fieldLink "UnlikeLoavesModel" 112 "UnlikeLoavesModel" "dues" "[I" ∈ mU := lt_6 105 rfl rfl
theorem wt_1306 : Cond.fieldLink "UnlikeLoavesModel" 115 "UnlikeLoavesModel" "pieces0" "[I" ∈ mU := lt_6 106 rfl rfl
theorem wt_1307 : Cond.fieldLink "UnlikeLoavesModel" 118 "UnlikeLoavesModel" "codeFrom" "[I" ∈ mU := lt_6 107 rfl rfl
theorem wt_1308 : Cond.fieldLink "UnlikeLoavesModel" 121 "UnlikeLoavesModel" "codeEnd" "[I" ∈ mU := lt_6 108 rfl rfl
theorem wt_1309 : Cond.fieldLink "UnlikeLoavesModel" 124 "UnlikeLoavesModel" "codes" "[I" ∈ mU := lt_6 109 rfl rfl
theorem wt_1310 : Cond.fieldLink "UnlikeLoavesModel" 352 "UnlikeLoavesModel" "coded" "I" ∈ mU := lt_6 110 rfl rfl
theorem wt_1311 : Cond.fieldLink "UnlikeLoavesModel" 355 "UnlikeLoavesModel" "statements" "I" ∈ mU := lt_6 111 rfl rfl
theorem wt_1312 : Cond.fieldLink "UnlikeLoavesModel" 383 "UnlikeLoavesModel" "isTold" "Z" ∈ mU := lt_6 112 rfl rfl
theorem wt_1313 : Cond.fieldLink "UnlikeLoavesModel" 315 "UnlikeLoavesModel" "textKind" "I" ∈ mU := lt_6 113 rfl rfl
theorem wt_1314 : Cond.fieldLink "UnlikeLoavesModel" 127 "UnlikeLoavesModel" "now" "[I" ∈ mU := lt_6 114 rfl rfl
theorem wt_1315 : Cond.fieldLink "UnlikeLoavesModel" 130 "UnlikeLoavesModel" "found" "[I" ∈ mU := lt_6 115 rfl rfl
theorem wt_1316 : Cond.fieldLink "UnlikeLoavesModel" 404 "UnlikeLoavesModel" "foundMany" "I" ∈ mU := lt_6 116 rfl rfl
theorem wt_1317 : Cond.fieldLink "UnlikeLoavesModel" 133 "UnlikeLoavesModel" "row0" "[I" ∈ mU := lt_6 117 rfl rfl
theorem wt_1318 : Cond.fieldLink "UnlikeLoavesModel" 136 "UnlikeLoavesModel" "leftAt" "[J" ∈ mU := lt_6 118 rfl rfl
theorem wt_1319 : Cond.fieldLink "UnlikeLoavesModel" 139 "UnlikeLoavesModel" "dueSets" "[I" ∈ mU := lt_6 119 rfl rfl
theorem wt_1320 : Cond.fieldLink "UnlikeLoavesModel" 142 "UnlikeLoavesModel" "dueMany" "[I" ∈ mU := lt_6 120 rfl rfl
theorem wt_1321 : Cond.fieldLink "UnlikeLoavesModel" 145 "UnlikeLoavesModel" "dueSizes" "[I" ∈ mU := lt_6 121 rfl rfl
theorem wt_1322 : Cond.fieldLink "UnlikeLoavesModel" 443 "UnlikeLoavesModel" "askSize" "I" ∈ mU := lt_6 122 rfl rfl
theorem wt_1323 : Cond.fieldLink "UnlikeLoavesModel" 527 "UnlikeLoavesModel" "askPlace" "I" ∈ mU := lt_6 123 rfl rfl
theorem wt_1324 : Cond.fieldLink "UnlikeLoavesModel" 440 "UnlikeLoavesModel" "askPerson" "I" ∈ mU := lt_6 124 rfl rfl
theorem wt_1325 : Cond.fieldLink "UnlikeLoavesModel" 480 "UnlikeLoavesModel" "servedMany" "I" ∈ mU := lt_6 125 rfl rfl
theorem wt_1326 : Cond.fieldLink "UnlikeLoavesModel" 483 "UnlikeLoavesModel" "servedSet" "I" ∈ mU := lt_6 126 rfl rfl
theorem wt_1327 : Cond.fieldLink "UnlikeLoavesModel" 459 "UnlikeLoavesModel" "isThought" "Z" ∈ mU := lt_6 127 rfl rfl
theorem wt_1328 : Cond.fieldLink "UnlikeLoavesModel" 148 "UnlikeLoavesModel" "aside" "[I" ∈ mU := lt_6 128 rfl rfl
theorem wt_1329 : Cond.fieldLink "UnlikeLoavesModel" 151 "UnlikeLoavesModel" "feastRow" "[I" ∈ mU := lt_6 129 rfl rfl
theorem wt_1330 : Cond.fieldLink "UnlikeLoavesModel" 154 "UnlikeLoavesModel" "feastBest" "[I" ∈ mU := lt_6 130 rfl rfl
theorem wt_1331 : Cond.fieldLink "UnlikeLoavesModel" 569 "UnlikeLoavesModel" "feastMany" "I" ∈ mU := lt_6 131 rfl rfl
theorem wt_1332 : Cond.fieldLink "UnlikeLoavesModel" 393 "UnlikeLoavesModel" "rowMany" "I" ∈ mU := lt_6 132 rfl rfl
theorem wt_1333 : Cond.fieldLink "UnlikeLoavesModel" 157 "UnlikeLoavesModel" "rows" "[I" ∈ mU := lt_6 133 rfl rfl
theorem wt_1334 : Cond.fieldLink "UnlikeLoavesModel" 160 "UnlikeLoavesModel" "ways0" "[I" ∈ mU := lt_6 134 rfl rfl
theorem wt_1335 : Cond.fieldLink "UnlikeLoavesModel" 163 "UnlikeLoavesModel" "kept0" "[I" ∈ mU := lt_6 135 rfl rfl
theorem wt_1336 : Cond.fieldLink "UnlikeLoavesModel" 390 "UnlikeLoavesModel" "undoable" "I" ∈ mU := lt_6 136 rfl rfl
theorem wt_1337 : Cond.fieldLink "UnlikeLoavesModel" 590 "UnlikeLoavesModel" "newest" "I" ∈ mU := lt_6 137 rfl rfl
theorem wt_1338 : Cond.fieldLink "UnlikeLoavesModel" 166 "UnlikeLoavesModel" "seeded" "J" ∈ mU := lt_6 138 rfl rfl
theorem wt_1339 : Cond.fieldLink "UnlikeLoavesModel" 170 "UnlikeLoavesModel" "firstAsked" "[C" ∈ mU := lt_6 139 rfl rfl
theorem wt_1340 : Cond.fieldLink "UnlikeLoavesModel" 173 "UnlikeLoavesModel" "lastAsked" "[C" ∈ mU := lt_6 140 rfl rfl
theorem wt_1341 : Cond.fieldLink "UnlikeLoavesModel" 176 "UnlikeLoavesModel" "oftenAsked" "[C" ∈ mU := lt_6 141 rfl rfl
theorem wt_1342 : Cond.fieldLink "UnlikeLoavesModel" 179 "UnlikeLoavesModel" "totalAsked" "[C" ∈ mU := lt_6 142 rfl rfl
theorem wt_1343 : Cond.fieldLink "UnlikeLoavesModel" 182 "UnlikeLoavesModel" "mostAsked" "[C" ∈ mU := lt_6 143 rfl rfl
theorem wt_1344 : Cond.fieldLink "UnlikeLoavesModel" 185 "UnlikeLoavesModel" "leastAsked" "[C" ∈ mU := lt_6 144 rfl rfl
theorem wt_1345 : Cond.fieldLink "UnlikeLoavesModel" 188 "UnlikeLoavesModel" "notAsked" "[C" ∈ mU := lt_6 145 rfl rfl
theorem wt_1346 : Cond.fieldLink "UnlikeLoavesModel" 191 "UnlikeLoavesModel" "andAsked" "[C" ∈ mU := lt_6 146 rfl rfl
theorem wt_1347 : Cond.fieldLink "UnlikeLoavesModel" 194 "UnlikeLoavesModel" "orAsked" "[C" ∈ mU := lt_6 147 rfl rfl
theorem wt_1348 : Cond.fieldLink "UnlikeLoavesModel" 197 "UnlikeLoavesModel" "allAsked" "[C" ∈ mU := lt_6 148 rfl rfl
theorem wt_1349 : Cond.fieldLink "UnlikeLoavesModel" 200 "UnlikeLoavesModel" "minAsked" "[C" ∈ mU := lt_6 149 rfl rfl
theorem wt_1350 : Cond.fieldLink "UnlikeLoavesModel" 203 "UnlikeLoavesModel" "maxAsked" "[C" ∈ mU := lt_6 150 rfl rfl
theorem wt_1351 : Cond.fieldLink "UnlikeLoavesModel" 206 "UnlikeLoavesModel" "sizeAsked" "[C" ∈ mU := lt_6 151 rfl rfl
theorem wt_1352 : Cond.fieldLink "UnlikeLoavesModel" 209 "UnlikeLoavesModel" "stockAsked" "[C" ∈ mU := lt_6 152 rfl rfl
theorem wt_1353 : Cond.fieldLink "UnlikeLoavesModel" 212 "UnlikeLoavesModel" "dayAsked" "[C" ∈ mU := lt_6 153 rfl rfl
theorem wt_1354 : Cond.fieldLink "UnlikeLoavesModel" 215 "UnlikeLoavesModel" "placeAsked" "[C" ∈ mU := lt_6 154 rfl rfl
theorem wt_1355 : Cond.fieldLink "UnlikeLoavesModel" 218 "UnlikeLoavesModel" "hungerAsked" "[C" ∈ mU := lt_6 155 rfl rfl
theorem wt_1356 : Cond.fieldLink "UnlikeLoavesModel" 221 "UnlikeLoavesModel" "numberAsked" "[C" ∈ mU := lt_6 156 rfl rfl
theorem wt_1357 : Cond.fieldLink "UnlikeLoavesModel" 224 "UnlikeLoavesModel" "topAsked" "[C" ∈ mU := lt_6 157 rfl rfl
theorem wt_1358 : Cond.fieldLink "UnlikeLoavesModel" 227 "UnlikeLoavesModel" "bottomAsked" "[C" ∈ mU := lt_6 158 rfl rfl
theorem wt_1359 : Cond.fieldLink "UnlikeLoavesModel" 230 "UnlikeLoavesModel" "waysAsked" "[C" ∈ mU := lt_6 159 rfl rfl
theorem wt_1360 : Cond.fieldLink "UnlikeLoavesModel" 233 "UnlikeLoavesModel" "hadAsked" "[C" ∈ mU := lt_6 160 rfl rfl
theorem wt_1361 : Cond.fieldLink "UnlikeLoavesModel" 236 "UnlikeLoavesModel" "stockofAsked" "[C" ∈ mU := lt_6 161 rfl rfl
theorem wt_1362 : Cond.fieldLink "UnlikeLoavesModel" 239 "UnlikeLoavesModel" "fitsofAsked" "[C" ∈ mU := lt_6 162 rfl rfl
theorem wt_1363 : Cond.fieldLink "UnlikeLoavesModel" 242 "UnlikeLoavesModel" "qCodes" "[I" ∈ mU := lt_6 163 rfl rfl
theorem wt_1364 : Cond.fieldLink "UnlikeLoavesModel" 334 "UnlikeLoavesModel" "qCoded" "I" ∈ mU := lt_6 164 rfl rfl
theorem wt_1365 : Cond.fieldLink "UnlikeLoavesModel" 245 "UnlikeLoavesModel" "qWait" "[I" ∈ mU := lt_6 165 rfl rfl
theorem wt_1366 : Cond.fieldLink "UnlikeLoavesModel" 337 "UnlikeLoavesModel" "qWaits" "I" ∈ mU := lt_6 166 rfl rfl
theorem wt_1367 : Cond.fieldLink "UnlikeLoavesModel" 340 "UnlikeLoavesModel" "qOpened" "I" ∈ mU := lt_6 167 rfl rfl
theorem wt_1368 : Cond.fieldLink "UnlikeLoavesModel" 343 "UnlikeLoavesModel" "qBase" "I" ∈ mU := lt_6 168 rfl rfl
theorem wt_1369 : Cond.fieldLink "UnlikeLoavesModel" 248 "UnlikeLoavesModel" "qPile" "[J" ∈ mU := lt_6 169 rfl rfl
theorem wt_1370 : Cond.fieldLink "UnlikeLoavesModel" 421 "UnlikeLoavesModel" "qPiled" "I" ∈ mU := lt_6 170 rfl rfl
theorem wt_1371 : Cond.fieldLink "UnlikeLoavesModel" 682 "UnlikeLoavesModel" "qAnswer" "J" ∈ mU := lt_6 171 rfl rfl
theorem wt_1372 : Cond.fieldLink "UnlikeLoavesModel" 685 "UnlikeLoavesModel" "qIsNew" "Z" ∈ mU := lt_6 172 rfl rfl
theorem wt_1373 : Cond.fieldLink "UnlikeLoavesModel" 251 "UnlikeLoavesModel" "octet" "[I" ∈ mU := lt_6 173 rfl rfl
theorem wt_1374 : Cond.fieldLink "UnlikeLoavesModel" 698 "UnlikeLoavesModel" "octets" "I" ∈ mU := lt_6 174 rfl rfl
theorem wt_1613 : Cond.methodLink "UnlikeLoavesModel" 367 yX12_finestTold ∈ mU := lt_7 173 rfl rfl
theorem wt_1615 : Cond.instanceMethod yX12_finestTold ∈ mU := lt_7 175 rfl rfl
theorem wt_1616 : Cond.code yX12_finestTold cX12_finestTold 1 none ∈ mU := lt_7 176 rfl rfl
theorem wt_1617 : Cond.methodLink "UnlikeLoavesModel" 318 yX12_asks ∈ mU := lt_7 177 rfl rfl
theorem wt_1619 : Cond.instanceMethod yX12_asks ∈ mU := lt_7 179 rfl rfl
theorem wt_1620 : Cond.code yX12_asks cX12_asks 2 none ∈ mU := lt_7 180 rfl rfl
theorem wt_1621 : Cond.methodLink "UnlikeLoavesModel" 284 yX12_takes ∈ mU := lt_7 181 rfl rfl
theorem wt_1623 : Cond.instanceMethod yX12_takes ∈ mU := lt_7 183 rfl rfl
theorem wt_1624 : Cond.code yX12_takes cX12_takes 2 (some .boolean) ∈ mU := lt_7 184 rfl rfl
theorem wt_1625 : Cond.methodLink "UnlikeLoavesModel" 280 yX12_isHere ∈ mU := lt_7 185 rfl rfl
theorem wt_1627 : Cond.instanceMethod yX12_isHere ∈ mU := lt_7 187 rfl rfl
theorem wt_1628 : Cond.code yX12_isHere cX12_isHere 4 (some .boolean) ∈ mU := lt_7 188 rfl rfl
theorem wt_1629 : Cond.methodLink "UnlikeLoavesModel" 269 yX12_look ∈ mU := lt_7 189 rfl rfl
theorem wt_1631 : Cond.instanceMethod yX12_look ∈ mU := lt_7 191 rfl rfl
theorem wt_1632 : Cond.code yX12_look cX12_look 1 (some .int) ∈ mU := lt_7 192 rfl rfl
theorem wt_1633 : Cond.methodLink "UnlikeLoavesModel" 273 yX12_isLetter ∈ mU := lt_7 193 rfl rfl
theorem wt_1634 : Cond.static yX12_isLetter ∈ mU := lt_7 194 rfl rfl
theorem wt_1635 : Cond.code yX12_isLetter cX12_isLetter 1 (some .boolean) ∈ mU := lt_7 195 rfl rfl
theorem wt_1636 : Cond.methodLink "UnlikeLoavesModel" 287 yX12_fail ∈ mU := lt_7 196 rfl rfl
theorem wt_1638 : Cond.instanceMethod yX12_fail ∈ mU := lt_7 198 rfl rfl
theorem wt_1639 : Cond.code yX12_fail cX12_fail 3 none ∈ mU := lt_7 199 rfl rfl
theorem wt_1640 : Cond.methodLink "UnlikeLoavesModel" 322 yX12_number ∈ mU := lt_7 200 rfl rfl
theorem wt_1642 : Cond.instanceMethod yX12_number ∈ mU := lt_7 202 rfl rfl
theorem wt_1643 : Cond.code yX12_number cX12_number 5 (some .int) ∈ mU := lt_7 203 rfl rfl
theorem wt_1644 : Cond.methodLink "UnlikeLoavesModel" 294 yX12_isDigit ∈ mU := lt_7 204 rfl rfl
theorem wt_1645 : Cond.static yX12_isDigit ∈ mU := lt_7 205 rfl rfl
theorem wt_1646 : Cond.code yX12_isDigit cX12_isDigit 1 (some .boolean) ∈ mU := lt_7 206 rfl rfl
theorem wt_1647 : Cond.methodLink "UnlikeLoavesModel" 300 yX12_isIn ∈ mU := lt_7 207 rfl rfl
theorem wt_1648 : Cond.static yX12_isIn ∈ mU := lt_7 208 rfl rfl
theorem wt_1649 : Cond.code yX12_isIn cX12_isIn 6 (some .boolean) ∈ mU := lt_7 209 rfl rfl
theorem wt_1650 : Cond.methodLink "UnlikeLoavesModel" 326 yX12_asksSign ∈ mU := lt_7 210 rfl rfl
theorem wt_1652 : Cond.instanceMethod yX12_asksSign ∈ mU := lt_7 212 rfl rfl
theorem wt_1653 : Cond.code yX12_asksSign cX12_asksSign 2 none ∈ mU := lt_7 213 rfl rfl
theorem wt_1654 : Cond.methodLink "UnlikeLoavesModel" 291 yX12_takesSign ∈ mU := lt_7 214 rfl rfl
theorem wt_1656 : Cond.instanceMethod yX12_takesSign ∈ mU := lt_7 216 rfl rfl
theorem wt_1657 : Cond.code yX12_takesSign cX12_takesSign 2 (some .boolean) ∈ mU := lt_7 217 rfl rfl
theorem wt_1658 : Cond.methodLink "UnlikeLoavesModel" 370 yX12_statementTold ∈ mU := lt_7 218 rfl rfl
theorem wt_1660 : Cond.instanceMethod yX12_statementTold ∈ mU := lt_7 220 rfl rfl
theorem wt_1661 : Cond.code yX12_statementTold cX12_statementTold 2 none ∈ mU := lt_7 221 rfl rfl
theorem wt_1662 : Cond.methodLink "UnlikeLoavesModel" 358 yX12_personTold ∈ mU := lt_7 222 rfl rfl
theorem wt_1664 : Cond.instanceMethod yX12_personTold ∈ mU := lt_7 224 rfl rfl
theorem wt_1665 : Cond.code yX12_personTold cX12_personTold 7 none ∈ mU := lt_7 225 rfl rfl
theorem wt_1666 : Cond.methodLink "UnlikeLoavesModel" 330 yX12_name ∈ mU := lt_7 226 rfl rfl
theorem wt_1668 : Cond.instanceMethod yX12_name ∈ mU := lt_7 228 rfl rfl
theorem wt_1669 : Cond.code yX12_name cX12_name 3 (some .long) ∈ mU := lt_7 229 rfl rfl
theorem wt_1670 : Cond.methodLink "UnlikeLoavesModel" 304 yX12_isOwnHere ∈ mU := lt_7 230 rfl rfl
theorem wt_1672 : Cond.instanceMethod yX12_isOwnHere ∈ mU := lt_7 232 rfl rfl
theorem wt_1673 : Cond.code yX12_isOwnHere cX12_isOwnHere 2 (some .boolean) ∈ mU := lt_7 233 rfl rfl
theorem wt_1674 : Cond.constantLong "UnlikeLoavesModel" 311 (27 : Int64) ∈ mU := lt_7 234 rfl rfl
theorem wt_1675 : Cond.constantLong "UnlikeLoavesModel" 313 (97 : Int64) ∈ mU := lt_7 235 rfl rfl
theorem wt_1676 : Cond.methodLink "UnlikeLoavesModel" 361 yX12_haveTold ∈ mU := lt_7 236 rfl rfl
theorem wt_1678 : Cond.instanceMethod yX12_haveTold ∈ mU := lt_7 238 rfl rfl
theorem wt_1679 : Cond.code yX12_haveTold cX12_haveTold 3 none ∈ mU := lt_7 239 rfl rfl
theorem wt_1680 : Cond.methodLink "UnlikeLoavesModel" 364 yX12_codesTold ∈ mU := lt_8 0 rfl rfl
theorem wt_1682 : Cond.instanceMethod yX12_codesTold ∈ mU := lt_8 2 rfl rfl
theorem wt_1683 : Cond.code yX12_codesTold cX12_codesTold 4 none ∈ mU := lt_8 3 rfl rfl
theorem wt_1684 : Cond.methodLink "UnlikeLoavesModel" 346 yX12_qTest ∈ mU := lt_8 4 rfl rfl
theorem wt_1686 : Cond.instanceMethod yX12_qTest ∈ mU := lt_8 6 rfl rfl
theorem wt_1687 : Cond.code yX12_qTest cX12_qTest 3 none ∈ mU := lt_8 7 rfl rfl
theorem wt_1688 : Cond.methodLink "UnlikeLoavesModel" 631 yX12_qOpens ∈ mU := lt_8 8 rfl rfl
theorem wt_1690 : Cond.instanceMethod yX12_qOpens ∈ mU := lt_8 10 rfl rfl
theorem wt_1691 : Cond.code yX12_qOpens cX12_qOpens 3 none ∈ mU := lt_8 11 rfl rfl
theorem wt_1692 : Cond.methodLink "UnlikeLoavesModel" 655 yX12_qFact ∈ mU := lt_8 12 rfl rfl
theorem wt_1694 : Cond.instanceMethod yX12_qFact ∈ mU := lt_8 14 rfl rfl
theorem wt_1695 : Cond.code yX12_qFact cX12_qFact 2 none ∈ mU := lt_8 15 rfl rfl
theorem wt_1696 : Cond.methodLink "UnlikeLoavesModel" 613 yX12_qCode ∈ mU := lt_8 16 rfl rfl
theorem wt_1698 : Cond.instanceMethod yX12_qCode ∈ mU := lt_8 18 rfl rfl
theorem wt_1699 : Cond.code yX12_qCode cX12_qCode 2 none ∈ mU := lt_8 19 rfl rfl
theorem wt_1700 : Cond.methodLink "UnlikeLoavesModel" 349 yX12_qSums ∈ mU := lt_8 20 rfl rfl
theorem wt_1702 : Cond.instanceMethod yX12_qSums ∈ mU := lt_8 22 rfl rfl
theorem wt_1703 : Cond.code yX12_qSums cX12_qSums 3 none ∈ mU := lt_8 23 rfl rfl
theorem wt_1704 : Cond.methodLink "UnlikeLoavesModel" 649 yX12_qPartTold ∈ mU := lt_8 24 rfl rfl
theorem wt_1706 : Cond.instanceMethod yX12_qPartTold ∈ mU := lt_8 26 rfl rfl
theorem wt_1707 : Cond.code yX12_qPartTold cX12_qPartTold 6 none ∈ mU := lt_8 27 rfl rfl
theorem wt_1708 : Cond.methodLink "UnlikeLoavesModel" 628 yX12_qWordOf ∈ mU := lt_8 28 rfl rfl
theorem wt_1710 : Cond.instanceMethod yX12_qWordOf ∈ mU := lt_8 30 rfl rfl
theorem wt_1711 : Cond.code yX12_qWordOf cX12_qWordOf 4 (some .int) ∈ mU := lt_8 31 rfl rfl
theorem wt_1712 : Cond.methodLink "UnlikeLoavesModel" 622 yX12_qWordHere ∈ mU := lt_8 32 rfl rfl
theorem wt_1714 : Cond.instanceMethod yX12_qWordHere ∈ mU := lt_8 34 rfl rfl
theorem wt_1715 : Cond.code yX12_qWordHere cX12_qWordHere 1 (some .int) ∈ mU := lt_8 35 rfl rfl
theorem wt_1716 : Cond.methodLink "UnlikeLoavesModel" 625 yX12_isAllowed ∈ mU := lt_8 36 rfl rfl
theorem wt_1718 : Cond.instanceMethod yX12_isAllowed ∈ mU := lt_8 38 rfl rfl
theorem wt_1719 : Cond.code yX12_isAllowed cX12_isAllowed 2 (some .boolean) ∈ mU := lt_8 39 rfl rfl
theorem wt_1720 : Cond.methodLink "UnlikeLoavesModel" 634 yX12_qAsksWord ∈ mU := lt_8 40 rfl rfl
theorem wt_1722 : Cond.instanceMethod yX12_qAsksWord ∈ mU := lt_8 42 rfl rfl
theorem wt_1723 : Cond.code yX12_qAsksWord cX12_qAsksWord 2 none ∈ mU := lt_8 43 rfl rfl
theorem wt_1724 : Cond.methodLink "UnlikeLoavesModel" 637 yX12_qEndsPart ∈ mU := lt_8 44 rfl rfl
theorem wt_1726 : Cond.instanceMethod yX12_qEndsPart ∈ mU := lt_8 46 rfl rfl
theorem wt_1727 : Cond.code yX12_qEndsPart cX12_qEndsPart 1 none ∈ mU := lt_8 47 rfl rfl
theorem wt_1728 : Cond.methodLink "UnlikeLoavesModel" 619 yX12_qDrops ∈ mU := lt_8 48 rfl rfl
theorem wt_1730 : Cond.instanceMethod yX12_qDrops ∈ mU := lt_8 50 rfl rfl
theorem wt_1731 : Cond.code yX12_qDrops cX12_qDrops 1 none ∈ mU := lt_8 51 rfl rfl
theorem wt_1732 : Cond.methodLink "UnlikeLoavesModel" 652 yX12_qGoesOn ∈ mU := lt_8 52 rfl rfl
theorem wt_1734 : Cond.instanceMethod yX12_qGoesOn ∈ mU := lt_8 54 rfl rfl
theorem wt_1735 : Cond.code yX12_qGoesOn cX12_qGoesOn 2 (some .boolean) ∈ mU := lt_8 55 rfl rfl
theorem wt_1736 : Cond.methodLink "UnlikeLoavesModel" 640 yX12_qBracket ∈ mU := lt_8 56 rfl rfl
theorem wt_1738 : Cond.instanceMethod yX12_qBracket ∈ mU := lt_8 58 rfl rfl
theorem wt_1739 : Cond.code yX12_qBracket cX12_qBracket 2 (some .int) ∈ mU := lt_8 59 rfl rfl
theorem wt_1740 : Cond.methodLink "UnlikeLoavesModel" 616 yX12_qIsBracket ∈ mU := lt_8 60 rfl rfl
theorem wt_1741 : Cond.static yX12_qIsBracket ∈ mU := lt_8 61 rfl rfl
theorem wt_1742 : Cond.code yX12_qIsBracket cX12_qIsBracket 1 (some .boolean) ∈ mU := lt_8 62 rfl rfl
theorem wt_1743 : Cond.methodLink "UnlikeLoavesModel" 643 yX12_qDropsToBracket ∈ mU := lt_8 63 rfl rfl
theorem wt_1745 : Cond.instanceMethod yX12_qDropsToBracket ∈ mU := lt_8 65 rfl rfl
theorem wt_1746 : Cond.code yX12_qDropsToBracket cX12_qDropsToBracket 1 none ∈ mU := lt_8 66 rfl rfl
theorem wt_1747 : Cond.methodLink "UnlikeLoavesModel" 646 yX12_qIsOn ∈ mU := lt_8 67 rfl rfl
theorem wt_1749 : Cond.instanceMethod yX12_qIsOn ∈ mU := lt_8 69 rfl rfl
theorem wt_1750 : Cond.code yX12_qIsOn cX12_qIsOn 2 (some .boolean) ∈ mU := lt_8 70 rfl rfl
theorem wt_1751 : Cond.methodLink "UnlikeLoavesModel" 658 yX12_qDropsNots ∈ mU := lt_8 71 rfl rfl
theorem wt_1753 : Cond.instanceMethod yX12_qDropsNots ∈ mU := lt_8 73 rfl rfl
theorem wt_1754 : Cond.code yX12_qDropsNots cX12_qDropsNots 1 none ∈ mU := lt_8 74 rfl rfl
theorem wt_1755 : Cond.methodLink "UnlikeLoavesModel" 661 yX12_qGoesOnTest ∈ mU := lt_8 75 rfl rfl
theorem wt_1757 : Cond.instanceMethod yX12_qGoesOnTest ∈ mU := lt_8 77 rfl rfl
theorem wt_1758 : Cond.code yX12_qGoesOnTest cX12_qGoesOnTest 1 (some .boolean) ∈ mU := lt_8 78 rfl rfl
theorem wt_1759 : Cond.methodLink "UnlikeLoavesModel" 664 yX12_qHasSquare ∈ mU := lt_8 79 rfl rfl
theorem wt_1761 : Cond.instanceMethod yX12_qHasSquare ∈ mU := lt_8 81 rfl rfl
theorem wt_1762 : Cond.code yX12_qHasSquare cX12_qHasSquare 2 (some .boolean) ∈ mU := lt_8 82 rfl rfl
theorem wt_1763 : Cond.methodLink "UnlikeLoavesModel" 376 yX12_refuses ∈ mU := lt_8 83 rfl rfl
theorem wt_1765 : Cond.instanceMethod yX12_refuses ∈ mU := lt_8 85 rfl rfl
theorem wt_1766 : Cond.code yX12_refuses cX12_refuses 2 (some .int) ∈ mU := lt_8 86 rfl rfl
theorem wt_1767 : Cond.methodLink "UnlikeLoavesModel" 380 yX12_stands ∈ mU := lt_8 87 rfl rfl
theorem wt_1769 : Cond.instanceMethod yX12_stands ∈ mU := lt_8 89 rfl rfl
theorem wt_1770 : Cond.code yX12_stands cX12_stands 2 none ∈ mU := lt_8 90 rfl rfl
theorem wt_1771 : Cond.methodLink "UnlikeLoavesModel" 387 yX12_laysDue ∈ mU := lt_8 91 rfl rfl
theorem wt_1773 : Cond.instanceMethod yX12_laysDue ∈ mU := lt_8 93 rfl rfl
theorem wt_1774 : Cond.code yX12_laysDue cX12_laysDue 3 none ∈ mU := lt_8 94 rfl rfl
theorem wt_1775 : Cond.methodLink "UnlikeLoavesModel" 413 yX12_partsOf ∈ mU := lt_8 95 rfl rfl
theorem wt_1776 : Cond.static yX12_partsOf ∈ mU := lt_8 96 rfl rfl
theorem wt_1777 : Cond.code yX12_partsOf cX12_partsOf 2 (some .long) ∈ mU := lt_8 97 rfl rfl
theorem wt_1778 : Cond.constantLong "UnlikeLoavesModel" 402 (5354228880 : Int64) ∈ mU := lt_8 98 rfl rfl
theorem wt_1779 : Cond.methodLink "UnlikeLoavesModel" 417 yX12_laysWritings ∈ mU := lt_8 99 rfl rfl
theorem wt_1781 : Cond.instanceMethod yX12_laysWritings ∈ mU := lt_8 101 rfl rfl
theorem wt_1782 : Cond.code yX12_laysWritings cX12_laysWritings 6 none ∈ mU := lt_8 102 rfl rfl
theorem wt_1783 : Cond.methodLink "UnlikeLoavesModel" 396 yX12_finest ∈ mU := lt_8 103 rfl rfl
theorem wt_1785 : Cond.instanceMethod yX12_finest ∈ mU := lt_8 105 rfl rfl
theorem wt_1786 : Cond.code yX12_finest cX12_finest 1 (some .int) ∈ mU := lt_8 106 rfl rfl
theorem wt_1787 : Cond.methodLink "UnlikeLoavesModel" 407 yX12_mostParts ∈ mU := lt_8 107 rfl rfl
theorem wt_1789 : Cond.instanceMethod yX12_mostParts ∈ mU := lt_8 109 rfl rfl
theorem wt_1790 : Cond.code yX12_mostParts cX12_mostParts 1 (some .int) ∈ mU := lt_8 110 rfl rfl
theorem wt_1791 : Cond.methodLink "UnlikeLoavesModel" 410 yX12_rowSet ∈ mU := lt_8 111 rfl rfl
theorem wt_1793 : Cond.instanceMethod yX12_rowSet ∈ mU := lt_8 113 rfl rfl
theorem wt_1794 : Cond.code yX12_rowSet cX12_rowSet 4 (some .int) ∈ mU := lt_8 114 rfl rfl
theorem wt_1803 : Cond.methodLink "UnlikeLoavesModel" 399 yX12_personMany ∈ mU := lt_8 123 rfl rfl
theorem wt_1805 : Cond.instanceMethod yX12_personMany ∈ mU := lt_8 125 rfl rfl
theorem wt_1806 : Cond.code yX12_personMany cX12_personMany 1 (some .int) ∈ mU := lt_8 126 rfl rfl
theorem wt_1807 : Cond.methodLink "UnlikeLoavesModel" 495 yX12_sumOf ∈ mU := lt_8 127 rfl rfl
theorem wt_1809 : Cond.instanceMethod yX12_sumOf ∈ mU := lt_8 129 rfl rfl
theorem wt_1810 : Cond.code yX12_sumOf cX12_sumOf 6 (some .int) ∈ mU := lt_8 130 rfl rfl
theorem wt_1811 : Cond.methodLink "UnlikeLoavesModel" 499 yX12_hungryMany ∈ mU := lt_8 131 rfl rfl
theorem wt_1813 : Cond.instanceMethod yX12_hungryMany ∈ mU := lt_8 133 rfl rfl
theorem wt_1814 : Cond.code yX12_hungryMany cX12_hungryMany 3 (some .int) ∈ mU := lt_8 134 rfl rfl
theorem wt_1815 : Cond.methodLink "UnlikeLoavesModel" 474 yX12_hungerOf ∈ mU := lt_8 135 rfl rfl
theorem wt_1817 : Cond.instanceMethod yX12_hungerOf ∈ mU := lt_8 137 rfl rfl
theorem wt_1818 : Cond.code yX12_hungerOf cX12_hungerOf 2 (some .int) ∈ mU := lt_8 138 rfl rfl
theorem wt_1823 : Cond.methodLink "UnlikeLoavesModel" 502 yX12_isPerson ∈ mU := lt_8 143 rfl rfl
theorem wt_1825 : Cond.instanceMethod yX12_isPerson ∈ mU := lt_8 145 rfl rfl
theorem wt_1826 : Cond.code yX12_isPerson cX12_isPerson 2 (some .boolean) ∈ mU := lt_8 146 rfl rfl
theorem wt_1827 : Cond.constantLong "UnlikeLoavesModel" 505 (5 : Int64) ∈ mU := lt_8 147 rfl rfl
theorem wt_1832 : Cond.methodLink "UnlikeLoavesModel" 465 yX12_timesOf ∈ mU := lt_8 152 rfl rfl
theorem wt_1834 : Cond.instanceMethod yX12_timesOf ∈ mU := lt_8 154 rfl rfl
theorem wt_1835 : Cond.code yX12_timesOf cX12_timesOf 2 (some .int) ∈ mU := lt_8 155 rfl rfl
theorem wt_1836 : Cond.methodLink "UnlikeLoavesModel" 507 yX12_takenBy ∈ mU := lt_8 156 rfl rfl
theorem wt_1838 : Cond.instanceMethod yX12_takenBy ∈ mU := lt_8 158 rfl rfl
theorem wt_1839 : Cond.code yX12_takenBy cX12_takenBy 3 (some .int) ∈ mU := lt_8 159 rfl rfl
theorem wt_1840 : Cond.methodLink "UnlikeLoavesModel" 456 yX12_writingFor ∈ mU := lt_8 160 rfl rfl
theorem wt_1842 : Cond.instanceMethod yX12_writingFor ∈ mU := lt_8 162 rfl rfl
theorem wt_1843 : Cond.code yX12_writingFor cX12_writingFor 3 (some .int) ∈ mU := lt_8 163 rfl rfl
theorem wt_1844 : Cond.methodLink "UnlikeLoavesModel" 450 yX12_isInStock ∈ mU := lt_8 164 rfl rfl
theorem wt_1846 : Cond.instanceMethod yX12_isInStock ∈ mU := lt_8 166 rfl rfl
theorem wt_1847 : Cond.code yX12_isInStock cX12_isInStock 3 (some .boolean) ∈ mU := lt_8 167 rfl rfl
theorem wt_1848 : Cond.methodLink "UnlikeLoavesModel" 433 yX12_isOf ∈ mU := lt_8 168 rfl rfl
theorem wt_1849 : Cond.static yX12_isOf ∈ mU := lt_8 169 rfl rfl
theorem wt_1850 : Cond.code yX12_isOf cX12_isOf 2 (some .boolean) ∈ mU := lt_8 170 rfl rfl
theorem wt_1851 : Cond.methodLink "UnlikeLoavesModel" 453 yX12_isLiked ∈ mU := lt_8 171 rfl rfl
theorem wt_1853 : Cond.instanceMethod yX12_isLiked ∈ mU := lt_8 173 rfl rfl
theorem wt_1854 : Cond.code yX12_isLiked cX12_isLiked 4 (some .boolean) ∈ mU := lt_8 174 rfl rfl
theorem wt_1855 : Cond.methodLink "UnlikeLoavesModel" 437 yX12_isCoded ∈ mU := lt_8 175 rfl rfl
theorem wt_1857 : Cond.instanceMethod yX12_isCoded ∈ mU := lt_8 177 rfl rfl
theorem wt_1858 : Cond.code yX12_isCoded cX12_isCoded 2 (some .boolean) ∈ mU := lt_8 178 rfl rfl
theorem wt_1859 : Cond.methodLink "UnlikeLoavesModel" 446 yX12_codesTell ∈ mU := lt_8 179 rfl rfl
theorem wt_1861 : Cond.instanceMethod yX12_codesTell ∈ mU := lt_8 181 rfl rfl
theorem wt_1862 : Cond.code yX12_codesTell cX12_codesTell 4 (some .long) ∈ mU := lt_8 182 rfl rfl
theorem wt_1863 : Cond.methodLink "UnlikeLoavesModel" 424 yX12_qPuts ∈ mU := lt_8 183 rfl rfl
theorem wt_1865 : Cond.instanceMethod yX12_qPuts ∈ mU := lt_8 185 rfl rfl
theorem wt_1866 : Cond.code yX12_qPuts cX12_qPuts 3 none ∈ mU := lt_8 186 rfl rfl
theorem wt_1867 : Cond.methodLink "UnlikeLoavesModel" 427 yX12_qPartOf ∈ mU := lt_8 187 rfl rfl
theorem wt_1869 : Cond.instanceMethod yX12_qPartOf ∈ mU := lt_8 189 rfl rfl
theorem wt_1870 : Cond.code yX12_qPartOf cX12_qPartOf 3 (some .long) ∈ mU := lt_8 190 rfl rfl
theorem wt_1871 : Cond.methodLink "UnlikeLoavesModel" 430 yX12_qJoins ∈ mU := lt_8 191 rfl rfl
theorem wt_1873 : Cond.instanceMethod yX12_qJoins ∈ mU := lt_8 193 rfl rfl
theorem wt_1874 : Cond.code yX12_qJoins cX12_qJoins 6 none ∈ mU := lt_8 194 rfl rfl
theorem wt_1875 : Cond.methodLink "UnlikeLoavesModel" 671 yX12_qClip ∈ mU := lt_8 195 rfl rfl
theorem wt_1876 : Cond.static yX12_qClip ∈ mU := lt_8 196 rfl rfl
theorem wt_1877 : Cond.code yX12_qClip cX12_qClip 2 (some .long) ∈ mU := lt_8 197 rfl rfl
theorem wt_1878 : Cond.constantLong "UnlikeLoavesModel" 667 (1000000 : Int64) ∈ mU := lt_8 198 rfl rfl
theorem wt_1879 : Cond.constantLong "UnlikeLoavesModel" 669 (-1000000 : Int64) ∈ mU := lt_8 199 rfl rfl
theorem wt_1880 : Cond.methodLink "UnlikeLoavesModel" 675 yX12_qFloor ∈ mU := lt_8 200 rfl rfl
theorem wt_1881 : Cond.static yX12_qFloor ∈ mU := lt_8 201 rfl rfl
theorem wt_1882 : Cond.code yX12_qFloor cX12_qFloor 6 (some .long) ∈ mU := lt_8 202 rfl rfl
theorem wt_1887 : Cond.methodLink "UnlikeLoavesModel" 510 yX12_isSize ∈ mU := lt_8 207 rfl rfl
theorem wt_1889 : Cond.instanceMethod yX12_isSize ∈ mU := lt_8 209 rfl rfl
theorem wt_1890 : Cond.code yX12_isSize cX12_isSize 3 (some .boolean) ∈ mU := lt_8 210 rfl rfl
theorem wt_1895 : Cond.constantLong "UnlikeLoavesModel" 514 (2 : Int64) ∈ mU := lt_8 215 rfl rfl
theorem wt_1900 : Cond.methodLink "UnlikeLoavesModel" 518 yX12_isShare ∈ mU := lt_8 220 rfl rfl
theorem wt_1902 : Cond.instanceMethod yX12_isShare ∈ mU := lt_8 222 rfl rfl
theorem wt_1903 : Cond.code yX12_isShare cX12_isShare 3 (some .boolean) ∈ mU := lt_8 223 rfl rfl
theorem wt_1904 : Cond.constantLong "UnlikeLoavesModel" 516 (99 : Int64) ∈ mU := lt_8 224 rfl rfl
theorem wt_1913 : Cond.methodLink "UnlikeLoavesModel" 521 yX12_bits ∈ mU := lt_8 233 rfl rfl
theorem wt_1914 : Cond.static yX12_bits ∈ mU := lt_8 234 rfl rfl
theorem wt_1915 : Cond.code yX12_bits cX12_bits 3 (some .int) ∈ mU := lt_8 235 rfl rfl
theorem wt_1920 : Cond.methodLink "UnlikeLoavesModel" 524 yX12_shortestFound ∈ mU := lt_9 0 rfl rfl
theorem wt_1922 : Cond.instanceMethod yX12_shortestFound ∈ mU := lt_9 2 rfl rfl
theorem wt_1923 : Cond.code yX12_shortestFound cX12_shortestFound 3 (some .int) ∈ mU := lt_9 3 rfl rfl
theorem wt_1928 : Cond.constantLong "UnlikeLoavesModel" 530 (-1000000000000000 : Int64) ∈ mU := lt_9 8 rfl rfl
theorem wt_1929 : Cond.methodLink "UnlikeLoavesModel" 532 yX12_costOf ∈ mU := lt_9 9 rfl rfl
theorem wt_1931 : Cond.instanceMethod yX12_costOf ∈ mU := lt_9 11 rfl rfl
theorem wt_1932 : Cond.code yX12_costOf cX12_costOf 5 (some .long) ∈ mU := lt_9 12 rfl rfl
theorem wt_1937 : Cond.methodLink "UnlikeLoavesModel" 535 yX12_isSet ∈ mU := lt_9 17 rfl rfl
theorem wt_1939 : Cond.instanceMethod yX12_isSet ∈ mU := lt_9 19 rfl rfl
theorem wt_1940 : Cond.code yX12_isSet cX12_isSet 2 (some .boolean) ∈ mU := lt_9 20 rfl rfl
theorem wt_1941 : Cond.methodLink "UnlikeLoavesModel" 538 yX12_madeBy ∈ mU := lt_9 21 rfl rfl
theorem wt_1943 : Cond.instanceMethod yX12_madeBy ∈ mU := lt_9 23 rfl rfl
theorem wt_1944 : Cond.code yX12_madeBy cX12_madeBy 5 (some .long) ∈ mU := lt_9 24 rfl rfl
theorem wt_1945 : Cond.methodLink "UnlikeLoavesModel" 541 yX12_common ∈ mU := lt_9 25 rfl rfl
theorem wt_1946 : Cond.static yX12_common ∈ mU := lt_9 26 rfl rfl
theorem wt_1947 : Cond.code yX12_common cX12_common 10 (some .long) ∈ mU := lt_9 27 rfl rfl
theorem wt_1964 : Cond.methodLink "UnlikeLoavesModel" 545 yX12_isAhead ∈ mU := lt_9 44 rfl rfl
theorem wt_1966 : Cond.instanceMethod yX12_isAhead ∈ mU := lt_9 46 rfl rfl
theorem wt_1967 : Cond.code yX12_isAhead cX12_isAhead 4 (some .boolean) ∈ mU := lt_9 47 rfl rfl
theorem wt_1968 : Cond.methodLink "UnlikeLoavesModel" 549 yX12_putsAside ∈ mU := lt_9 48 rfl rfl
theorem wt_1970 : Cond.instanceMethod yX12_putsAside ∈ mU := lt_9 50 rfl rfl
theorem wt_1971 : Cond.code yX12_putsAside cX12_putsAside 2 none ∈ mU := lt_9 51 rfl rfl
theorem wt_1972 : Cond.methodLink "UnlikeLoavesModel" 552 yX12_daysGo ∈ mU := lt_9 52 rfl rfl
theorem wt_1974 : Cond.instanceMethod yX12_daysGo ∈ mU := lt_9 54 rfl rfl
theorem wt_1975 : Cond.code yX12_daysGo cX12_daysGo 3 none ∈ mU := lt_9 55 rfl rfl
theorem wt_1976 : Cond.methodLink "UnlikeLoavesModel" 489 yX12_dayGoes ∈ mU := lt_9 56 rfl rfl
theorem wt_1978 : Cond.instanceMethod yX12_dayGoes ∈ mU := lt_9 58 rfl rfl
theorem wt_1979 : Cond.code yX12_dayGoes cX12_dayGoes 2 none ∈ mU := lt_9 59 rfl rfl
theorem wt_1980 : Cond.methodLink "UnlikeLoavesModel" 468 yX12_lessOf ∈ mU := lt_9 60 rfl rfl
theorem wt_1981 : Cond.static yX12_lessOf ∈ mU := lt_9 61 rfl rfl
theorem wt_1982 : Cond.code yX12_lessOf cX12_lessOf 2 (some .int) ∈ mU := lt_9 62 rfl rfl
theorem wt_1983 : Cond.methodLink "UnlikeLoavesModel" 486 yX12_comesBy ∈ mU := lt_9 63 rfl rfl
theorem wt_1985 : Cond.instanceMethod yX12_comesBy ∈ mU := lt_9 65 rfl rfl
theorem wt_1986 : Cond.code yX12_comesBy cX12_comesBy 3 none ∈ mU := lt_9 66 rfl rfl
theorem wt_1987 : Cond.methodLink "UnlikeLoavesModel" 477 yX12_hands ∈ mU := lt_9 67 rfl rfl
theorem wt_1989 : Cond.instanceMethod yX12_hands ∈ mU := lt_9 69 rfl rfl
theorem wt_1990 : Cond.code yX12_hands cX12_hands 3 none ∈ mU := lt_9 70 rfl rfl
theorem wt_1991 : Cond.methodLink "UnlikeLoavesModel" 462 yX12_moves ∈ mU := lt_9 71 rfl rfl
theorem wt_1993 : Cond.instanceMethod yX12_moves ∈ mU := lt_9 73 rfl rfl
theorem wt_1994 : Cond.code yX12_moves cX12_moves 4 none ∈ mU := lt_9 74 rfl rfl
theorem wt_1995 : Cond.methodLink "UnlikeLoavesModel" 471 yX12_isKept ∈ mU := lt_9 75 rfl rfl
theorem wt_1997 : Cond.instanceMethod yX12_isKept ∈ mU := lt_9 77 rfl rfl
theorem wt_1998 : Cond.code yX12_isKept cX12_isKept 4 none ∈ mU := lt_9 78 rfl rfl
theorem wt_1999 : Cond.methodLink "UnlikeLoavesModel" 555 yX12_takesBack ∈ mU := lt_9 79 rfl rfl
theorem wt_2001 : Cond.instanceMethod yX12_takesBack ∈ mU := lt_9 81 rfl rfl
theorem wt_2002 : Cond.code yX12_takesBack cX12_takesBack 1 none ∈ mU := lt_9 82 rfl rfl
theorem wt_2003 : Cond.methodLink "UnlikeLoavesModel" 492 yX12_triesAnew ∈ mU := lt_9 83 rfl rfl
theorem wt_2005 : Cond.instanceMethod yX12_triesAnew ∈ mU := lt_9 85 rfl rfl
theorem wt_2006 : Cond.code yX12_triesAnew cX12_triesAnew 2 none ∈ mU := lt_9 86 rfl rfl
theorem wt_2019 : Cond.constantLong "UnlikeLoavesModel" 564 (-1 : Int64) ∈ mU := lt_9 99 rfl rfl
theorem wt_2020 : Cond.methodLink "UnlikeLoavesModel" 566 yX12_isFoundBy ∈ mU := lt_9 100 rfl rfl
theorem wt_2022 : Cond.instanceMethod yX12_isFoundBy ∈ mU := lt_9 102 rfl rfl
theorem wt_2023 : Cond.code yX12_isFoundBy cX12_isFoundBy 3 (some .boolean) ∈ mU := lt_9 103 rfl rfl
theorem wt_2024 : Cond.methodLink "UnlikeLoavesModel" 558 yX12_isEnough ∈ mU := lt_9 104 rfl rfl
theorem wt_2026 : Cond.instanceMethod yX12_isEnough ∈ mU := lt_9 106 rfl rfl
theorem wt_2027 : Cond.code yX12_isEnough cX12_isEnough 3 (some .boolean) ∈ mU := lt_9 107 rfl rfl
theorem wt_2028 : Cond.methodLink "UnlikeLoavesModel" 561 yX12_goesOn ∈ mU := lt_9 108 rfl rfl
theorem wt_2030 : Cond.instanceMethod yX12_goesOn ∈ mU := lt_9 110 rfl rfl
theorem wt_2031 : Cond.code yX12_goesOn cX12_goesOn 4 (some .boolean) ∈ mU := lt_9 111 rfl rfl
theorem wt_2036 : Cond.methodLink "UnlikeLoavesModel" 575 yX12_laysFeast ∈ mU := lt_9 116 rfl rfl
theorem wt_2038 : Cond.instanceMethod yX12_laysFeast ∈ mU := lt_9 118 rfl rfl
theorem wt_2039 : Cond.code yX12_laysFeast cX12_laysFeast 4 none ∈ mU := lt_9 119 rfl rfl
theorem wt_2040 : Cond.methodLink "UnlikeLoavesModel" 572 yX12_choiceBehind ∈ mU := lt_9 120 rfl rfl
theorem wt_2042 : Cond.instanceMethod yX12_choiceBehind ∈ mU := lt_9 122 rfl rfl
theorem wt_2043 : Cond.code yX12_choiceBehind cX12_choiceBehind 4 (some .int) ∈ mU := lt_9 123 rfl rfl
theorem wt_2048 : Cond.methodLink "UnlikeLoavesModel" 578 yX12_isGone ∈ mU := lt_9 128 rfl rfl
theorem wt_2050 : Cond.instanceMethod yX12_isGone ∈ mU := lt_9 130 rfl rfl
theorem wt_2051 : Cond.code yX12_isGone cX12_isGone 2 (some .boolean) ∈ mU := lt_9 131 rfl rfl
theorem wt_2060 : Cond.methodLink "UnlikeLoavesModel" 584 yX12_stockSet ∈ mU := lt_9 140 rfl rfl
theorem wt_2062 : Cond.instanceMethod yX12_stockSet ∈ mU := lt_9 142 rfl rfl
theorem wt_2063 : Cond.code yX12_stockSet cX12_stockSet 6 (some .int) ∈ mU := lt_9 143 rfl rfl
theorem wt_2064 : Cond.methodLink "UnlikeLoavesModel" 581 yX12_isAsSeen ∈ mU := lt_9 144 rfl rfl
theorem wt_2066 : Cond.instanceMethod yX12_isAsSeen ∈ mU := lt_9 146 rfl rfl
theorem wt_2067 : Cond.code yX12_isAsSeen cX12_isAsSeen 3 (some .boolean) ∈ mU := lt_9 147 rfl rfl
theorem wt_2072 : Cond.methodLink "UnlikeLoavesModel" 587 yX12_mostAlike ∈ mU := lt_9 152 rfl rfl
theorem wt_2074 : Cond.instanceMethod yX12_mostAlike ∈ mU := lt_9 154 rfl rfl
theorem wt_2075 : Cond.code yX12_mostAlike cX12_mostAlike 6 (some .int) ∈ mU := lt_9 155 rfl rfl
theorem wt_2084 : Cond.methodLink "UnlikeLoavesModel" 593 yX12_keeps ∈ mU := lt_9 164 rfl rfl
theorem wt_2086 : Cond.instanceMethod yX12_keeps ∈ mU := lt_9 166 rfl rfl
theorem wt_2087 : Cond.code yX12_keeps cX12_keeps 2 none ∈ mU := lt_9 167 rfl rfl
theorem wt_2096 : Cond.methodLink "UnlikeLoavesModel" 596 yX12_isWriting ∈ mU := lt_9 176 rfl rfl
theorem wt_2098 : Cond.instanceMethod yX12_isWriting ∈ mU := lt_9 178 rfl rfl
theorem wt_2099 : Cond.code yX12_isWriting cX12_isWriting 4 (some .boolean) ∈ mU := lt_9 179 rfl rfl
theorem wt_2100 : Cond.methodLink "UnlikeLoavesModel" 599 yX12_isRefused ∈ mU := lt_9 180 rfl rfl
theorem wt_2102 : Cond.instanceMethod yX12_isRefused ∈ mU := lt_9 182 rfl rfl
theorem wt_2103 : Cond.code yX12_isRefused cX12_isRefused 2 (some .boolean) ∈ mU := lt_9 183 rfl rfl
theorem wt_2116 : Cond.methodLink "UnlikeLoavesModel" 610 yX12_drawOf ∈ mU := lt_9 196 rfl rfl
theorem wt_2118 : Cond.instanceMethod yX12_drawOf ∈ mU := lt_9 198 rfl rfl
theorem wt_2119 : Cond.code yX12_drawOf cX12_drawOf 2 (some .int) ∈ mU := lt_9 199 rfl rfl
theorem wt_2120 : Cond.constantLong "UnlikeLoavesModel" 602 (1103515245 : Int64) ∈ mU := lt_9 200 rfl rfl
theorem wt_2121 : Cond.constantLong "UnlikeLoavesModel" 604 (12345 : Int64) ∈ mU := lt_9 201 rfl rfl
theorem wt_2122 : Cond.constantLong "UnlikeLoavesModel" 606 (2147483648 : Int64) ∈ mU := lt_9 202 rfl rfl
theorem wt_2123 : Cond.constantLong "UnlikeLoavesModel" 608 (64 : Int64) ∈ mU := lt_9 203 rfl rfl
theorem wt_2128 : Cond.methodLink "UnlikeLoavesModel" 688 yX12_qKind ∈ mU := lt_9 208 rfl rfl
theorem wt_2130 : Cond.instanceMethod yX12_qKind ∈ mU := lt_9 210 rfl rfl
theorem wt_2131 : Cond.code yX12_qKind cX12_qKind 2 (some .int) ∈ mU := lt_9 211 rfl rfl
theorem wt_2132 : Cond.methodLink "UnlikeLoavesModel" 691 yX12_qTold ∈ mU := lt_9 212 rfl rfl
theorem wt_2134 : Cond.instanceMethod yX12_qTold ∈ mU := lt_9 214 rfl rfl
theorem wt_2135 : Cond.code yX12_qTold cX12_qTold 4 (some .long) ∈ mU := lt_9 215 rfl rfl
theorem wt_2136 : Cond.methodLink "UnlikeLoavesModel" 678 yX12_qOf ∈ mU := lt_9 216 rfl rfl
theorem wt_2138 : Cond.instanceMethod yX12_qOf ∈ mU := lt_9 218 rfl rfl
theorem wt_2139 : Cond.code yX12_qOf cX12_qOf 5 (some .long) ∈ mU := lt_9 219 rfl rfl
theorem wt_2140 : Cond.methodLink "UnlikeLoavesModel" 694 yX12_qTakes ∈ mU := lt_9 220 rfl rfl
theorem wt_2142 : Cond.instanceMethod yX12_qTakes ∈ mU := lt_9 222 rfl rfl
theorem wt_2143 : Cond.code yX12_qTakes cX12_qTakes 6 none ∈ mU := lt_9 223 rfl rfl
theorem wt_2156 : Cond.methodLink "UnlikeLoavesModel" 704 yX12_writesTwo ∈ mU := lt_9 236 rfl rfl
theorem wt_2158 : Cond.instanceMethod yX12_writesTwo ∈ mU := lt_9 238 rfl rfl
theorem wt_2159 : Cond.code yX12_writesTwo cX12_writesTwo 2 none ∈ mU := lt_9 239 rfl rfl
theorem wt_2160 : Cond.methodLink "UnlikeLoavesModel" 701 yX12_writes ∈ mU := lt_10 0 rfl rfl
theorem wt_2162 : Cond.instanceMethod yX12_writes ∈ mU := lt_10 2 rfl rfl
theorem wt_2163 : Cond.code yX12_writes cX12_writes 2 none ∈ mU := lt_10 3 rfl rfl
theorem wt_2164 : Cond.methodLink "UnlikeLoavesModel" 707 yX12_checked ∈ mU := lt_10 4 rfl rfl
theorem wt_2165 : Cond.static yX12_checked ∈ mU := lt_10 5 rfl rfl
theorem wt_2166 : Cond.code yX12_checked cX12_checked 4 (some .int) ∈ mU := lt_10 6 rfl rfl
theorem wt_2171 : Cond.methodLink "UnlikeLoavesModel" 714 yX12_isImage ∈ mU := lt_10 11 rfl rfl
theorem wt_2173 : Cond.instanceMethod yX12_isImage ∈ mU := lt_10 13 rfl rfl
theorem wt_2174 : Cond.code yX12_isImage cX12_isImage 4 (some .boolean) ∈ mU := lt_10 14 rfl rfl
theorem wt_2175 : Cond.methodLink "UnlikeLoavesModel" 711 yX12_twoAt ∈ mU := lt_10 15 rfl rfl
theorem wt_2177 : Cond.instanceMethod yX12_twoAt ∈ mU := lt_10 17 rfl rfl
theorem wt_2178 : Cond.code yX12_twoAt cX12_twoAt 2 (some .int) ∈ mU := lt_10 18 rfl rfl
theorem wt_2179 : Cond.fieldLink "java/lang/String" 9 "java/lang/String" "value" "[B" ∈ mU := lt_10 19 rfl rfl
theorem wt_2180 : Cond.fieldLink "java/lang/String" 15 "java/lang/String" "coder" "B" ∈ mU := lt_10 20 rfl rfl
theorem mw_0 : ∀ w ∈ u_ws RX0 TX0 (mN 0), w ∈ mU := um_list [466, 468] (by decide +kernel) (by decide +kernel)
theorem mc_0 : mCls 0 RX0 TX0 := ⟨rfl, mw_0, tyX0_ok, nmX0, by decide⟩
theorem mw_1 : ∀ w ∈ u_ws RX1 TX1 (mN 1), w ∈ mU := um_list [384, 386, 388, 390, 392, 394, 396] (by decide +kernel) (by decide +kernel)
theorem mc_1 : mCls 1 RX1 TX1 := ⟨rfl, mw_1, tyX1_ok, nmX1, by decide⟩
theorem mw_2 : ∀ w ∈ u_ws RX2 TX2 (mN 2), w ∈ mU := um_list [261, 263, 265] (by decide +kernel) (by decide +kernel)
theorem mc_2 : mCls 2 RX2 TX2 := ⟨rfl, mw_2, tyX2_ok, nmX2, by decide⟩
theorem mw_3 : ∀ w ∈ u_ws RX3 TX3 (mN 3), w ∈ mU := um_list [451, 453, 455] (by decide +kernel) (by decide +kernel)
theorem mc_3 : mCls 3 RX3 TX3 := ⟨rfl, mw_3, tyX3_ok, nmX3, by decide⟩
theorem mw_4 : ∀ w ∈ u_ws RX4 TX4 (mN 4), w ∈ mU := um_list [357, 359, 361] (by decide +kernel) (by decide +kernel)
theorem mc_4 : mCls 4 RX4 TX4 := ⟨rfl, mw_4, tyX4_ok, nmX4, by decide⟩
theorem mw_5 : ∀ w ∈ u_ws RX5 TX5 (mN 5), w ∈ mU := um_list [498, 500, 502, 504, 506, 508, 510, 512, 514, 516, 518, 520] (by decide +kernel) (by decide +kernel)
theorem mc_5 : mCls 5 RX5 TX5 := ⟨rfl, mw_5, tyX5_ok, nmX5, by decide⟩
theorem mw_6 : ∀ w ∈ u_ws RX6 TX6 (mN 6), w ∈ mU := um_list [233, 235, 237] (by decide +kernel) (by decide +kernel)
theorem mc_6 : mCls 6 RX6 TX6 := ⟨rfl, mw_6, tyX6_ok, nmX6, by decide⟩
theorem mw_7 : ∀ w ∈ u_ws RX7 TX7 (mN 7), w ∈ mU := um_list [320, 322, 324, 326, 328, 330, 332, 334, 336, 338, 340, 342, 344, 346, 348, 350] (by decide +kernel) (by decide +kernel)
theorem mc_7 : mCls 7 RX7 TX7 := ⟨rfl, mw_7, tyX7_ok, nmX7, by decide⟩
theorem mw_8 : ∀ w ∈ u_ws RX8 TX8 (mN 8), w ∈ mU := um_list [211, 213, 215, 217, 219, 221] (by decide +kernel) (by decide +kernel)
theorem mc_8 : mCls 8 RX8 TX8 := ⟨rfl, mw_8, tyX8_ok, nmX8, by decide⟩
theorem mw_9 : ∀ w ∈ u_ws RX9 TX9 (mN 9), w ∈ mU := um_list [423, 425, 427, 429, 431, 433, 435] (by decide +kernel) (by decide +kernel)
theorem mc_9 : mCls 9 RX9 TX9 := ⟨rfl, mw_9, tyX9_ok, nmX9, by decide⟩
theorem mw_10 : ∀ w ∈ u_ws RX10 TX10 (mN 10), w ∈ mU := um_list [189, 191] (by decide +kernel) (by decide +kernel)
theorem mc_10 : mCls 10 RX10 TX10 := ⟨rfl, mw_10, tyX10_ok, nmX10, by decide⟩
theorem mw_11 : ∀ w ∈ u_ws RX11 TX11 (mN 11), w ∈ mU := um_list [543, 545, 547, 549, 551, 553, 555, 557, 559, 561, 563, 565, 567, 569, 571, 573, 575, 577] (by decide +kernel) (by decide +kernel)
theorem mc_11 : mCls 11 RX11 TX11 := ⟨rfl, mw_11, tyX11_ok, nmX11, by decide⟩
theorem mw_12 : ∀ w ∈ u_ws RX12 TX12 (mN 12), w ∈ mU := um_list [1521, 1523, 1525, 1527, 1529, 1531, 1533, 1535, 1537, 1539, 1541, 1543, 1545, 1547, 1549, 1551, 1553, 1555, 1557, 1559, 1561, 1563, 1565, 1567, 1569, 1571, 1573, 1575, 1577, 1579, 1581, 1583, 1585, 1587, 1589, 1591, 1593, 1595, 1597, 1599, 1601, 1603, 1605, 1607, 1609, 1611, 1613, 1615, 1617, 1619, 1621, 1623, 1625, 1627, 1629, 1631, 1633, 1635, 1637, 1639, 1641, 1643, 1645, 1647, 1649, 1651, 1653, 1655, 1657, 1659, 1661, 1663, 1665, 1667, 1669, 1671, 1673, 1675, 1677, 1679, 1681, 1683, 1685, 1687, 1689, 1691, 1693, 1695, 1697, 1699, 1701, 1703, 1705, 1707, 1709, 1711, 1713, 1715, 1717, 1719, 1721, 1723, 1725, 1727, 1729, 1731, 1733, 1735, 1737, 1739, 1741, 1743] (by decide +kernel) (by decide +kernel)
theorem mc_12 : mCls 12 RX12 TX12 := ⟨rfl, mw_12, tyX12_ok, nmX12, by decide⟩
theorem cpk_0_0_120_120_120 : (¬ (0 : Int32) < 0 ∧ ¬ (0 : Int32) < 0 ∧ ¬ (120 : Int32) < 0 ∧ (0 : Int32).toNatClampNeg + (120 : Int32).toNatClampNeg ≤ 120 ∧ (0 : Int32).toNatClampNeg + (120 : Int32).toNatClampNeg ≤ 120) := by decide +kernel
theorem cpk_0_0_25_25_25 : (¬ (0 : Int32) < 0 ∧ ¬ (0 : Int32) < 0 ∧ ¬ (25 : Int32) < 0 ∧ (0 : Int32).toNatClampNeg + (25 : Int32).toNatClampNeg ≤ 25 ∧ (0 : Int32).toNatClampNeg + (25 : Int32).toNatClampNeg ≤ 25) := by decide +kernel
theorem cpk_0_0_6_6_6 : (¬ (0 : Int32) < 0 ∧ ¬ (0 : Int32) < 0 ∧ ¬ (6 : Int32) < 0 ∧ (0 : Int32).toNatClampNeg + (6 : Int32).toNatClampNeg ≤ 6 ∧ (0 : Int32).toNatClampNeg + (6 : Int32).toNatClampNeg ≤ 6) := by decide +kernel
theorem cpk_0_11_25_25_36 : (¬ (0 : Int32) < 0 ∧ ¬ (11 : Int32) < 0 ∧ ¬ (25 : Int32) < 0 ∧ (0 : Int32).toNatClampNeg + (25 : Int32).toNatClampNeg ≤ 25 ∧ (11 : Int32).toNatClampNeg + (25 : Int32).toNatClampNeg ≤ 36) := by decide +kernel
theorem kb_10 : (Int8.ofInt (10)).toInt32 = (10 : Int32) := by decide +kernel
theorem kb_100 : (Int8.ofInt (100)).toInt32 = (100 : Int32) := by decide +kernel
theorem kb_11 : (Int8.ofInt (11)).toInt32 = (11 : Int32) := by decide +kernel
theorem kb_12 : (Int8.ofInt (12)).toInt32 = (12 : Int32) := by decide +kernel
theorem kb_120 : (Int8.ofInt (120)).toInt32 = (120 : Int32) := by decide +kernel
theorem kb_122 : (Int8.ofInt (122)).toInt32 = (122 : Int32) := by decide +kernel
theorem kb_13 : (Int8.ofInt (13)).toInt32 = (13 : Int32) := by decide +kernel
theorem kb_14 : (Int8.ofInt (14)).toInt32 = (14 : Int32) := by decide +kernel
theorem kb_15 : (Int8.ofInt (15)).toInt32 = (15 : Int32) := by decide +kernel
theorem kb_16 : (Int8.ofInt (16)).toInt32 = (16 : Int32) := by decide +kernel
theorem kb_20 : (Int8.ofInt (20)).toInt32 = (20 : Int32) := by decide +kernel
theorem kb_21 : (Int8.ofInt (21)).toInt32 = (21 : Int32) := by decide +kernel
theorem kb_22 : (Int8.ofInt (22)).toInt32 = (22 : Int32) := by decide +kernel
theorem kb_23 : (Int8.ofInt (23)).toInt32 = (23 : Int32) := by decide +kernel
theorem kb_24 : (Int8.ofInt (24)).toInt32 = (24 : Int32) := by decide +kernel
theorem kb_25 : (Int8.ofInt (25)).toInt32 = (25 : Int32) := by decide +kernel
theorem kb_26 : (Int8.ofInt (26)).toInt32 = (26 : Int32) := by decide +kernel
theorem kb_27 : (Int8.ofInt (27)).toInt32 = (27 : Int32) := by decide +kernel
theorem kb_30 : (Int8.ofInt (30)).toInt32 = (30 : Int32) := by decide +kernel
theorem kb_31 : (Int8.ofInt (31)).toInt32 = (31 : Int32) := by decide +kernel
theorem kb_32 : (Int8.ofInt (32)).toInt32 = (32 : Int32) := by decide +kernel
theorem kb_37 : (Int8.ofInt (37)).toInt32 = (37 : Int32) := by decide +kernel
theorem kb_38 : (Int8.ofInt (38)).toInt32 = (38 : Int32) := by decide +kernel
theorem kb_40 : (Int8.ofInt (40)).toInt32 = (40 : Int32) := by decide +kernel
theorem kb_41 : (Int8.ofInt (41)).toInt32 = (41 : Int32) := by decide +kernel
theorem kb_42 : (Int8.ofInt (42)).toInt32 = (42 : Int32) := by decide +kernel
theorem kb_43 : (Int8.ofInt (43)).toInt32 = (43 : Int32) := by decide +kernel
theorem kb_44 : (Int8.ofInt (44)).toInt32 = (44 : Int32) := by decide +kernel
theorem kb_45 : (Int8.ofInt (45)).toInt32 = (45 : Int32) := by decide +kernel
theorem kb_47 : (Int8.ofInt (47)).toInt32 = (47 : Int32) := by decide +kernel
theorem kb_48 : (Int8.ofInt (48)).toInt32 = (48 : Int32) := by decide +kernel
theorem kb_57 : (Int8.ofInt (57)).toInt32 = (57 : Int32) := by decide +kernel
theorem kb_59 : (Int8.ofInt (59)).toInt32 = (59 : Int32) := by decide +kernel
theorem kb_6 : (Int8.ofInt (6)).toInt32 = (6 : Int32) := by decide +kernel
theorem kb_60 : (Int8.ofInt (60)).toInt32 = (60 : Int32) := by decide +kernel
theorem kb_61 : (Int8.ofInt (61)).toInt32 = (61 : Int32) := by decide +kernel
theorem kb_62 : (Int8.ofInt (62)).toInt32 = (62 : Int32) := by decide +kernel
theorem kb_63 : (Int8.ofInt (63)).toInt32 = (63 : Int32) := by decide +kernel
theorem kb_64 : (Int8.ofInt (64)).toInt32 = (64 : Int32) := by decide +kernel
theorem kb_7 : (Int8.ofInt (7)).toInt32 = (7 : Int32) := by decide +kernel
theorem kb_8 : (Int8.ofInt (8)).toInt32 = (8 : Int32) := by decide +kernel
theorem kb_9 : (Int8.ofInt (9)).toInt32 = (9 : Int32) := by decide +kernel
theorem kb_91 : (Int8.ofInt (91)).toInt32 = (91 : Int32) := by decide +kernel
theorem kb_93 : (Int8.ofInt (93)).toInt32 = (93 : Int32) := by decide +kernel
theorem kb_97 : (Int8.ofInt (97)).toInt32 = (97 : Int32) := by decide +kernel
theorem kb_99 : (Int8.ofInt (99)).toInt32 = (99 : Int32) := by decide +kernel
theorem kb_m2 : (Int8.ofInt (-2)).toInt32 = (-2 : Int32) := by decide +kernel
theorem ki_0 : Int32.ofInt (0) = (0 : Int32) := by decide +kernel
theorem ki_1 : Int32.ofInt (1) = (1 : Int32) := by decide +kernel
theorem ki_2 : Int32.ofInt (2) = (2 : Int32) := by decide +kernel
theorem ki_3 : Int32.ofInt (3) = (3 : Int32) := by decide +kernel
theorem ki_4 : Int32.ofInt (4) = (4 : Int32) := by decide +kernel
theorem ki_5 : Int32.ofInt (5) = (5 : Int32) := by decide +kernel
theorem ki_m1 : Int32.ofInt (-1) = (-1 : Int32) := by decide +kernel
theorem ki_m8 : Int32.ofInt (-8) = (-8 : Int32) := by decide +kernel
theorem kl_0 : Int64.ofNat ((0 : Fin 2) : Nat) = (0 : Int64) := by decide +kernel
theorem kl_1 : Int64.ofNat ((1 : Fin 2) : Nat) = (1 : Int64) := by decide +kernel
theorem ks_1000 : (Int16.ofInt (1000)).toInt32 = (1000 : Int32) := by decide +kernel
theorem ks_10000 : (Int16.ofInt (10000)).toInt32 = (10000 : Int32) := by decide +kernel
theorem ks_155 : (Int16.ofInt (155)).toInt32 = (155 : Int32) := by decide +kernel
theorem ks_158 : (Int16.ofInt (158)).toInt32 = (158 : Int32) := by decide +kernel
theorem ks_1600 : (Int16.ofInt (1600)).toInt32 = (1600 : Int32) := by decide +kernel
theorem ks_200 : (Int16.ofInt (200)).toInt32 = (200 : Int32) := by decide +kernel
theorem ks_2000 : (Int16.ofInt (2000)).toInt32 = (2000 : Int32) := by decide +kernel
theorem ks_229 : (Int16.ofInt (229)).toInt32 = (229 : Int32) := by decide +kernel
theorem ks_251 : (Int16.ofInt (251)).toInt32 = (251 : Int32) := by decide +kernel
theorem ks_255 : (Int16.ofInt (255)).toInt32 = (255 : Int32) := by decide +kernel
theorem ks_256 : (Int16.ofInt (256)).toInt32 = (256 : Int32) := by decide +kernel
theorem ks_999 : (Int16.ofInt (999)).toInt32 = (999 : Int32) := by decide +kernel
theorem ks_9999 : (Int16.ofInt (9999)).toInt32 = (9999 : Int32) := by decide +kernel
theorem nzi_16 : ¬ (16 : Int32) = 0 := by decide +kernel
theorem nzi_20 : ¬ (20 : Int32) = 0 := by decide +kernel
theorem nzi_251 : ¬ (251 : Int32) = 0 := by decide +kernel
theorem nzi_256 : ¬ (256 : Int32) = 0 := by decide +kernel
theorem nzi_27 : ¬ (27 : Int32) = 0 := by decide +kernel
theorem nzi_3 : ¬ (3 : Int32) = 0 := by decide +kernel
theorem nzi_4 : ¬ (4 : Int32) = 0 := by decide +kernel
theorem nzi_40 : ¬ (40 : Int32) = 0 := by decide +kernel
theorem nzi_64 : ¬ (64 : Int32) = 0 := by decide +kernel
theorem nzj_2147483648 : ¬ (2147483648 : Int64) = 0 := by decide +kernel
theorem nzj_27 : ¬ (27 : Int64) = 0 := by decide +kernel
theorem nzj_64 : ¬ (64 : Int64) = 0 := by decide +kernel
theorem vin_0_10 : vp_in (0 : Int32) 10 := by unfold vp_in; decide +kernel
theorem vin_0_158 : vp_in (0 : Int32) 158 := by unfold vp_in; decide +kernel
theorem vin_0_1700 : vp_in (0 : Int32) 1700 := by unfold vp_in; decide +kernel
theorem vin_0_2000 : vp_in (0 : Int32) 2000 := by unfold vp_in; decide +kernel
theorem vin_0_32 : vp_in (0 : Int32) 32 := by unfold vp_in; decide +kernel
theorem vin_0_36 : vp_in (0 : Int32) 36 := by unfold vp_in; decide +kernel
theorem vin_0_6 : vp_in (0 : Int32) 6 := by unfold vp_in; decide +kernel
theorem vin_0_7 : vp_in (0 : Int32) 7 := by unfold vp_in; decide +kernel
theorem vin_10_36 : vp_in (10 : Int32) 36 := by unfold vp_in; decide +kernel
theorem vin_1_10 : vp_in (1 : Int32) 10 := by unfold vp_in; decide +kernel
theorem vin_1_158 : vp_in (1 : Int32) 158 := by unfold vp_in; decide +kernel
theorem vin_1_25 : vp_in (1 : Int32) 25 := by unfold vp_in; decide +kernel
theorem vin_1_36 : vp_in (1 : Int32) 36 := by unfold vp_in; decide +kernel
theorem vin_1_37 : vp_in (1 : Int32) 37 := by unfold vp_in; decide +kernel
theorem vin_2_10 : vp_in (2 : Int32) 10 := by unfold vp_in; decide +kernel
theorem vin_2_36 : vp_in (2 : Int32) 36 := by unfold vp_in; decide +kernel
theorem vin_37_158 : vp_in (37 : Int32) 158 := by unfold vp_in; decide +kernel
theorem vin_3_10 : vp_in (3 : Int32) 10 := by unfold vp_in; decide +kernel
theorem vin_3_36 : vp_in (3 : Int32) 36 := by unfold vp_in; decide +kernel
theorem vin_4_10 : vp_in (4 : Int32) 10 := by unfold vp_in; decide +kernel
theorem vin_4_36 : vp_in (4 : Int32) 36 := by unfold vp_in; decide +kernel
theorem vin_4_6 : vp_in (4 : Int32) 6 := by unfold vp_in; decide +kernel
theorem vin_5_10 : vp_in (5 : Int32) 10 := by unfold vp_in; decide +kernel
theorem vin_5_36 : vp_in (5 : Int32) 36 := by unfold vp_in; decide +kernel
theorem vin_6_10 : vp_in (6 : Int32) 10 := by unfold vp_in; decide +kernel
theorem vin_6_36 : vp_in (6 : Int32) 36 := by unfold vp_in; decide +kernel
theorem vin_7_10 : vp_in (7 : Int32) 10 := by unfold vp_in; decide +kernel
theorem vin_7_36 : vp_in (7 : Int32) 36 := by unfold vp_in; decide +kernel
theorem vin_8_10 : vp_in (8 : Int32) 10 := by unfold vp_in; decide +kernel
theorem vin_8_36 : vp_in (8 : Int32) 36 := by unfold vp_in; decide +kernel
theorem vin_9_10 : vp_in (9 : Int32) 10 := by unfold vp_in; decide +kernel
theorem vin_9_36 : vp_in (9 : Int32) 36 := by unfold vp_in; decide +kernel
theorem ft_0_0 : TX0 0 = ("UnlikeLoaves$Course", "rules", "LUnlikeLoaves$Rules;", true) := by decide +kernel
theorem fk_0_0g : pkind (mTy 0 0) = true := by decide +kernel
theorem fk_0_0p : pkind (mTy 0 0) = true := by decide +kernel
theorem ft_0_1 : TX0 1 = ("UnlikeLoaves$Course", "facts", "[I", true) := by decide +kernel
theorem fk_0_1g : pkind (mTy 0 1) = true := by decide +kernel
theorem fk_0_1p : pkind (mTy 0 1) = true := by decide +kernel
theorem ft_1_0 : TX1 0 = ("UnlikeLoaves$Finder", "rules", "LUnlikeLoaves$Rules;", true) := by decide +kernel
theorem fk_1_0g : pkind (mTy 1 0) = true := by decide +kernel
theorem fk_1_0p : pkind (mTy 1 0) = true := by decide +kernel
theorem ft_1_1 : TX1 1 = ("UnlikeLoaves$Finder", "parts", "[J", true) := by decide +kernel
theorem fk_1_1g : pkind (mTy 1 1) = true := by decide +kernel
theorem fk_1_1p : pkind (mTy 1 1) = true := by decide +kernel
theorem ft_1_2 : TX1 2 = ("UnlikeLoaves$Finder", "sets", "[I", true) := by decide +kernel
theorem fk_1_2g : pkind (mTy 1 2) = true := by decide +kernel
theorem fk_1_2p : pkind (mTy 1 2) = true := by decide +kernel
theorem ft_1_3 : TX1 3 = ("UnlikeLoaves$Finder", "count", "I", false) := by decide +kernel
theorem fk_1_3g : ikind (mTy 1 3) = true := by decide +kernel
theorem fk_1_3p : mTy 1 3 = .int := by decide +kernel
theorem ft_1_4 : TX1 4 = ("UnlikeLoaves$Finder", "firstGoing", "I", false) := by decide +kernel
theorem fk_1_4g : ikind (mTy 1 4) = true := by decide +kernel
theorem fk_1_4p : mTy 1 4 = .int := by decide +kernel
theorem ft_1_5 : TX1 5 = ("UnlikeLoaves$Finder", "firstComing", "I", false) := by decide +kernel
theorem fk_1_5g : ikind (mTy 1 5) = true := by decide +kernel
theorem fk_1_5p : mTy 1 5 = .int := by decide +kernel
theorem ft_1_6 : TX1 6 = ("UnlikeLoaves$Finder", "known", "J", false) := by decide +kernel
theorem fk_1_6g : mTy 1 6 = .long := by decide +kernel
theorem fk_1_6p : mTy 1 6 = .long := by decide +kernel
theorem ft_2_0 : TX2 0 = ("UnlikeLoaves$Formula", "steps", "[I", true) := by decide +kernel
theorem fk_2_0g : pkind (mTy 2 0) = true := by decide +kernel
theorem fk_2_0p : pkind (mTy 2 0) = true := by decide +kernel
theorem ft_2_1 : TX2 1 = ("UnlikeLoaves$Formula", "pile", "[I", true) := by decide +kernel
theorem fk_2_1g : pkind (mTy 2 1) = true := by decide +kernel
theorem fk_2_1p : pkind (mTy 2 1) = true := by decide +kernel
theorem ft_2_2 : TX2 2 = ("UnlikeLoaves$Formula", "count", "I", false) := by decide +kernel
theorem fk_2_2g : ikind (mTy 2 2) = true := by decide +kernel
theorem fk_2_2p : mTy 2 2 = .int := by decide +kernel
theorem ft_3_0 : TX3 0 = ("UnlikeLoaves$History", "states", "[LUnlikeLoaves$State;", true) := by decide +kernel
theorem fk_3_0g : pkind (mTy 3 0) = true := by decide +kernel
theorem fk_3_0p : pkind (mTy 3 0) = true := by decide +kernel
theorem ft_3_1 : TX3 1 = ("UnlikeLoaves$History", "first", "I", false) := by decide +kernel
theorem fk_3_1g : ikind (mTy 3 1) = true := by decide +kernel
theorem fk_3_1p : mTy 3 1 = .int := by decide +kernel
theorem ft_3_2 : TX3 2 = ("UnlikeLoaves$History", "count", "I", false) := by decide +kernel
theorem fk_3_2g : ikind (mTy 3 2) = true := by decide +kernel
theorem fk_3_2p : mTy 3 2 = .int := by decide +kernel
theorem ft_4_0 : TX4 0 = ("UnlikeLoaves$OfficeReader", "scanner", "LUnlikeLoaves$Scanner;", true) := by decide +kernel
theorem fk_4_0g : pkind (mTy 4 0) = true := by decide +kernel
theorem fk_4_0p : pkind (mTy 4 0) = true := by decide +kernel
theorem ft_4_1 : TX4 1 = ("UnlikeLoaves$OfficeReader", "phrases", "LUnlikeLoaves$Phrases;", true) := by decide +kernel
theorem fk_4_1g : pkind (mTy 4 1) = true := by decide +kernel
theorem fk_4_1p : pkind (mTy 4 1) = true := by decide +kernel
theorem ft_4_2 : TX4 2 = ("UnlikeLoaves$OfficeReader", "draft", "LUnlikeLoaves$Rules;", true) := by decide +kernel
theorem fk_4_2g : pkind (mTy 4 2) = true := by decide +kernel
theorem fk_4_2p : pkind (mTy 4 2) = true := by decide +kernel
theorem ft_5_0 : TX5 0 = ("UnlikeLoaves$Outlook", "rules", "LUnlikeLoaves$Rules;", true) := by decide +kernel
theorem fk_5_0g : pkind (mTy 5 0) = true := by decide +kernel
theorem fk_5_0p : pkind (mTy 5 0) = true := by decide +kernel
theorem ft_5_1 : TX5 1 = ("UnlikeLoaves$Outlook", "course", "LUnlikeLoaves$Course;", true) := by decide +kernel
theorem fk_5_1g : pkind (mTy 5 1) = true := by decide +kernel
theorem fk_5_1p : pkind (mTy 5 1) = true := by decide +kernel
theorem ft_5_2 : TX5 2 = ("UnlikeLoaves$Outlook", "now", "LUnlikeLoaves$State;", true) := by decide +kernel
theorem fk_5_2g : pkind (mTy 5 2) = true := by decide +kernel
theorem fk_5_2p : pkind (mTy 5 2) = true := by decide +kernel
theorem ft_5_3 : TX5 3 = ("UnlikeLoaves$Outlook", "then", "LUnlikeLoaves$State;", true) := by decide +kernel
theorem fk_5_3g : pkind (mTy 5 3) = true := by decide +kernel
theorem fk_5_3p : pkind (mTy 5 3) = true := by decide +kernel
theorem ft_5_4 : TX5 4 = ("UnlikeLoaves$Outlook", "cutRow", "[I", true) := by decide +kernel
theorem fk_5_4g : pkind (mTy 5 4) = true := by decide +kernel
theorem fk_5_4p : pkind (mTy 5 4) = true := by decide +kernel
theorem ft_5_5 : TX5 5 = ("UnlikeLoaves$Outlook", "feastRow", "[I", true) := by decide +kernel
theorem fk_5_5g : pkind (mTy 5 5) = true := by decide +kernel
theorem fk_5_5p : pkind (mTy 5 5) = true := by decide +kernel
theorem ft_5_6 : TX5 6 = ("UnlikeLoaves$Outlook", "seen", "[I", true) := by decide +kernel
theorem fk_5_6g : pkind (mTy 5 6) = true := by decide +kernel
theorem fk_5_6p : pkind (mTy 5 6) = true := by decide +kernel
theorem ft_5_7 : TX5 7 = ("UnlikeLoaves$Outlook", "seenCount", "I", false) := by decide +kernel
theorem fk_5_7g : ikind (mTy 5 7) = true := by decide +kernel
theorem fk_5_7p : mTy 5 7 = .int := by decide +kernel
theorem ft_5_8 : TX5 8 = ("UnlikeLoaves$Outlook", "watched", "[I", true) := by decide +kernel
theorem fk_5_8g : pkind (mTy 5 8) = true := by decide +kernel
theorem fk_5_8p : pkind (mTy 5 8) = true := by decide +kernel
theorem ft_5_9 : TX5 9 = ("UnlikeLoaves$Outlook", "tellingDay", "I", false) := by decide +kernel
theorem fk_5_9g : ikind (mTy 5 9) = true := by decide +kernel
theorem fk_5_9p : mTy 5 9 = .int := by decide +kernel
theorem ft_5_10 : TX5 10 = ("UnlikeLoaves$Outlook", "tellingPerson", "I", false) := by decide +kernel
theorem fk_5_10g : ikind (mTy 5 10) = true := by decide +kernel
theorem fk_5_10p : mTy 5 10 = .int := by decide +kernel
theorem ft_5_11 : TX5 11 = ("UnlikeLoaves$Outlook", "tellingLeft", "I", false) := by decide +kernel
theorem fk_5_11g : ikind (mTy 5 11) = true := by decide +kernel
theorem fk_5_11p : mTy 5 11 = .int := by decide +kernel
theorem ft_6_0 : TX6 0 = ("UnlikeLoaves$Phrases", "scanner", "LUnlikeLoaves$Scanner;", true) := by decide +kernel
theorem fk_6_0g : pkind (mTy 6 0) = true := by decide +kernel
theorem fk_6_0p : pkind (mTy 6 0) = true := by decide +kernel
theorem ft_6_1 : TX6 1 = ("UnlikeLoaves$Phrases", "out", "LUnlikeLoaves$Formula;", false) := by decide +kernel
theorem fk_6_1g : pkind (mTy 6 1) = true := by decide +kernel
theorem fk_6_1p : pkind (mTy 6 1) = true := by decide +kernel
theorem ft_6_2 : TX6 2 = ("UnlikeLoaves$Phrases", "where", "I", false) := by decide +kernel
theorem fk_6_2g : ikind (mTy 6 2) = true := by decide +kernel
theorem fk_6_2p : mTy 6 2 = .int := by decide +kernel
theorem ft_7_0 : TX7 0 = ("UnlikeLoaves$Rules", "finest", "I", false) := by decide +kernel
theorem fk_7_0g : ikind (mTy 7 0) = true := by decide +kernel
theorem fk_7_0p : mTy 7 0 = .int := by decide +kernel
theorem ft_7_1 : TX7 1 = ("UnlikeLoaves$Rules", "most", "I", false) := by decide +kernel
theorem fk_7_1g : ikind (mTy 7 1) = true := by decide +kernel
theorem fk_7_1p : mTy 7 1 = .int := by decide +kernel
theorem ft_7_2 : TX7 2 = ("UnlikeLoaves$Rules", "people", "I", false) := by decide +kernel
theorem fk_7_2g : ikind (mTy 7 2) = true := by decide +kernel
theorem fk_7_2p : mTy 7 2 = .int := by decide +kernel
theorem ft_7_3 : TX7 3 = ("UnlikeLoaves$Rules", "bakes", "I", false) := by decide +kernel
theorem fk_7_3g : ikind (mTy 7 3) = true := by decide +kernel
theorem fk_7_3p : mTy 7 3 = .int := by decide +kernel
theorem ft_7_4 : TX7 4 = ("UnlikeLoaves$Rules", "mice", "I", false) := by decide +kernel
theorem fk_7_4g : ikind (mTy 7 4) = true := by decide +kernel
theorem fk_7_4p : mTy 7 4 = .int := by decide +kernel
theorem ft_7_5 : TX7 5 = ("UnlikeLoaves$Rules", "costsTold", "Z", false) := by decide +kernel
theorem fk_7_5g : ikind (mTy 7 5) = true := by decide +kernel
theorem fk_7_5p : mTy 7 5 = .boolean := by decide +kernel
theorem ft_7_6 : TX7 6 = ("UnlikeLoaves$Rules", "likesTold", "Z", false) := by decide +kernel
theorem fk_7_6g : ikind (mTy 7 6) = true := by decide +kernel
theorem fk_7_6p : mTy 7 6 = .boolean := by decide +kernel
theorem ft_7_7 : TX7 7 = ("UnlikeLoaves$Rules", "names", "[I", true) := by decide +kernel
theorem fk_7_7g : pkind (mTy 7 7) = true := by decide +kernel
theorem fk_7_7p : pkind (mTy 7 7) = true := by decide +kernel
theorem ft_7_8 : TX7 8 = ("UnlikeLoaves$Rules", "top", "[I", true) := by decide +kernel
theorem fk_7_8g : pkind (mTy 7 8) = true := by decide +kernel
theorem fk_7_8p : pkind (mTy 7 8) = true := by decide +kernel
theorem ft_7_9 : TX7 9 = ("UnlikeLoaves$Rules", "bottom", "[I", true) := by decide +kernel
theorem fk_7_9g : pkind (mTy 7 9) = true := by decide +kernel
theorem fk_7_9p : pkind (mTy 7 9) = true := by decide +kernel
theorem ft_7_10 : TX7 10 = ("UnlikeLoaves$Rules", "told", "[I", true) := by decide +kernel
theorem fk_7_10g : pkind (mTy 7 10) = true := by decide +kernel
theorem fk_7_10p : pkind (mTy 7 10) = true := by decide +kernel
theorem ft_7_11 : TX7 11 = ("UnlikeLoaves$Rules", "costs", "LUnlikeLoaves$Formula;", true) := by decide +kernel
theorem fk_7_11g : pkind (mTy 7 11) = true := by decide +kernel
theorem fk_7_11p : pkind (mTy 7 11) = true := by decide +kernel
theorem ft_7_12 : TX7 12 = ("UnlikeLoaves$Rules", "likes", "LUnlikeLoaves$Formula;", true) := by decide +kernel
theorem fk_7_12g : pkind (mTy 7 12) = true := by decide +kernel
theorem fk_7_12p : pkind (mTy 7 12) = true := by decide +kernel
theorem ft_7_13 : TX7 13 = ("UnlikeLoaves$Rules", "rows", "[I", true) := by decide +kernel
theorem fk_7_13g : pkind (mTy 7 13) = true := by decide +kernel
theorem fk_7_13p : pkind (mTy 7 13) = true := by decide +kernel
theorem ft_7_14 : TX7 14 = ("UnlikeLoaves$Rules", "ways", "[I", true) := by decide +kernel
theorem fk_7_14g : pkind (mTy 7 14) = true := by decide +kernel
theorem fk_7_14p : pkind (mTy 7 14) = true := by decide +kernel
theorem ft_7_15 : TX7 15 = ("UnlikeLoaves$Rules", "fitting", "[I", true) := by decide +kernel
theorem fk_7_15g : pkind (mTy 7 15) = true := by decide +kernel
theorem fk_7_15p : pkind (mTy 7 15) = true := by decide +kernel
theorem ft_8_0 : TX8 0 = ("UnlikeLoaves$Scanner", "tape", "LUnlikeLoaves$Tape;", true) := by decide +kernel
theorem fk_8_0g : pkind (mTy 8 0) = true := by decide +kernel
theorem fk_8_0p : pkind (mTy 8 0) = true := by decide +kernel
theorem ft_8_1 : TX8 1 = ("UnlikeLoaves$Scanner", "kind", "I", false) := by decide +kernel
theorem fk_8_1g : ikind (mTy 8 1) = true := by decide +kernel
theorem fk_8_1p : mTy 8 1 = .int := by decide +kernel
theorem ft_8_2 : TX8 2 = ("UnlikeLoaves$Scanner", "at", "I", false) := by decide +kernel
theorem fk_8_2g : ikind (mTy 8 2) = true := by decide +kernel
theorem fk_8_2p : mTy 8 2 = .int := by decide +kernel
theorem ft_8_3 : TX8 3 = ("UnlikeLoaves$Scanner", "stop", "I", false) := by decide +kernel
theorem fk_8_3g : ikind (mTy 8 3) = true := by decide +kernel
theorem fk_8_3p : mTy 8 3 = .int := by decide +kernel
theorem ft_8_4 : TX8 4 = ("UnlikeLoaves$Scanner", "fault", "I", false) := by decide +kernel
theorem fk_8_4g : ikind (mTy 8 4) = true := by decide +kernel
theorem fk_8_4p : mTy 8 4 = .int := by decide +kernel
theorem ft_8_5 : TX8 5 = ("UnlikeLoaves$Scanner", "place", "I", false) := by decide +kernel
theorem fk_8_5g : ikind (mTy 8 5) = true := by decide +kernel
theorem fk_8_5p : mTy 8 5 = .int := by decide +kernel
theorem ft_9_0 : TX9 0 = ("UnlikeLoaves$State", "day", "I", false) := by decide +kernel
theorem fk_9_0g : ikind (mTy 9 0) = true := by decide +kernel
theorem fk_9_0p : mTy 9 0 = .int := by decide +kernel
theorem ft_9_1 : TX9 1 = ("UnlikeLoaves$State", "stock", "[I", true) := by decide +kernel
theorem fk_9_1g : pkind (mTy 9 1) = true := by decide +kernel
theorem fk_9_1p : pkind (mTy 9 1) = true := by decide +kernel
theorem ft_9_2 : TX9 2 = ("UnlikeLoaves$State", "hunger", "[I", true) := by decide +kernel
theorem fk_9_2g : pkind (mTy 9 2) = true := by decide +kernel
theorem fk_9_2p : pkind (mTy 9 2) = true := by decide +kernel
theorem ft_9_3 : TX9 3 = ("UnlikeLoaves$State", "times", "[I", true) := by decide +kernel
theorem fk_9_3g : pkind (mTy 9 3) = true := by decide +kernel
theorem fk_9_3p : pkind (mTy 9 3) = true := by decide +kernel
theorem ft_9_4 : TX9 4 = ("UnlikeLoaves$State", "keptRows", "[I", true) := by decide +kernel
theorem fk_9_4g : pkind (mTy 9 4) = true := by decide +kernel
theorem fk_9_4p : pkind (mTy 9 4) = true := by decide +kernel
theorem ft_9_5 : TX9 5 = ("UnlikeLoaves$State", "keptFirst", "I", false) := by decide +kernel
theorem fk_9_5g : ikind (mTy 9 5) = true := by decide +kernel
theorem fk_9_5p : mTy 9 5 = .int := by decide +kernel
theorem ft_9_6 : TX9 6 = ("UnlikeLoaves$State", "keptCount", "I", false) := by decide +kernel
theorem fk_9_6g : ikind (mTy 9 6) = true := by decide +kernel
theorem fk_9_6p : mTy 9 6 = .int := by decide +kernel
theorem ft_10_0 : TX10 0 = ("UnlikeLoaves$Tape", "bytes", "[I", true) := by decide +kernel
theorem fk_10_0g : pkind (mTy 10 0) = true := by decide +kernel
theorem fk_10_0p : pkind (mTy 10 0) = true := by decide +kernel
theorem ft_10_1 : TX10 1 = ("UnlikeLoaves$Tape", "count", "I", false) := by decide +kernel
theorem fk_10_1g : ikind (mTy 10 1) = true := by decide +kernel
theorem fk_10_1p : mTy 10 1 = .int := by decide +kernel
theorem ft_11_0 : TX11 0 = ("UnlikeLoaves", "refused", "[I", true) := by decide +kernel
theorem fk_11_0g : pkind (mTy 11 0) = true := by decide +kernel
theorem fk_11_0p : pkind (mTy 11 0) = true := by decide +kernel
theorem ft_11_1 : TX11 1 = ("UnlikeLoaves", "tape", "LUnlikeLoaves$Tape;", true) := by decide +kernel
theorem fk_11_1g : pkind (mTy 11 1) = true := by decide +kernel
theorem fk_11_1p : pkind (mTy 11 1) = true := by decide +kernel
theorem ft_11_2 : TX11 2 = ("UnlikeLoaves", "scanner", "LUnlikeLoaves$Scanner;", true) := by decide +kernel
theorem fk_11_2g : pkind (mTy 11 2) = true := by decide +kernel
theorem fk_11_2p : pkind (mTy 11 2) = true := by decide +kernel
theorem ft_11_3 : TX11 3 = ("UnlikeLoaves", "phrases", "LUnlikeLoaves$Phrases;", true) := by decide +kernel
theorem fk_11_3g : pkind (mTy 11 3) = true := by decide +kernel
theorem fk_11_3p : pkind (mTy 11 3) = true := by decide +kernel
theorem ft_11_4 : TX11 4 = ("UnlikeLoaves", "reader", "LUnlikeLoaves$OfficeReader;", true) := by decide +kernel
theorem fk_11_4g : pkind (mTy 11 4) = true := by decide +kernel
theorem fk_11_4p : pkind (mTy 11 4) = true := by decide +kernel
theorem ft_11_5 : TX11 5 = ("UnlikeLoaves", "rules", "LUnlikeLoaves$Rules;", true) := by decide +kernel
theorem fk_11_5g : pkind (mTy 11 5) = true := by decide +kernel
theorem fk_11_5p : pkind (mTy 11 5) = true := by decide +kernel
theorem ft_11_6 : TX11 6 = ("UnlikeLoaves", "finder", "LUnlikeLoaves$Finder;", true) := by decide +kernel
theorem fk_11_6g : pkind (mTy 11 6) = true := by decide +kernel
theorem fk_11_6p : pkind (mTy 11 6) = true := by decide +kernel
theorem ft_11_7 : TX11 7 = ("UnlikeLoaves", "now", "LUnlikeLoaves$State;", true) := by decide +kernel
theorem fk_11_7g : pkind (mTy 11 7) = true := by decide +kernel
theorem fk_11_7p : pkind (mTy 11 7) = true := by decide +kernel
theorem ft_11_8 : TX11 8 = ("UnlikeLoaves", "history", "LUnlikeLoaves$History;", true) := by decide +kernel
theorem fk_11_8g : pkind (mTy 11 8) = true := by decide +kernel
theorem fk_11_8p : pkind (mTy 11 8) = true := by decide +kernel
theorem ft_11_9 : TX11 9 = ("UnlikeLoaves", "course", "LUnlikeLoaves$Course;", true) := by decide +kernel
theorem fk_11_9g : pkind (mTy 11 9) = true := by decide +kernel
theorem fk_11_9p : pkind (mTy 11 9) = true := by decide +kernel
theorem ft_11_10 : TX11 10 = ("UnlikeLoaves", "outlook", "LUnlikeLoaves$Outlook;", true) := by decide +kernel
theorem fk_11_10g : pkind (mTy 11 10) = true := by decide +kernel
theorem fk_11_10p : pkind (mTy 11 10) = true := by decide +kernel
theorem ft_11_11 : TX11 11 = ("UnlikeLoaves", "question", "LUnlikeLoaves$Formula;", true) := by decide +kernel
theorem fk_11_11g : pkind (mTy 11 11) = true := by decide +kernel
theorem fk_11_11p : pkind (mTy 11 11) = true := by decide +kernel
theorem ft_11_12 : TX11 12 = ("UnlikeLoaves", "facts", "[I", true) := by decide +kernel
theorem fk_11_12g : pkind (mTy 11 12) = true := by decide +kernel
theorem fk_11_12p : pkind (mTy 11 12) = true := by decide +kernel
theorem ft_11_13 : TX11 13 = ("UnlikeLoaves", "picture", "[I", true) := by decide +kernel
theorem fk_11_13g : pkind (mTy 11 13) = true := by decide +kernel
theorem fk_11_13p : pkind (mTy 11 13) = true := by decide +kernel
theorem ft_11_14 : TX11 14 = ("UnlikeLoaves", "pictureLength", "I", false) := by decide +kernel
theorem fk_11_14g : ikind (mTy 11 14) = true := by decide +kernel
theorem fk_11_14p : mTy 11 14 = .int := by decide +kernel
theorem ft_11_15 : TX11 15 = ("UnlikeLoaves", "seed", "I", false) := by decide +kernel
theorem fk_11_15g : ikind (mTy 11 15) = true := by decide +kernel
theorem fk_11_15p : mTy 11 15 = .int := by decide +kernel
theorem ft_11_16 : TX11 16 = ("UnlikeLoaves", "faultKind", "I", false) := by decide +kernel
theorem fk_11_16g : ikind (mTy 11 16) = true := by decide +kernel
theorem fk_11_16p : mTy 11 16 = .int := by decide +kernel
theorem ft_11_17 : TX11 17 = ("UnlikeLoaves", "faultPlace", "I", false) := by decide +kernel
theorem fk_11_17g : ikind (mTy 11 17) = true := by decide +kernel
theorem fk_11_17p : mTy 11 17 = .int := by decide +kernel
theorem ft_12_0 : TX12 0 = ("UnlikeLoavesModel", "tape", "[I", true) := by decide +kernel
theorem fk_12_0g : pkind (mTy 12 0) = true := by decide +kernel
theorem fk_12_0p : pkind (mTy 12 0) = true := by decide +kernel
theorem ft_12_1 : TX12 1 = ("UnlikeLoavesModel", "taped", "I", false) := by decide +kernel
theorem fk_12_1g : ikind (mTy 12 1) = true := by decide +kernel
theorem fk_12_1p : mTy 12 1 = .int := by decide +kernel
theorem ft_12_2 : TX12 2 = ("UnlikeLoavesModel", "at", "I", false) := by decide +kernel
theorem fk_12_2g : ikind (mTy 12 2) = true := by decide +kernel
theorem fk_12_2p : mTy 12 2 = .int := by decide +kernel
theorem ft_12_3 : TX12 3 = ("UnlikeLoavesModel", "end", "I", false) := by decide +kernel
theorem fk_12_3g : ikind (mTy 12 3) = true := by decide +kernel
theorem fk_12_3p : mTy 12 3 = .int := by decide +kernel
theorem ft_12_4 : TX12 4 = ("UnlikeLoavesModel", "ended", "I", false) := by decide +kernel
theorem fk_12_4g : ikind (mTy 12 4) = true := by decide +kernel
theorem fk_12_4p : mTy 12 4 = .int := by decide +kernel
theorem ft_12_5 : TX12 5 = ("UnlikeLoavesModel", "bad", "I", false) := by decide +kernel
theorem fk_12_5g : ikind (mTy 12 5) = true := by decide +kernel
theorem fk_12_5p : mTy 12 5 = .int := by decide +kernel
theorem ft_12_6 : TX12 6 = ("UnlikeLoavesModel", "badPlace", "I", false) := by decide +kernel
theorem fk_12_6g : ikind (mTy 12 6) = true := by decide +kernel
theorem fk_12_6p : mTy 12 6 = .int := by decide +kernel
theorem ft_12_7 : TX12 7 = ("UnlikeLoavesModel", "fault", "I", false) := by decide +kernel
theorem fk_12_7g : ikind (mTy 12 7) = true := by decide +kernel
theorem fk_12_7p : mTy 12 7 = .int := by decide +kernel
theorem ft_12_8 : TX12 8 = ("UnlikeLoavesModel", "faultPlace", "I", false) := by decide +kernel
theorem fk_12_8g : ikind (mTy 12 8) = true := by decide +kernel
theorem fk_12_8p : mTy 12 8 = .int := by decide +kernel
theorem ft_12_9 : TX12 9 = ("UnlikeLoavesModel", "refused", "[I", true) := by decide +kernel
theorem fk_12_9g : pkind (mTy 12 9) = true := by decide +kernel
theorem fk_12_9p : pkind (mTy 12 9) = true := by decide +kernel
theorem ft_12_10 : TX12 10 = ("UnlikeLoavesModel", "numberPlace", "I", false) := by decide +kernel
theorem fk_12_10g : ikind (mTy 12 10) = true := by decide +kernel
theorem fk_12_10p : mTy 12 10 = .int := by decide +kernel
theorem ft_12_11 : TX12 11 = ("UnlikeLoavesModel", "finestWord", "[C", true) := by decide +kernel
theorem fk_12_11g : pkind (mTy 12 11) = true := by decide +kernel
theorem fk_12_11p : pkind (mTy 12 11) = true := by decide +kernel
theorem ft_12_12 : TX12 12 = ("UnlikeLoavesModel", "mostWord", "[C", true) := by decide +kernel
theorem fk_12_12g : pkind (mTy 12 12) = true := by decide +kernel
theorem fk_12_12p : pkind (mTy 12 12) = true := by decide +kernel
theorem ft_12_13 : TX12 13 = ("UnlikeLoavesModel", "personWord", "[C", true) := by decide +kernel
theorem fk_12_13g : pkind (mTy 12 13) = true := by decide +kernel
theorem fk_12_13p : pkind (mTy 12 13) = true := by decide +kernel
theorem ft_12_14 : TX12 14 = ("UnlikeLoavesModel", "dueWord", "[C", true) := by decide +kernel
theorem fk_12_14g : pkind (mTy 12 14) = true := by decide +kernel
theorem fk_12_14p : pkind (mTy 12 14) = true := by decide +kernel
theorem ft_12_15 : TX12 15 = ("UnlikeLoavesModel", "ofWord", "[C", true) := by decide +kernel
theorem fk_12_15g : pkind (mTy 12 15) = true := by decide +kernel
theorem fk_12_15p : pkind (mTy 12 15) = true := by decide +kernel
theorem ft_12_16 : TX12 16 = ("UnlikeLoavesModel", "haveWord", "[C", true) := by decide +kernel
theorem fk_12_16g : pkind (mTy 12 16) = true := by decide +kernel
theorem fk_12_16p : pkind (mTy 12 16) = true := by decide +kernel
theorem ft_12_17 : TX12 17 = ("UnlikeLoavesModel", "byWord", "[C", true) := by decide +kernel
theorem fk_12_17g : pkind (mTy 12 17) = true := by decide +kernel
theorem fk_12_17p : pkind (mTy 12 17) = true := by decide +kernel
theorem ft_12_18 : TX12 18 = ("UnlikeLoavesModel", "bakesWord", "[C", true) := by decide +kernel
theorem fk_12_18g : pkind (mTy 12 18) = true := by decide +kernel
theorem fk_12_18p : pkind (mTy 12 18) = true := by decide +kernel
theorem ft_12_19 : TX12 19 = ("UnlikeLoavesModel", "costsWord", "[C", true) := by decide +kernel
theorem fk_12_19g : pkind (mTy 12 19) = true := by decide +kernel
theorem fk_12_19p : pkind (mTy 12 19) = true := by decide +kernel
theorem ft_12_20 : TX12 20 = ("UnlikeLoavesModel", "likesWord", "[C", true) := by decide +kernel
theorem fk_12_20g : pkind (mTy 12 20) = true := by decide +kernel
theorem fk_12_20p : pkind (mTy 12 20) = true := by decide +kernel
theorem ft_12_21 : TX12 21 = ("UnlikeLoavesModel", "miceWord", "[C", true) := by decide +kernel
theorem fk_12_21g : pkind (mTy 12 21) = true := by decide +kernel
theorem fk_12_21p : pkind (mTy 12 21) = true := by decide +kernel
theorem ft_12_22 : TX12 22 = ("UnlikeLoavesModel", "sizeWord", "[C", true) := by decide +kernel
theorem fk_12_22g : pkind (mTy 12 22) = true := by decide +kernel
theorem fk_12_22p : pkind (mTy 12 22) = true := by decide +kernel
theorem ft_12_23 : TX12 23 = ("UnlikeLoavesModel", "stockWord", "[C", true) := by decide +kernel
theorem fk_12_23g : pkind (mTy 12 23) = true := by decide +kernel
theorem fk_12_23p : pkind (mTy 12 23) = true := by decide +kernel
theorem ft_12_24 : TX12 24 = ("UnlikeLoavesModel", "placeWord", "[C", true) := by decide +kernel
theorem fk_12_24g : pkind (mTy 12 24) = true := by decide +kernel
theorem fk_12_24p : pkind (mTy 12 24) = true := by decide +kernel
theorem ft_12_25 : TX12 25 = ("UnlikeLoavesModel", "dayWord", "[C", true) := by decide +kernel
theorem fk_12_25g : pkind (mTy 12 25) = true := by decide +kernel
theorem fk_12_25p : pkind (mTy 12 25) = true := by decide +kernel
theorem ft_12_26 : TX12 26 = ("UnlikeLoavesModel", "hungerWord", "[C", true) := by decide +kernel
theorem fk_12_26g : pkind (mTy 12 26) = true := by decide +kernel
theorem fk_12_26p : pkind (mTy 12 26) = true := by decide +kernel
theorem ft_12_27 : TX12 27 = ("UnlikeLoavesModel", "numberWord", "[C", true) := by decide +kernel
theorem fk_12_27g : pkind (mTy 12 27) = true := by decide +kernel
theorem fk_12_27p : pkind (mTy 12 27) = true := by decide +kernel
theorem ft_12_28 : TX12 28 = ("UnlikeLoavesModel", "topWord", "[C", true) := by decide +kernel
theorem fk_12_28g : pkind (mTy 12 28) = true := by decide +kernel
theorem fk_12_28p : pkind (mTy 12 28) = true := by decide +kernel
theorem ft_12_29 : TX12 29 = ("UnlikeLoavesModel", "bottomWord", "[C", true) := by decide +kernel
theorem fk_12_29g : pkind (mTy 12 29) = true := by decide +kernel
theorem fk_12_29p : pkind (mTy 12 29) = true := by decide +kernel
theorem ft_12_30 : TX12 30 = ("UnlikeLoavesModel", "waysWord", "[C", true) := by decide +kernel
theorem fk_12_30g : pkind (mTy 12 30) = true := by decide +kernel
theorem fk_12_30p : pkind (mTy 12 30) = true := by decide +kernel
theorem ft_12_31 : TX12 31 = ("UnlikeLoavesModel", "hadWord", "[C", true) := by decide +kernel
theorem fk_12_31g : pkind (mTy 12 31) = true := by decide +kernel
theorem fk_12_31p : pkind (mTy 12 31) = true := by decide +kernel
theorem ft_12_32 : TX12 32 = ("UnlikeLoavesModel", "fitsWord", "[C", true) := by decide +kernel
theorem fk_12_32g : pkind (mTy 12 32) = true := by decide +kernel
theorem fk_12_32p : pkind (mTy 12 32) = true := by decide +kernel
theorem ft_12_33 : TX12 33 = ("UnlikeLoavesModel", "orWord", "[C", true) := by decide +kernel
theorem fk_12_33g : pkind (mTy 12 33) = true := by decide +kernel
theorem fk_12_33p : pkind (mTy 12 33) = true := by decide +kernel
theorem ft_12_34 : TX12 34 = ("UnlikeLoavesModel", "andWord", "[C", true) := by decide +kernel
theorem fk_12_34g : pkind (mTy 12 34) = true := by decide +kernel
theorem fk_12_34p : pkind (mTy 12 34) = true := by decide +kernel
theorem ft_12_35 : TX12 35 = ("UnlikeLoavesModel", "notWord", "[C", true) := by decide +kernel
theorem fk_12_35g : pkind (mTy 12 35) = true := by decide +kernel
theorem fk_12_35p : pkind (mTy 12 35) = true := by decide +kernel
theorem ft_12_36 : TX12 36 = ("UnlikeLoavesModel", "allWord", "[C", true) := by decide +kernel
theorem fk_12_36g : pkind (mTy 12 36) = true := by decide +kernel
theorem fk_12_36p : pkind (mTy 12 36) = true := by decide +kernel
theorem ft_12_37 : TX12 37 = ("UnlikeLoavesModel", "minWord", "[C", true) := by decide +kernel
theorem fk_12_37g : pkind (mTy 12 37) = true := by decide +kernel
theorem fk_12_37p : pkind (mTy 12 37) = true := by decide +kernel
theorem ft_12_38 : TX12 38 = ("UnlikeLoavesModel", "maxWord", "[C", true) := by decide +kernel
theorem fk_12_38g : pkind (mTy 12 38) = true := by decide +kernel
theorem fk_12_38p : pkind (mTy 12 38) = true := by decide +kernel
theorem ft_12_39 : TX12 39 = ("UnlikeLoavesModel", "namePlace", "I", false) := by decide +kernel
theorem fk_12_39g : ikind (mTy 12 39) = true := by decide +kernel
theorem fk_12_39p : mTy 12 39 = .int := by decide +kernel
theorem ft_12_40 : TX12 40 = ("UnlikeLoavesModel", "many", "[I", true) := by decide +kernel
theorem fk_12_40g : pkind (mTy 12 40) = true := by decide +kernel
theorem fk_12_40p : pkind (mTy 12 40) = true := by decide +kernel
theorem ft_12_41 : TX12 41 = ("UnlikeLoavesModel", "names", "[J", true) := by decide +kernel
theorem fk_12_41g : pkind (mTy 12 41) = true := by decide +kernel
theorem fk_12_41p : pkind (mTy 12 41) = true := by decide +kernel
theorem ft_12_42 : TX12 42 = ("UnlikeLoavesModel", "dues", "[I", true) := by decide +kernel
theorem fk_12_42g : pkind (mTy 12 42) = true := by decide +kernel
theorem fk_12_42p : pkind (mTy 12 42) = true := by decide +kernel
theorem ft_12_43 : TX12 43 = ("UnlikeLoavesModel", "pieces0", "[I", true) := by decide +kernel
theorem fk_12_43g : pkind (mTy 12 43) = true := by decide +kernel
theorem fk_12_43p : pkind (mTy 12 43) = true := by decide +kernel
theorem ft_12_44 : TX12 44 = ("UnlikeLoavesModel", "codeFrom", "[I", true) := by decide +kernel
theorem fk_12_44g : pkind (mTy 12 44) = true := by decide +kernel
theorem fk_12_44p : pkind (mTy 12 44) = true := by decide +kernel
theorem ft_12_45 : TX12 45 = ("UnlikeLoavesModel", "codeEnd", "[I", true) := by decide +kernel
theorem fk_12_45g : pkind (mTy 12 45) = true := by decide +kernel
theorem fk_12_45p : pkind (mTy 12 45) = true := by decide +kernel
theorem ft_12_46 : TX12 46 = ("UnlikeLoavesModel", "codes", "[I", true) := by decide +kernel
theorem fk_12_46g : pkind (mTy 12 46) = true := by decide +kernel
theorem fk_12_46p : pkind (mTy 12 46) = true := by decide +kernel
theorem ft_12_47 : TX12 47 = ("UnlikeLoavesModel", "coded", "I", false) := by decide +kernel
theorem fk_12_47g : ikind (mTy 12 47) = true := by decide +kernel
theorem fk_12_47p : mTy 12 47 = .int := by decide +kernel
theorem ft_12_48 : TX12 48 = ("UnlikeLoavesModel", "statements", "I", false) := by decide +kernel
theorem fk_12_48g : ikind (mTy 12 48) = true := by decide +kernel
theorem fk_12_48p : mTy 12 48 = .int := by decide +kernel
theorem ft_12_49 : TX12 49 = ("UnlikeLoavesModel", "isTold", "Z", false) := by decide +kernel
theorem fk_12_49g : ikind (mTy 12 49) = true := by decide +kernel
theorem fk_12_49p : mTy 12 49 = .boolean := by decide +kernel
theorem ft_12_50 : TX12 50 = ("UnlikeLoavesModel", "textKind", "I", false) := by decide +kernel
theorem fk_12_50g : ikind (mTy 12 50) = true := by decide +kernel
theorem fk_12_50p : mTy 12 50 = .int := by decide +kernel
theorem ft_12_51 : TX12 51 = ("UnlikeLoavesModel", "now", "[I", true) := by decide +kernel
theorem fk_12_51g : pkind (mTy 12 51) = true := by decide +kernel
theorem fk_12_51p : pkind (mTy 12 51) = true := by decide +kernel
theorem ft_12_52 : TX12 52 = ("UnlikeLoavesModel", "found", "[I", true) := by decide +kernel
theorem fk_12_52g : pkind (mTy 12 52) = true := by decide +kernel
theorem fk_12_52p : pkind (mTy 12 52) = true := by decide +kernel
theorem ft_12_53 : TX12 53 = ("UnlikeLoavesModel", "foundMany", "I", false) := by decide +kernel
theorem fk_12_53g : ikind (mTy 12 53) = true := by decide +kernel
theorem fk_12_53p : mTy 12 53 = .int := by decide +kernel
theorem ft_12_54 : TX12 54 = ("UnlikeLoavesModel", "row0", "[I", true) := by decide +kernel
theorem fk_12_54g : pkind (mTy 12 54) = true := by decide +kernel
theorem fk_12_54p : pkind (mTy 12 54) = true := by decide +kernel
theorem ft_12_55 : TX12 55 = ("UnlikeLoavesModel", "leftAt", "[J", true) := by decide +kernel
theorem fk_12_55g : pkind (mTy 12 55) = true := by decide +kernel
theorem fk_12_55p : pkind (mTy 12 55) = true := by decide +kernel
theorem ft_12_56 : TX12 56 = ("UnlikeLoavesModel", "dueSets", "[I", true) := by decide +kernel
theorem fk_12_56g : pkind (mTy 12 56) = true := by decide +kernel
theorem fk_12_56p : pkind (mTy 12 56) = true := by decide +kernel
theorem ft_12_57 : TX12 57 = ("UnlikeLoavesModel", "dueMany", "[I", true) := by decide +kernel
theorem fk_12_57g : pkind (mTy 12 57) = true := by decide +kernel
theorem fk_12_57p : pkind (mTy 12 57) = true := by decide +kernel
theorem ft_12_58 : TX12 58 = ("UnlikeLoavesModel", "dueSizes", "[I", true) := by decide +kernel
theorem fk_12_58g : pkind (mTy 12 58) = true := by decide +kernel
theorem fk_12_58p : pkind (mTy 12 58) = true := by decide +kernel
theorem ft_12_59 : TX12 59 = ("UnlikeLoavesModel", "askSize", "I", false) := by decide +kernel
theorem fk_12_59g : ikind (mTy 12 59) = true := by decide +kernel
theorem fk_12_59p : mTy 12 59 = .int := by decide +kernel
theorem ft_12_60 : TX12 60 = ("UnlikeLoavesModel", "askPlace", "I", false) := by decide +kernel
theorem fk_12_60g : ikind (mTy 12 60) = true := by decide +kernel
theorem fk_12_60p : mTy 12 60 = .int := by decide +kernel
theorem ft_12_61 : TX12 61 = ("UnlikeLoavesModel", "askPerson", "I", false) := by decide +kernel
theorem fk_12_61g : ikind (mTy 12 61) = true := by decide +kernel
theorem fk_12_61p : mTy 12 61 = .int := by decide +kernel
theorem ft_12_62 : TX12 62 = ("UnlikeLoavesModel", "servedMany", "I", false) := by decide +kernel
theorem fk_12_62g : ikind (mTy 12 62) = true := by decide +kernel
theorem fk_12_62p : mTy 12 62 = .int := by decide +kernel
theorem ft_12_63 : TX12 63 = ("UnlikeLoavesModel", "servedSet", "I", false) := by decide +kernel
theorem fk_12_63g : ikind (mTy 12 63) = true := by decide +kernel
theorem fk_12_63p : mTy 12 63 = .int := by decide +kernel
theorem ft_12_64 : TX12 64 = ("UnlikeLoavesModel", "isThought", "Z", false) := by decide +kernel
theorem fk_12_64g : ikind (mTy 12 64) = true := by decide +kernel
theorem fk_12_64p : mTy 12 64 = .boolean := by decide +kernel
theorem ft_12_65 : TX12 65 = ("UnlikeLoavesModel", "aside", "[I", true) := by decide +kernel
theorem fk_12_65g : pkind (mTy 12 65) = true := by decide +kernel
theorem fk_12_65p : pkind (mTy 12 65) = true := by decide +kernel
theorem ft_12_66 : TX12 66 = ("UnlikeLoavesModel", "feastRow", "[I", true) := by decide +kernel
theorem fk_12_66g : pkind (mTy 12 66) = true := by decide +kernel
theorem fk_12_66p : pkind (mTy 12 66) = true := by decide +kernel
theorem ft_12_67 : TX12 67 = ("UnlikeLoavesModel", "feastBest", "[I", true) := by decide +kernel
theorem fk_12_67g : pkind (mTy 12 67) = true := by decide +kernel
theorem fk_12_67p : pkind (mTy 12 67) = true := by decide +kernel
theorem ft_12_68 : TX12 68 = ("UnlikeLoavesModel", "feastMany", "I", false) := by decide +kernel
theorem fk_12_68g : ikind (mTy 12 68) = true := by decide +kernel
theorem fk_12_68p : mTy 12 68 = .int := by decide +kernel
theorem ft_12_69 : TX12 69 = ("UnlikeLoavesModel", "rowMany", "I", false) := by decide +kernel
theorem fk_12_69g : ikind (mTy 12 69) = true := by decide +kernel
theorem fk_12_69p : mTy 12 69 = .int := by decide +kernel
theorem ft_12_70 : TX12 70 = ("UnlikeLoavesModel", "rows", "[I", true) := by decide +kernel
theorem fk_12_70g : pkind (mTy 12 70) = true := by decide +kernel
theorem fk_12_70p : pkind (mTy 12 70) = true := by decide +kernel
theorem ft_12_71 : TX12 71 = ("UnlikeLoavesModel", "ways0", "[I", true) := by decide +kernel
theorem fk_12_71g : pkind (mTy 12 71) = true := by decide +kernel
theorem fk_12_71p : pkind (mTy 12 71) = true := by decide +kernel
theorem ft_12_72 : TX12 72 = ("UnlikeLoavesModel", "kept0", "[I", true) := by decide +kernel
theorem fk_12_72g : pkind (mTy 12 72) = true := by decide +kernel
theorem fk_12_72p : pkind (mTy 12 72) = true := by decide +kernel
theorem ft_12_73 : TX12 73 = ("UnlikeLoavesModel", "undoable", "I", false) := by decide +kernel
theorem fk_12_73g : ikind (mTy 12 73) = true := by decide +kernel
theorem fk_12_73p : mTy 12 73 = .int := by decide +kernel
theorem ft_12_74 : TX12 74 = ("UnlikeLoavesModel", "newest", "I", false) := by decide +kernel
theorem fk_12_74g : ikind (mTy 12 74) = true := by decide +kernel
theorem fk_12_74p : mTy 12 74 = .int := by decide +kernel
theorem ft_12_75 : TX12 75 = ("UnlikeLoavesModel", "seeded", "J", false) := by decide +kernel
theorem fk_12_75g : mTy 12 75 = .long := by decide +kernel
theorem fk_12_75p : mTy 12 75 = .long := by decide +kernel
theorem ft_12_76 : TX12 76 = ("UnlikeLoavesModel", "firstAsked", "[C", true) := by decide +kernel
theorem fk_12_76g : pkind (mTy 12 76) = true := by decide +kernel
theorem fk_12_76p : pkind (mTy 12 76) = true := by decide +kernel
theorem ft_12_77 : TX12 77 = ("UnlikeLoavesModel", "lastAsked", "[C", true) := by decide +kernel
theorem fk_12_77g : pkind (mTy 12 77) = true := by decide +kernel
theorem fk_12_77p : pkind (mTy 12 77) = true := by decide +kernel
theorem ft_12_78 : TX12 78 = ("UnlikeLoavesModel", "oftenAsked", "[C", true) := by decide +kernel
theorem fk_12_78g : pkind (mTy 12 78) = true := by decide +kernel
theorem fk_12_78p : pkind (mTy 12 78) = true := by decide +kernel
theorem ft_12_79 : TX12 79 = ("UnlikeLoavesModel", "totalAsked", "[C", true) := by decide +kernel
theorem fk_12_79g : pkind (mTy 12 79) = true := by decide +kernel
theorem fk_12_79p : pkind (mTy 12 79) = true := by decide +kernel
theorem ft_12_80 : TX12 80 = ("UnlikeLoavesModel", "mostAsked", "[C", true) := by decide +kernel
theorem fk_12_80g : pkind (mTy 12 80) = true := by decide +kernel
theorem fk_12_80p : pkind (mTy 12 80) = true := by decide +kernel
theorem ft_12_81 : TX12 81 = ("UnlikeLoavesModel", "leastAsked", "[C", true) := by decide +kernel
theorem fk_12_81g : pkind (mTy 12 81) = true := by decide +kernel
theorem fk_12_81p : pkind (mTy 12 81) = true := by decide +kernel
theorem ft_12_82 : TX12 82 = ("UnlikeLoavesModel", "notAsked", "[C", true) := by decide +kernel
theorem fk_12_82g : pkind (mTy 12 82) = true := by decide +kernel
theorem fk_12_82p : pkind (mTy 12 82) = true := by decide +kernel
theorem ft_12_83 : TX12 83 = ("UnlikeLoavesModel", "andAsked", "[C", true) := by decide +kernel
theorem fk_12_83g : pkind (mTy 12 83) = true := by decide +kernel
theorem fk_12_83p : pkind (mTy 12 83) = true := by decide +kernel
theorem ft_12_84 : TX12 84 = ("UnlikeLoavesModel", "orAsked", "[C", true) := by decide +kernel
theorem fk_12_84g : pkind (mTy 12 84) = true := by decide +kernel
theorem fk_12_84p : pkind (mTy 12 84) = true := by decide +kernel
theorem ft_12_85 : TX12 85 = ("UnlikeLoavesModel", "allAsked", "[C", true) := by decide +kernel
theorem fk_12_85g : pkind (mTy 12 85) = true := by decide +kernel
theorem fk_12_85p : pkind (mTy 12 85) = true := by decide +kernel
theorem ft_12_86 : TX12 86 = ("UnlikeLoavesModel", "minAsked", "[C", true) := by decide +kernel
theorem fk_12_86g : pkind (mTy 12 86) = true := by decide +kernel
theorem fk_12_86p : pkind (mTy 12 86) = true := by decide +kernel
theorem ft_12_87 : TX12 87 = ("UnlikeLoavesModel", "maxAsked", "[C", true) := by decide +kernel
theorem fk_12_87g : pkind (mTy 12 87) = true := by decide +kernel
theorem fk_12_87p : pkind (mTy 12 87) = true := by decide +kernel
theorem ft_12_88 : TX12 88 = ("UnlikeLoavesModel", "sizeAsked", "[C", true) := by decide +kernel
theorem fk_12_88g : pkind (mTy 12 88) = true := by decide +kernel
theorem fk_12_88p : pkind (mTy 12 88) = true := by decide +kernel
theorem ft_12_89 : TX12 89 = ("UnlikeLoavesModel", "stockAsked", "[C", true) := by decide +kernel
theorem fk_12_89g : pkind (mTy 12 89) = true := by decide +kernel
theorem fk_12_89p : pkind (mTy 12 89) = true := by decide +kernel
theorem ft_12_90 : TX12 90 = ("UnlikeLoavesModel", "dayAsked", "[C", true) := by decide +kernel
theorem fk_12_90g : pkind (mTy 12 90) = true := by decide +kernel
theorem fk_12_90p : pkind (mTy 12 90) = true := by decide +kernel
theorem ft_12_91 : TX12 91 = ("UnlikeLoavesModel", "placeAsked", "[C", true) := by decide +kernel
theorem fk_12_91g : pkind (mTy 12 91) = true := by decide +kernel
theorem fk_12_91p : pkind (mTy 12 91) = true := by decide +kernel
theorem ft_12_92 : TX12 92 = ("UnlikeLoavesModel", "hungerAsked", "[C", true) := by decide +kernel
theorem fk_12_92g : pkind (mTy 12 92) = true := by decide +kernel
theorem fk_12_92p : pkind (mTy 12 92) = true := by decide +kernel
theorem ft_12_93 : TX12 93 = ("UnlikeLoavesModel", "numberAsked", "[C", true) := by decide +kernel
theorem fk_12_93g : pkind (mTy 12 93) = true := by decide +kernel
theorem fk_12_93p : pkind (mTy 12 93) = true := by decide +kernel
theorem ft_12_94 : TX12 94 = ("UnlikeLoavesModel", "topAsked", "[C", true) := by decide +kernel
theorem fk_12_94g : pkind (mTy 12 94) = true := by decide +kernel
theorem fk_12_94p : pkind (mTy 12 94) = true := by decide +kernel
theorem ft_12_95 : TX12 95 = ("UnlikeLoavesModel", "bottomAsked", "[C", true) := by decide +kernel
theorem fk_12_95g : pkind (mTy 12 95) = true := by decide +kernel
theorem fk_12_95p : pkind (mTy 12 95) = true := by decide +kernel
theorem ft_12_96 : TX12 96 = ("UnlikeLoavesModel", "waysAsked", "[C", true) := by decide +kernel
theorem fk_12_96g : pkind (mTy 12 96) = true := by decide +kernel
theorem fk_12_96p : pkind (mTy 12 96) = true := by decide +kernel
theorem ft_12_97 : TX12 97 = ("UnlikeLoavesModel", "hadAsked", "[C", true) := by decide +kernel
theorem fk_12_97g : pkind (mTy 12 97) = true := by decide +kernel
theorem fk_12_97p : pkind (mTy 12 97) = true := by decide +kernel
theorem ft_12_98 : TX12 98 = ("UnlikeLoavesModel", "stockofAsked", "[C", true) := by decide +kernel
theorem fk_12_98g : pkind (mTy 12 98) = true := by decide +kernel
theorem fk_12_98p : pkind (mTy 12 98) = true := by decide +kernel
theorem ft_12_99 : TX12 99 = ("UnlikeLoavesModel", "fitsofAsked", "[C", true) := by decide +kernel
theorem fk_12_99g : pkind (mTy 12 99) = true := by decide +kernel
theorem fk_12_99p : pkind (mTy 12 99) = true := by decide +kernel
theorem ft_12_100 : TX12 100 = ("UnlikeLoavesModel", "qCodes", "[I", true) := by decide +kernel
theorem fk_12_100g : pkind (mTy 12 100) = true := by decide +kernel
theorem fk_12_100p : pkind (mTy 12 100) = true := by decide +kernel
theorem ft_12_101 : TX12 101 = ("UnlikeLoavesModel", "qCoded", "I", false) := by decide +kernel
theorem fk_12_101g : ikind (mTy 12 101) = true := by decide +kernel
theorem fk_12_101p : mTy 12 101 = .int := by decide +kernel
theorem ft_12_102 : TX12 102 = ("UnlikeLoavesModel", "qWait", "[I", true) := by decide +kernel
theorem fk_12_102g : pkind (mTy 12 102) = true := by decide +kernel
theorem fk_12_102p : pkind (mTy 12 102) = true := by decide +kernel
theorem ft_12_103 : TX12 103 = ("UnlikeLoavesModel", "qWaits", "I", false) := by decide +kernel
theorem fk_12_103g : ikind (mTy 12 103) = true := by decide +kernel
theorem fk_12_103p : mTy 12 103 = .int := by decide +kernel
theorem ft_12_104 : TX12 104 = ("UnlikeLoavesModel", "qOpened", "I", false) := by decide +kernel
theorem fk_12_104g : ikind (mTy 12 104) = true := by decide +kernel
theorem fk_12_104p : mTy 12 104 = .int := by decide +kernel
theorem ft_12_105 : TX12 105 = ("UnlikeLoavesModel", "qBase", "I", false) := by decide +kernel
theorem fk_12_105g : ikind (mTy 12 105) = true := by decide +kernel
theorem fk_12_105p : mTy 12 105 = .int := by decide +kernel
theorem ft_12_106 : TX12 106 = ("UnlikeLoavesModel", "qPile", "[J", true) := by decide +kernel
theorem fk_12_106g : pkind (mTy 12 106) = true := by decide +kernel
theorem fk_12_106p : pkind (mTy 12 106) = true := by decide +kernel
theorem ft_12_107 : TX12 107 = ("UnlikeLoavesModel", "qPiled", "I", false) := by decide +kernel
theorem fk_12_107g : ikind (mTy 12 107) = true := by decide +kernel
theorem fk_12_107p : mTy 12 107 = .int := by decide +kernel
theorem ft_12_108 : TX12 108 = ("UnlikeLoavesModel", "qAnswer", "J", false) := by decide +kernel
theorem fk_12_108g : mTy 12 108 = .long := by decide +kernel
theorem fk_12_108p : mTy 12 108 = .long := by decide +kernel
theorem ft_12_109 : TX12 109 = ("UnlikeLoavesModel", "qIsNew", "Z", false) := by decide +kernel
theorem fk_12_109g : ikind (mTy 12 109) = true := by decide +kernel
theorem fk_12_109p : mTy 12 109 = .boolean := by decide +kernel
theorem ft_12_110 : TX12 110 = ("UnlikeLoavesModel", "octet", "[I", true) := by decide +kernel
theorem fk_12_110g : pkind (mTy 12 110) = true := by decide +kernel
theorem fk_12_110p : pkind (mTy 12 110) = true := by decide +kernel
theorem ft_12_111 : TX12 111 = ("UnlikeLoavesModel", "octets", "I", false) := by decide +kernel
theorem fk_12_111g : ikind (mTy 12 111) = true := by decide +kernel
theorem fk_12_111p : mTy 12 111 = .int := by decide +kernel
theorem nc_0 : ("UnlikeLoaves$Course" : String) ≠ "java/lang/invoke/MethodHandle" ∧ ("UnlikeLoaves$Course" : String) ≠ "java/lang/invoke/VarHandle" := by decide +kernel
theorem nc_1 : ("UnlikeLoaves$Finder" : String) ≠ "java/lang/invoke/MethodHandle" ∧ ("UnlikeLoaves$Finder" : String) ≠ "java/lang/invoke/VarHandle" := by decide +kernel
theorem nc_10 : ("UnlikeLoaves$Tape" : String) ≠ "java/lang/invoke/MethodHandle" ∧ ("UnlikeLoaves$Tape" : String) ≠ "java/lang/invoke/VarHandle" := by decide +kernel
theorem nc_11 : ("UnlikeLoaves" : String) ≠ "java/lang/invoke/MethodHandle" ∧ ("UnlikeLoaves" : String) ≠ "java/lang/invoke/VarHandle" := by decide +kernel
theorem nc_12 : ("UnlikeLoavesModel" : String) ≠ "java/lang/invoke/MethodHandle" ∧ ("UnlikeLoavesModel" : String) ≠ "java/lang/invoke/VarHandle" := by decide +kernel
theorem nc_2 : ("UnlikeLoaves$Formula" : String) ≠ "java/lang/invoke/MethodHandle" ∧ ("UnlikeLoaves$Formula" : String) ≠ "java/lang/invoke/VarHandle" := by decide +kernel
theorem nc_20 : ("java/lang/Integer" : String) ≠ "java/lang/invoke/MethodHandle" ∧ ("java/lang/Integer" : String) ≠ "java/lang/invoke/VarHandle" := by decide +kernel
theorem nc_21 : ("java/lang/Math" : String) ≠ "java/lang/invoke/MethodHandle" ∧ ("java/lang/Math" : String) ≠ "java/lang/invoke/VarHandle" := by decide +kernel
theorem nc_22 : ("java/lang/String" : String) ≠ "java/lang/invoke/MethodHandle" ∧ ("java/lang/String" : String) ≠ "java/lang/invoke/VarHandle" := by decide +kernel
theorem nc_23 : ("java/lang/StringLatin1" : String) ≠ "java/lang/invoke/MethodHandle" ∧ ("java/lang/StringLatin1" : String) ≠ "java/lang/invoke/VarHandle" := by decide +kernel
theorem nc_24 : ("jdk/internal/util/Preconditions" : String) ≠ "java/lang/invoke/MethodHandle" ∧ ("jdk/internal/util/Preconditions" : String) ≠ "java/lang/invoke/VarHandle" := by decide +kernel
theorem nc_3 : ("UnlikeLoaves$History" : String) ≠ "java/lang/invoke/MethodHandle" ∧ ("UnlikeLoaves$History" : String) ≠ "java/lang/invoke/VarHandle" := by decide +kernel
theorem nc_4 : ("UnlikeLoaves$OfficeReader" : String) ≠ "java/lang/invoke/MethodHandle" ∧ ("UnlikeLoaves$OfficeReader" : String) ≠ "java/lang/invoke/VarHandle" := by decide +kernel
theorem nc_5 : ("UnlikeLoaves$Outlook" : String) ≠ "java/lang/invoke/MethodHandle" ∧ ("UnlikeLoaves$Outlook" : String) ≠ "java/lang/invoke/VarHandle" := by decide +kernel
theorem nc_6 : ("UnlikeLoaves$Phrases" : String) ≠ "java/lang/invoke/MethodHandle" ∧ ("UnlikeLoaves$Phrases" : String) ≠ "java/lang/invoke/VarHandle" := by decide +kernel
theorem nc_7 : ("UnlikeLoaves$Rules" : String) ≠ "java/lang/invoke/MethodHandle" ∧ ("UnlikeLoaves$Rules" : String) ≠ "java/lang/invoke/VarHandle" := by decide +kernel
theorem nc_8 : ("UnlikeLoaves$Scanner" : String) ≠ "java/lang/invoke/MethodHandle" ∧ ("UnlikeLoaves$Scanner" : String) ≠ "java/lang/invoke/VarHandle" := by decide +kernel
theorem nc_9 : ("UnlikeLoaves$State" : String) ≠ "java/lang/invoke/MethodHandle" ∧ ("UnlikeLoaves$State" : String) ≠ "java/lang/invoke/VarHandle" := by decide +kernel
theorem pd_0 : (parseMethodDescriptor "(II)I").map (fun d => d.parameters.length) = some 2 := by decide +kernel
theorem pd_1 : (parseMethodDescriptor "([II)I").map (fun d => d.parameters.length) = some 2 := by decide +kernel
theorem pd_10 : (parseMethodDescriptor "(JIII)V").map (fun d => d.parameters.length) = some 4 := by decide +kernel
theorem pd_11 : (parseMethodDescriptor "(I)J").map (fun d => d.parameters.length) = some 1 := by decide +kernel
theorem pd_12 : (parseMethodDescriptor "(I)I").map (fun d => d.parameters.length) = some 1 := by decide +kernel
theorem pd_13 : (parseMethodDescriptor "(LUnlikeLoaves$State;)V").map (fun d => d.parameters.length) = some 1 := by decide +kernel
theorem pd_14 : (parseMethodDescriptor "(I)Z").map (fun d => d.parameters.length) = some 1 := by decide +kernel
theorem pd_15 : (parseMethodDescriptor "()Z").map (fun d => d.parameters.length) = some 0 := by decide +kernel
theorem pd_16 : (parseMethodDescriptor "()V").map (fun d => d.parameters.length) = some 0 := by decide +kernel
theorem pd_17 : (parseMethodDescriptor "(Ljava/lang/String;)Z").map (fun d => d.parameters.length) = some 1 := by decide +kernel
theorem pd_18 : (parseMethodDescriptor "(C)Z").map (fun d => d.parameters.length) = some 1 := by decide +kernel
theorem pd_19 : (parseMethodDescriptor "(II)Z").map (fun d => d.parameters.length) = some 2 := by decide +kernel
theorem pd_2 : (parseMethodDescriptor "(J)I").map (fun d => d.parameters.length) = some 1 := by decide +kernel
theorem pd_20 : (parseMethodDescriptor "(LUnlikeLoaves$Formula;I)Z").map (fun d => d.parameters.length) = some 2 := by decide +kernel
theorem pd_21 : (parseMethodDescriptor "(Z)Z").map (fun d => d.parameters.length) = some 1 := by decide +kernel
theorem pd_22 : (parseMethodDescriptor "(LUnlikeLoaves$State;)Z").map (fun d => d.parameters.length) = some 1 := by decide +kernel
theorem pd_23 : (parseMethodDescriptor "(LUnlikeLoaves$State;)I").map (fun d => d.parameters.length) = some 1 := by decide +kernel
theorem pd_24 : (parseMethodDescriptor "(LUnlikeLoaves$Formula;)V").map (fun d => d.parameters.length) = some 1 := by decide +kernel
theorem pd_25 : (parseMethodDescriptor "()J").map (fun d => d.parameters.length) = some 0 := by decide +kernel
theorem pd_26 : (parseMethodDescriptor "(LUnlikeLoaves$Formula;)I").map (fun d => d.parameters.length) = some 1 := by decide +kernel
theorem pd_27 : (parseMethodDescriptor "(II)J").map (fun d => d.parameters.length) = some 2 := by decide +kernel
theorem pd_28 : (parseMethodDescriptor "(JJ)J").map (fun d => d.parameters.length) = some 2 := by decide +kernel
theorem pd_29 : (parseMethodDescriptor "(IJ)I").map (fun d => d.parameters.length) = some 2 := by decide +kernel
theorem pd_3 : (parseMethodDescriptor "(III)I").map (fun d => d.parameters.length) = some 3 := by decide +kernel
theorem pd_30 : (parseMethodDescriptor "(IJ)Z").map (fun d => d.parameters.length) = some 2 := by decide +kernel
theorem pd_31 : (parseMethodDescriptor "(I[II)V").map (fun d => d.parameters.length) = some 3 := by decide +kernel
theorem pd_32 : (parseMethodDescriptor "(LUnlikeLoaves$Rules;)V").map (fun d => d.parameters.length) = some 1 := by decide +kernel
theorem pd_33 : (parseMethodDescriptor "(LUnlikeLoaves$Tape;LUnlikeLoaves$Rules;)V").map (fun d => d.parameters.length) = some 2 := by decide +kernel
theorem pd_34 : (parseMethodDescriptor "(LUnlikeLoaves$Tape;)I").map (fun d => d.parameters.length) = some 1 := by decide +kernel
theorem pd_35 : (parseMethodDescriptor "(J)V").map (fun d => d.parameters.length) = some 1 := by decide +kernel
theorem pd_36 : (parseMethodDescriptor "(JJJ)Z").map (fun d => d.parameters.length) = some 3 := by decide +kernel
theorem pd_37 : (parseMethodDescriptor "([C)Z").map (fun d => d.parameters.length) = some 1 := by decide +kernel
theorem pd_38 : (parseMethodDescriptor "([C)V").map (fun d => d.parameters.length) = some 1 := by decide +kernel
theorem pd_39 : (parseMethodDescriptor "(J)Z").map (fun d => d.parameters.length) = some 1 := by decide +kernel
theorem pd_4 : (parseMethodDescriptor "(II[I)I").map (fun d => d.parameters.length) = some 3 := by decide +kernel
theorem pd_40 : (parseMethodDescriptor "(J)J").map (fun d => d.parameters.length) = some 1 := by decide +kernel
theorem pd_41 : (parseMethodDescriptor "(IJI)J").map (fun d => d.parameters.length) = some 3 := by decide +kernel
theorem pd_42 : (parseMethodDescriptor "(IJI)V").map (fun d => d.parameters.length) = some 3 := by decide +kernel
theorem pd_43 : (parseMethodDescriptor "(III)Z").map (fun d => d.parameters.length) = some 3 := by decide +kernel
theorem pd_44 : (parseMethodDescriptor "()B").map (fun d => d.parameters.length) = some 0 := by decide +kernel
theorem pd_45 : (parseMethodDescriptor "([BI)C").map (fun d => d.parameters.length) = some 2 := by decide +kernel
theorem pd_46 : (parseMethodDescriptor "(IILjava/util/function/BiFunction;)I").map (fun d => d.parameters.length) = some 3 := by decide +kernel
theorem pd_47 : (parseMethodDescriptor "(I)C").map (fun d => d.parameters.length) = some 1 := by decide +kernel
theorem pd_5 : (parseMethodDescriptor "([I)I").map (fun d => d.parameters.length) = some 1 := by decide +kernel
theorem pd_6 : (parseMethodDescriptor "()I").map (fun d => d.parameters.length) = some 0 := by decide +kernel
theorem pd_7 : (parseMethodDescriptor "(II)V").map (fun d => d.parameters.length) = some 2 := by decide +kernel
theorem pd_8 : (parseMethodDescriptor "(I)V").map (fun d => d.parameters.length) = some 1 := by decide +kernel
theorem pd_9 : (parseMethodDescriptor "(LUnlikeLoaves$State;I)I").map (fun d => d.parameters.length) = some 2 := by decide +kernel
theorem fg_X0_11 {κ : mX} {cc : ByteArray} {dep : Nat} (C : mOk κ cc RX0 dep) {pc : Nat} {K : mK} (d : decode cc pc = .ok (.getfield 11, 3)) (h : mAt κ (pc + 3) K) : mAt κ pc (o_getP 0 1 K) := m_getP C d mc_0 (Nat.le_of_ble_eq_true rfl) (by rw [ft_0_1]; exact wt_319) fk_0_1g h
theorem fg_X0_17 {κ : mX} {cc : ByteArray} {dep : Nat} (C : mOk κ cc RX0 dep) {pc : Nat} {K : mK} (d : decode cc pc = .ok (.getfield 17, 3)) (h : mAt κ (pc + 3) K) : mAt κ pc (o_getP 0 0 K) := m_getP C d mc_0 (Nat.le_of_ble_eq_true rfl) (by rw [ft_0_0]; exact wt_318) fk_0_0g h
theorem fg_X0_33 {κ : mX} {cc : ByteArray} {dep : Nat} (C : mOk κ cc RX0 dep) {pc : Nat} {K : mK} (d : decode cc pc = .ok (.getfield 33, 3)) (h : mAt κ (pc + 3) K) : mAt κ pc (o_getI 9 0 K) := m_getI C d mc_9 (Nat.le_of_ble_eq_true rfl) (by rw [ft_9_0]; exact wt_262) fk_9_0g h
theorem fg_X0_37 {κ : mX} {cc : ByteArray} {dep : Nat} (C : mOk κ cc RX0 dep) {pc : Nat} {K : mK} (d : decode cc pc = .ok (.getfield 37, 3)) (h : mAt κ (pc + 3) K) : mAt κ pc (o_getP 9 2 K) := m_getP C d mc_9 (Nat.le_of_ble_eq_true rfl) (by rw [ft_9_2]; exact wt_269) fk_9_2g h
theorem fg_X0_40 {κ : mX} {cc : ByteArray} {dep : Nat} (C : mOk κ cc RX0 dep) {pc : Nat} {K : mK} (d : decode cc pc = .ok (.getfield 40, 3)) (h : mAt κ (pc + 3) K) : mAt κ pc (o_getI 7 0 K) := m_getI C d mc_7 (Nat.le_of_ble_eq_true rfl) (by rw [ft_7_0]; exact wt_123) fk_7_0g h
theorem fg_X0_43 {κ : mX} {cc : ByteArray} {dep : Nat} (C : mOk κ cc RX0 dep) {pc : Nat} {K : mK} (d : decode cc pc = .ok (.getfield 43, 3)) (h : mAt κ (pc + 3) K) : mAt κ pc (o_getP 9 1 K) := m_getP C d mc_9 (Nat.le_of_ble_eq_true rfl) (by rw [ft_9_1]; exact wt_265) fk_9_1g h
theorem fg_X0_46 {κ : mX} {cc : ByteArray} {dep : Nat} (C : mOk κ cc RX0 dep) {pc : Nat} {K : mK} (d : decode cc pc = .ok (.getfield 46, 3)) (h : mAt κ (pc + 3) K) : mAt κ pc (o_getP 7 12 K) := m_getP C d mc_7 (Nat.le_of_ble_eq_true rfl) (by rw [ft_7_12]; exact wt_166) fk_7_12g h
theorem fg_X0_57 {κ : mX} {cc : ByteArray} {dep : Nat} (C : mOk κ cc RX0 dep) {pc : Nat} {K : mK} (d : decode cc pc = .ok (.getfield 57, 3)) (h : mAt κ (pc + 3) K) : mAt κ pc (o_getI 7 3 K) := m_getI C d mc_7 (Nat.le_of_ble_eq_true rfl) (by rw [ft_7_3]; exact wt_140) fk_7_3g h
theorem fg_X0_64 {κ : mX} {cc : ByteArray} {dep : Nat} (C : mOk κ cc RX0 dep) {pc : Nat} {K : mK} (d : decode cc pc = .ok (.getfield 64, 3)) (h : mAt κ (pc + 3) K) : mAt κ pc (o_getI 7 2 K) := m_getI C d mc_7 (Nat.le_of_ble_eq_true rfl) (by rw [ft_7_2]; exact wt_134) fk_7_2g h
theorem fg_X10_15 {κ : mX} {cc : ByteArray} {dep : Nat} (C : mOk κ cc RX10 dep) {pc : Nat} {K : mK} (d : decode cc pc = .ok (.getfield 15, 3)) (h : mAt κ (pc + 3) K) : mAt κ pc (o_getI 10 1 K) := m_getI C d mc_10 (Nat.le_of_ble_eq_true rfl) (by rw [ft_10_1]; exact wt_39) fk_10_1g h
theorem fg_X10_9 {κ : mX} {cc : ByteArray} {dep : Nat} (C : mOk κ cc RX10 dep) {pc : Nat} {K : mK} (d : decode cc pc = .ok (.getfield 9, 3)) (h : mAt κ (pc + 3) K) : mAt κ pc (o_getP 10 0 K) := m_getP C d mc_10 (Nat.le_of_ble_eq_true rfl) (by rw [ft_10_0]; exact wt_35) fk_10_0g h
theorem fg_X11_100 {κ : mX} {cc : ByteArray} {dep : Nat} (C : mOk κ cc RX11 dep) {pc : Nat} {K : mK} (d : decode cc pc = .ok (.getfield 100, 3)) (h : mAt κ (pc + 3) K) : mAt κ pc (o_getP 11 12 K) := m_getP C d mc_11 (Nat.le_of_ble_eq_true rfl) (by rw [ft_11_12]; exact wt_391) fk_11_12g h
theorem fg_X11_103 {κ : mX} {cc : ByteArray} {dep : Nat} (C : mOk κ cc RX11 dep) {pc : Nat} {K : mK} (d : decode cc pc = .ok (.getfield 103, 3)) (h : mAt κ (pc + 3) K) : mAt κ pc (o_getP 11 13 K) := m_getP C d mc_11 (Nat.le_of_ble_eq_true rfl) (by rw [ft_11_13]; exact wt_392) fk_11_13g h
theorem fg_X11_106 {κ : mX} {cc : ByteArray} {dep : Nat} (C : mOk κ cc RX11 dep) {pc : Nat} {K : mK} (d : decode cc pc = .ok (.getfield 106, 3)) (h : mAt κ (pc + 3) K) : mAt κ pc (o_getI 11 14 K) := m_getI C d mc_11 (Nat.le_of_ble_eq_true rfl) (by rw [ft_11_14]; exact wt_393) fk_11_14g h
theorem fg_X11_110 {κ : mX} {cc : ByteArray} {dep : Nat} (C : mOk κ cc RX11 dep) {pc : Nat} {K : mK} (d : decode cc pc = .ok (.getfield 110, 3)) (h : mAt κ (pc + 3) K) : mAt κ pc (o_getI 11 15 K) := m_getI C d mc_11 (Nat.le_of_ble_eq_true rfl) (by rw [ft_11_15]; exact wt_394) fk_11_15g h
theorem fg_X11_113 {κ : mX} {cc : ByteArray} {dep : Nat} (C : mOk κ cc RX11 dep) {pc : Nat} {K : mK} (d : decode cc pc = .ok (.getfield 113, 3)) (h : mAt κ (pc + 3) K) : mAt κ pc (o_getI 11 16 K) := m_getI C d mc_11 (Nat.le_of_ble_eq_true rfl) (by rw [ft_11_16]; exact wt_395) fk_11_16g h
theorem fg_X11_116 {κ : mX} {cc : ByteArray} {dep : Nat} (C : mOk κ cc RX11 dep) {pc : Nat} {K : mK} (d : decode cc pc = .ok (.getfield 116, 3)) (h : mAt κ (pc + 3) K) : mAt κ pc (o_getI 11 17 K) := m_getI C d mc_11 (Nat.le_of_ble_eq_true rfl) (by rw [ft_11_17]; exact wt_396) fk_11_17g h
theorem fg_X11_119 {κ : mX} {cc : ByteArray} {dep : Nat} (C : mOk κ cc RX11 dep) {pc : Nat} {K : mK} (d : decode cc pc = .ok (.getfield 119, 3)) (h : mAt κ (pc + 3) K) : mAt κ pc (o_getI 10 1 K) := m_getI C d mc_10 (Nat.le_of_ble_eq_true rfl) (by rw [ft_10_1]; exact wt_40) fk_10_1g h
theorem fg_X11_137 {κ : mX} {cc : ByteArray} {dep : Nat} (C : mOk κ cc RX11 dep) {pc : Nat} {K : mK} (d : decode cc pc = .ok (.getfield 137, 3)) (h : mAt κ (pc + 3) K) : mAt κ pc (o_getP 4 2 K) := m_getP C d mc_4 (Nat.le_of_ble_eq_true rfl) (by rw [ft_4_2]; exact wt_210) fk_4_2g h
theorem fg_X11_146 {κ : mX} {cc : ByteArray} {dep : Nat} (C : mOk κ cc RX11 dep) {pc : Nat} {K : mK} (d : decode cc pc = .ok (.getfield 146, 3)) (h : mAt κ (pc + 3) K) : mAt κ pc (o_getI 7 2 K) := m_getI C d mc_7 (Nat.le_of_ble_eq_true rfl) (by rw [ft_7_2]; exact wt_135) fk_7_2g h
theorem fg_X11_149 {κ : mX} {cc : ByteArray} {dep : Nat} (C : mOk κ cc RX11 dep) {pc : Nat} {K : mK} (d : decode cc pc = .ok (.getfield 149, 3)) (h : mAt κ (pc + 3) K) : mAt κ pc (o_getP 7 8 K) := m_getP C d mc_7 (Nat.le_of_ble_eq_true rfl) (by rw [ft_7_8]; exact wt_154) fk_7_8g h
theorem fg_X11_152 {κ : mX} {cc : ByteArray} {dep : Nat} (C : mOk κ cc RX11 dep) {pc : Nat} {K : mK} (d : decode cc pc = .ok (.getfield 152, 3)) (h : mAt κ (pc + 3) K) : mAt κ pc (o_getP 7 9 K) := m_getP C d mc_7 (Nat.le_of_ble_eq_true rfl) (by rw [ft_7_9]; exact wt_157) fk_7_9g h
theorem fg_X11_16 {κ : mX} {cc : ByteArray} {dep : Nat} (C : mOk κ cc RX11 dep) {pc : Nat} {K : mK} (d : decode cc pc = .ok (.getfield 16, 3)) (h : mAt κ (pc + 3) K) : mAt κ pc (o_getP 11 1 K) := m_getP C d mc_11 (Nat.le_of_ble_eq_true rfl) (by rw [ft_11_1]; exact wt_380) fk_11_1g h
theorem fg_X11_163 {κ : mX} {cc : ByteArray} {dep : Nat} (C : mOk κ cc RX11 dep) {pc : Nat} {K : mK} (d : decode cc pc = .ok (.getfield 163, 3)) (h : mAt κ (pc + 3) K) : mAt κ pc (o_getP 1 2 K) := m_getP C d mc_1 (Nat.le_of_ble_eq_true rfl) (by rw [ft_1_2]; exact wt_230) fk_1_2g h
theorem fg_X11_166 {κ : mX} {cc : ByteArray} {dep : Nat} (C : mOk κ cc RX11 dep) {pc : Nat} {K : mK} (d : decode cc pc = .ok (.getfield 166, 3)) (h : mAt κ (pc + 3) K) : mAt κ pc (o_getI 1 3 K) := m_getI C d mc_1 (Nat.le_of_ble_eq_true rfl) (by rw [ft_1_3]; exact wt_232) fk_1_3g h
theorem fg_X11_175 {κ : mX} {cc : ByteArray} {dep : Nat} (C : mOk κ cc RX11 dep) {pc : Nat} {K : mK} (d : decode cc pc = .ok (.getfield 175, 3)) (h : mAt κ (pc + 3) K) : mAt κ pc (o_getI 5 7 K) := m_getI C d mc_5 (Nat.le_of_ble_eq_true rfl) (by rw [ft_5_7]; exact wt_344) fk_5_7g h
theorem fg_X11_178 {κ : mX} {cc : ByteArray} {dep : Nat} (C : mOk κ cc RX11 dep) {pc : Nat} {K : mK} (d : decode cc pc = .ok (.getfield 178, 3)) (h : mAt κ (pc + 3) K) : mAt κ pc (o_getI 7 0 K) := m_getI C d mc_7 (Nat.le_of_ble_eq_true rfl) (by rw [ft_7_0]; exact wt_127) fk_7_0g h
theorem fg_X11_181 {κ : mX} {cc : ByteArray} {dep : Nat} (C : mOk κ cc RX11 dep) {pc : Nat} {K : mK} (d : decode cc pc = .ok (.getfield 181, 3)) (h : mAt κ (pc + 3) K) : mAt κ pc (o_getI 7 1 K) := m_getI C d mc_7 (Nat.le_of_ble_eq_true rfl) (by rw [ft_7_1]; exact wt_132) fk_7_1g h
theorem fg_X11_184 {κ : mX} {cc : ByteArray} {dep : Nat} (C : mOk κ cc RX11 dep) {pc : Nat} {K : mK} (d : decode cc pc = .ok (.getfield 184, 3)) (h : mAt κ (pc + 3) K) : mAt κ pc (o_getI 9 0 K) := m_getI C d mc_9 (Nat.le_of_ble_eq_true rfl) (by rw [ft_9_0]; exact wt_263) fk_9_0g h
theorem fg_X11_196 {κ : mX} {cc : ByteArray} {dep : Nat} (C : mOk κ cc RX11 dep) {pc : Nat} {K : mK} (d : decode cc pc = .ok (.getfield 196, 3)) (h : mAt κ (pc + 3) K) : mAt κ pc (o_getI 9 6 K) := m_getI C d mc_9 (Nat.le_of_ble_eq_true rfl) (by rw [ft_9_6]; exact wt_276) fk_9_6g h
theorem fg_X11_199 {κ : mX} {cc : ByteArray} {dep : Nat} (C : mOk κ cc RX11 dep) {pc : Nat} {K : mK} (d : decode cc pc = .ok (.getfield 199, 3)) (h : mAt κ (pc + 3) K) : mAt κ pc (o_getI 3 2 K) := m_getI C d mc_3 (Nat.le_of_ble_eq_true rfl) (by rw [ft_3_2]; exact wt_304) fk_3_2g h
theorem fg_X11_204 {κ : mX} {cc : ByteArray} {dep : Nat} (C : mOk κ cc RX11 dep) {pc : Nat} {K : mK} (d : decode cc pc = .ok (.getfield 204, 3)) (h : mAt κ (pc + 3) K) : mAt κ pc (o_getP 7 7 K) := m_getP C d mc_7 (Nat.le_of_ble_eq_true rfl) (by rw [ft_7_7]; exact wt_151) fk_7_7g h
theorem fg_X11_207 {κ : mX} {cc : ByteArray} {dep : Nat} (C : mOk κ cc RX11 dep) {pc : Nat} {K : mK} (d : decode cc pc = .ok (.getfield 207, 3)) (h : mAt κ (pc + 3) K) : mAt κ pc (o_getP 9 2 K) := m_getP C d mc_9 (Nat.le_of_ble_eq_true rfl) (by rw [ft_9_2]; exact wt_270) fk_9_2g h
theorem fg_X11_210 {κ : mX} {cc : ByteArray} {dep : Nat} (C : mOk κ cc RX11 dep) {pc : Nat} {K : mK} (d : decode cc pc = .ok (.getfield 210, 3)) (h : mAt κ (pc + 3) K) : mAt κ pc (o_getP 9 3 K) := m_getP C d mc_9 (Nat.le_of_ble_eq_true rfl) (by rw [ft_9_3]; exact wt_272) fk_9_3g h
theorem fg_X11_213 {κ : mX} {cc : ByteArray} {dep : Nat} (C : mOk κ cc RX11 dep) {pc : Nat} {K : mK} (d : decode cc pc = .ok (.getfield 213, 3)) (h : mAt κ (pc + 3) K) : mAt κ pc (o_getP 7 14 K) := m_getP C d mc_7 (Nat.le_of_ble_eq_true rfl) (by rw [ft_7_14]; exact wt_170) fk_7_14g h
theorem fg_X11_226 {κ : mX} {cc : ByteArray} {dep : Nat} (C : mOk κ cc RX11 dep) {pc : Nat} {K : mK} (d : decode cc pc = .ok (.getfield 226, 3)) (h : mAt κ (pc + 3) K) : mAt κ pc (o_getP 9 1 K) := m_getP C d mc_9 (Nat.le_of_ble_eq_true rfl) (by rw [ft_9_1]; exact wt_267) fk_9_1g h
theorem fg_X11_25 {κ : mX} {cc : ByteArray} {dep : Nat} (C : mOk κ cc RX11 dep) {pc : Nat} {K : mK} (d : decode cc pc = .ok (.getfield 25, 3)) (h : mAt κ (pc + 3) K) : mAt κ pc (o_getP 11 2 K) := m_getP C d mc_11 (Nat.le_of_ble_eq_true rfl) (by rw [ft_11_2]; exact wt_381) fk_11_2g h
theorem fg_X11_272 {κ : mX} {cc : ByteArray} {dep : Nat} (C : mOk κ cc RX11 dep) {pc : Nat} {K : mK} (d : decode cc pc = .ok (.getfield 272, 3)) (h : mAt κ (pc + 3) K) : mAt κ pc (o_getI 1 4 K) := m_getI C d mc_1 (Nat.le_of_ble_eq_true rfl) (by rw [ft_1_4]; exact wt_234) fk_1_4g h
theorem fg_X11_275 {κ : mX} {cc : ByteArray} {dep : Nat} (C : mOk κ cc RX11 dep) {pc : Nat} {K : mK} (d : decode cc pc = .ok (.getfield 275, 3)) (h : mAt κ (pc + 3) K) : mAt κ pc (o_getI 1 5 K) := m_getI C d mc_1 (Nat.le_of_ble_eq_true rfl) (by rw [ft_1_5]; exact wt_236) fk_1_5g h
theorem fg_X11_281 {κ : mX} {cc : ByteArray} {dep : Nat} (C : mOk κ cc RX11 dep) {pc : Nat} {K : mK} (d : decode cc pc = .ok (.getfield 281, 3)) (h : mAt κ (pc + 3) K) : mAt κ pc (o_getP 5 3 K) := m_getP C d mc_5 (Nat.le_of_ble_eq_true rfl) (by rw [ft_5_3]; exact wt_337) fk_5_3g h
theorem fg_X11_294 {κ : mX} {cc : ByteArray} {dep : Nat} (C : mOk κ cc RX11 dep) {pc : Nat} {K : mK} (d : decode cc pc = .ok (.getfield 294, 3)) (h : mAt κ (pc + 3) K) : mAt κ pc (o_getP 5 4 K) := m_getP C d mc_5 (Nat.le_of_ble_eq_true rfl) (by rw [ft_5_4]; exact wt_339) fk_5_4g h
theorem fg_X11_300 {κ : mX} {cc : ByteArray} {dep : Nat} (C : mOk κ cc RX11 dep) {pc : Nat} {K : mK} (d : decode cc pc = .ok (.getfield 300, 3)) (h : mAt κ (pc + 3) K) : mAt κ pc (o_getP 5 5 K) := m_getP C d mc_5 (Nat.le_of_ble_eq_true rfl) (by rw [ft_5_5]; exact wt_341) fk_5_5g h
theorem fg_X11_316 {κ : mX} {cc : ByteArray} {dep : Nat} (C : mOk κ cc RX11 dep) {pc : Nat} {K : mK} (d : decode cc pc = .ok (.getfield 316, 3)) (h : mAt κ (pc + 3) K) : mAt κ pc (o_getI 5 11 K) := m_getI C d mc_5 (Nat.le_of_ble_eq_true rfl) (by rw [ft_5_11]; exact wt_351) fk_5_11g h
theorem fg_X11_319 {κ : mX} {cc : ByteArray} {dep : Nat} (C : mOk κ cc RX11 dep) {pc : Nat} {K : mK} (d : decode cc pc = .ok (.getfield 319, 3)) (h : mAt κ (pc + 3) K) : mAt κ pc (o_getI 5 9 K) := m_getI C d mc_5 (Nat.le_of_ble_eq_true rfl) (by rw [ft_5_9]; exact wt_347) fk_5_9g h
theorem fg_X11_322 {κ : mX} {cc : ByteArray} {dep : Nat} (C : mOk κ cc RX11 dep) {pc : Nat} {K : mK} (d : decode cc pc = .ok (.getfield 322, 3)) (h : mAt κ (pc + 3) K) : mAt κ pc (o_getI 5 10 K) := m_getI C d mc_5 (Nat.le_of_ble_eq_true rfl) (by rw [ft_5_10]; exact wt_349) fk_5_10g h
theorem fg_X11_34 {κ : mX} {cc : ByteArray} {dep : Nat} (C : mOk κ cc RX11 dep) {pc : Nat} {K : mK} (d : decode cc pc = .ok (.getfield 34, 3)) (h : mAt κ (pc + 3) K) : mAt κ pc (o_getP 11 3 K) := m_getP C d mc_11 (Nat.le_of_ble_eq_true rfl) (by rw [ft_11_3]; exact wt_382) fk_11_3g h
theorem fg_X11_354 {κ : mX} {cc : ByteArray} {dep : Nat} (C : mOk κ cc RX11 dep) {pc : Nat} {K : mK} (d : decode cc pc = .ok (.getfield 354, 3)) (h : mAt κ (pc + 3) K) : mAt κ pc (o_getI 7 4 K) := m_getI C d mc_7 (Nat.le_of_ble_eq_true rfl) (by rw [ft_7_4]; exact wt_145) fk_7_4g h
theorem fg_X11_400 {κ : mX} {cc : ByteArray} {dep : Nat} (C : mOk κ cc RX11 dep) {pc : Nat} {K : mK} (d : decode cc pc = .ok (.getfield 400, 3)) (h : mAt κ (pc + 3) K) : mAt κ pc (o_getI 8 4 K) := m_getI C d mc_8 (Nat.le_of_ble_eq_true rfl) (by rw [ft_8_4]; exact wt_62) fk_8_4g h
theorem fg_X11_403 {κ : mX} {cc : ByteArray} {dep : Nat} (C : mOk κ cc RX11 dep) {pc : Nat} {K : mK} (d : decode cc pc = .ok (.getfield 403, 3)) (h : mAt κ (pc + 3) K) : mAt κ pc (o_getI 8 5 K) := m_getI C d mc_8 (Nat.le_of_ble_eq_true rfl) (by rw [ft_8_5]; exact wt_64) fk_8_5g h
theorem fg_X11_412 {κ : mX} {cc : ByteArray} {dep : Nat} (C : mOk κ cc RX11 dep) {pc : Nat} {K : mK} (d : decode cc pc = .ok (.getfield 412, 3)) (h : mAt κ (pc + 3) K) : mAt κ pc (o_getP 7 11 K) := m_getP C d mc_7 (Nat.le_of_ble_eq_true rfl) (by rw [ft_7_11]; exact wt_164) fk_7_11g h
theorem fg_X11_419 {κ : mX} {cc : ByteArray} {dep : Nat} (C : mOk κ cc RX11 dep) {pc : Nat} {K : mK} (d : decode cc pc = .ok (.getfield 419, 3)) (h : mAt κ (pc + 3) K) : mAt κ pc (o_getP 7 15 K) := m_getP C d mc_7 (Nat.le_of_ble_eq_true rfl) (by rw [ft_7_15]; exact wt_173) fk_7_15g h
theorem fg_X11_43 {κ : mX} {cc : ByteArray} {dep : Nat} (C : mOk κ cc RX11 dep) {pc : Nat} {K : mK} (d : decode cc pc = .ok (.getfield 43, 3)) (h : mAt κ (pc + 3) K) : mAt κ pc (o_getP 11 4 K) := m_getP C d mc_11 (Nat.le_of_ble_eq_true rfl) (by rw [ft_11_4]; exact wt_383) fk_11_4g h
theorem fg_X11_50 {κ : mX} {cc : ByteArray} {dep : Nat} (C : mOk κ cc RX11 dep) {pc : Nat} {K : mK} (d : decode cc pc = .ok (.getfield 50, 3)) (h : mAt κ (pc + 3) K) : mAt κ pc (o_getP 11 5 K) := m_getP C d mc_11 (Nat.le_of_ble_eq_true rfl) (by rw [ft_11_5]; exact wt_384) fk_11_5g h
theorem fg_X11_59 {κ : mX} {cc : ByteArray} {dep : Nat} (C : mOk κ cc RX11 dep) {pc : Nat} {K : mK} (d : decode cc pc = .ok (.getfield 59, 3)) (h : mAt κ (pc + 3) K) : mAt κ pc (o_getP 11 6 K) := m_getP C d mc_11 (Nat.le_of_ble_eq_true rfl) (by rw [ft_11_6]; exact wt_385) fk_11_6g h
theorem fg_X11_66 {κ : mX} {cc : ByteArray} {dep : Nat} (C : mOk κ cc RX11 dep) {pc : Nat} {K : mK} (d : decode cc pc = .ok (.getfield 66, 3)) (h : mAt κ (pc + 3) K) : mAt κ pc (o_getP 11 7 K) := m_getP C d mc_11 (Nat.le_of_ble_eq_true rfl) (by rw [ft_11_7]; exact wt_386) fk_11_7g h
theorem fg_X11_7 {κ : mX} {cc : ByteArray} {dep : Nat} (C : mOk κ cc RX11 dep) {pc : Nat} {K : mK} (d : decode cc pc = .ok (.getfield 7, 3)) (h : mAt κ (pc + 3) K) : mAt κ pc (o_getP 11 0 K) := m_getP C d mc_11 (Nat.le_of_ble_eq_true rfl) (by rw [ft_11_0]; exact wt_379) fk_11_0g h
theorem fg_X11_73 {κ : mX} {cc : ByteArray} {dep : Nat} (C : mOk κ cc RX11 dep) {pc : Nat} {K : mK} (d : decode cc pc = .ok (.getfield 73, 3)) (h : mAt κ (pc + 3) K) : mAt κ pc (o_getP 11 8 K) := m_getP C d mc_11 (Nat.le_of_ble_eq_true rfl) (by rw [ft_11_8]; exact wt_387) fk_11_8g h
theorem fg_X11_80 {κ : mX} {cc : ByteArray} {dep : Nat} (C : mOk κ cc RX11 dep) {pc : Nat} {K : mK} (d : decode cc pc = .ok (.getfield 80, 3)) (h : mAt κ (pc + 3) K) : mAt κ pc (o_getP 11 9 K) := m_getP C d mc_11 (Nat.le_of_ble_eq_true rfl) (by rw [ft_11_9]; exact wt_388) fk_11_9g h
theorem fg_X11_89 {κ : mX} {cc : ByteArray} {dep : Nat} (C : mOk κ cc RX11 dep) {pc : Nat} {K : mK} (d : decode cc pc = .ok (.getfield 89, 3)) (h : mAt κ (pc + 3) K) : mAt κ pc (o_getP 11 10 K) := m_getP C d mc_11 (Nat.le_of_ble_eq_true rfl) (by rw [ft_11_10]; exact wt_389) fk_11_10g h
theorem fg_X11_96 {κ : mX} {cc : ByteArray} {dep : Nat} (C : mOk κ cc RX11 dep) {pc : Nat} {K : mK} (d : decode cc pc = .ok (.getfield 96, 3)) (h : mAt κ (pc + 3) K) : mAt κ pc (o_getP 11 11 K) := m_getP C d mc_11 (Nat.le_of_ble_eq_true rfl) (by rw [ft_11_11]; exact wt_390) fk_11_11g h
theorem fg_X12_102 {κ : mX} {cc : ByteArray} {dep : Nat} (C : mOk κ cc RX12 dep) {pc : Nat} {K : mK} (d : decode cc pc = .ok (.getfield 102, 3)) (h : mAt κ (pc + 3) K) : mAt κ pc (o_getP 12 38 K) := m_getP C d mc_12 (Nat.le_of_ble_eq_true rfl) (by rw [ft_12_38]; exact wt_1301) fk_12_38g h
theorem fg_X12_105 {κ : mX} {cc : ByteArray} {dep : Nat} (C : mOk κ cc RX12 dep) {pc : Nat} {K : mK} (d : decode cc pc = .ok (.getfield 105, 3)) (h : mAt κ (pc + 3) K) : mAt κ pc (o_getP 12 40 K) := m_getP C d mc_12 (Nat.le_of_ble_eq_true rfl) (by rw [ft_12_40]; exact wt_1303) fk_12_40g h
theorem fg_X12_108 {κ : mX} {cc : ByteArray} {dep : Nat} (C : mOk κ cc RX12 dep) {pc : Nat} {K : mK} (d : decode cc pc = .ok (.getfield 108, 3)) (h : mAt κ (pc + 3) K) : mAt κ pc (o_getP 12 41 K) := m_getP C d mc_12 (Nat.le_of_ble_eq_true rfl) (by rw [ft_12_41]; exact wt_1304) fk_12_41g h
theorem fg_X12_112 {κ : mX} {cc : ByteArray} {dep : Nat} (C : mOk κ cc RX12 dep) {pc : Nat} {K : mK} (d : decode cc pc = .ok (.getfield 112, 3)) (h : mAt κ (pc + 3) K) : mAt κ pc (o_getP 12 42 K) := m_getP C d mc_12 (Nat.le_of_ble_eq_true rfl) (by rw [ft_12_42]; exact wt_1305) fk_12_42g h
theorem fg_X12_115 {κ : mX} {cc : ByteArray} {dep : Nat} (C : mOk κ cc RX12 dep) {pc : Nat} {K : mK} (d : decode cc pc = .ok (.getfield 115, 3)) (h : mAt κ (pc + 3) K) : mAt κ pc (o_getP 12 43 K) := m_getP C d mc_12 (Nat.le_of_ble_eq_true rfl) (by rw [ft_12_43]; exact wt_1306) fk_12_43g h
theorem fg_X12_118 {κ : mX} {cc : ByteArray} {dep : Nat} (C : mOk κ cc RX12 dep) {pc : Nat} {K : mK} (d : decode cc pc = .ok (.getfield 118, 3)) (h : mAt κ (pc + 3) K) : mAt κ pc (o_getP 12 44 K) := m_getP C d mc_12 (Nat.le_of_ble_eq_true rfl) (by rw [ft_12_44]; exact wt_1307) fk_12_44g h
theorem fg_X12_121 {κ : mX} {cc : ByteArray} {dep : Nat} (C : mOk κ cc RX12 dep) {pc : Nat} {K : mK} (d : decode cc pc = .ok (.getfield 121, 3)) (h : mAt κ (pc + 3) K) : mAt κ pc (o_getP 12 45 K) := m_getP C d mc_12 (Nat.le_of_ble_eq_true rfl) (by rw [ft_12_45]; exact wt_1308) fk_12_45g h
theorem fg_X12_124 {κ : mX} {cc : ByteArray} {dep : Nat} (C : mOk κ cc RX12 dep) {pc : Nat} {K : mK} (d : decode cc pc = .ok (.getfield 124, 3)) (h : mAt κ (pc + 3) K) : mAt κ pc (o_getP 12 46 K) := m_getP C d mc_12 (Nat.le_of_ble_eq_true rfl) (by rw [ft_12_46]; exact wt_1309) fk_12_46g h
theorem fg_X12_127 {κ : mX} {cc : ByteArray} {dep : Nat} (C : mOk κ cc RX12 dep) {pc : Nat} {K : mK} (d : decode cc pc = .ok (.getfield 127, 3)) (h : mAt κ (pc + 3) K) : mAt κ pc (o_getP 12 51 K) := m_getP C d mc_12 (Nat.le_of_ble_eq_true rfl) (by rw [ft_12_51]; exact wt_1314) fk_12_51g h
theorem fg_X12_13 {κ : mX} {cc : ByteArray} {dep : Nat} (C : mOk κ cc RX12 dep) {pc : Nat} {K : mK} (d : decode cc pc = .ok (.getfield 13, 3)) (h : mAt κ (pc + 3) K) : mAt κ pc (o_getI 12 8 K) := m_getI C d mc_12 (Nat.le_of_ble_eq_true rfl) (by rw [ft_12_8]; exact wt_1271) fk_12_8g h
theorem fg_X12_130 {κ : mX} {cc : ByteArray} {dep : Nat} (C : mOk κ cc RX12 dep) {pc : Nat} {K : mK} (d : decode cc pc = .ok (.getfield 130, 3)) (h : mAt κ (pc + 3) K) : mAt κ pc (o_getP 12 52 K) := m_getP C d mc_12 (Nat.le_of_ble_eq_true rfl) (by rw [ft_12_52]; exact wt_1315) fk_12_52g h
theorem fg_X12_133 {κ : mX} {cc : ByteArray} {dep : Nat} (C : mOk κ cc RX12 dep) {pc : Nat} {K : mK} (d : decode cc pc = .ok (.getfield 133, 3)) (h : mAt κ (pc + 3) K) : mAt κ pc (o_getP 12 54 K) := m_getP C d mc_12 (Nat.le_of_ble_eq_true rfl) (by rw [ft_12_54]; exact wt_1317) fk_12_54g h
theorem fg_X12_136 {κ : mX} {cc : ByteArray} {dep : Nat} (C : mOk κ cc RX12 dep) {pc : Nat} {K : mK} (d : decode cc pc = .ok (.getfield 136, 3)) (h : mAt κ (pc + 3) K) : mAt κ pc (o_getP 12 55 K) := m_getP C d mc_12 (Nat.le_of_ble_eq_true rfl) (by rw [ft_12_55]; exact wt_1318) fk_12_55g h
theorem fg_X12_139 {κ : mX} {cc : ByteArray} {dep : Nat} (C : mOk κ cc RX12 dep) {pc : Nat} {K : mK} (d : decode cc pc = .ok (.getfield 139, 3)) (h : mAt κ (pc + 3) K) : mAt κ pc (o_getP 12 56 K) := m_getP C d mc_12 (Nat.le_of_ble_eq_true rfl) (by rw [ft_12_56]; exact wt_1319) fk_12_56g h
theorem fg_X12_142 {κ : mX} {cc : ByteArray} {dep : Nat} (C : mOk κ cc RX12 dep) {pc : Nat} {K : mK} (d : decode cc pc = .ok (.getfield 142, 3)) (h : mAt κ (pc + 3) K) : mAt κ pc (o_getP 12 57 K) := m_getP C d mc_12 (Nat.le_of_ble_eq_true rfl) (by rw [ft_12_57]; exact wt_1320) fk_12_57g h
theorem fg_X12_145 {κ : mX} {cc : ByteArray} {dep : Nat} (C : mOk κ cc RX12 dep) {pc : Nat} {K : mK} (d : decode cc pc = .ok (.getfield 145, 3)) (h : mAt κ (pc + 3) K) : mAt κ pc (o_getP 12 58 K) := m_getP C d mc_12 (Nat.le_of_ble_eq_true rfl) (by rw [ft_12_58]; exact wt_1321) fk_12_58g h
theorem fg_X12_148 {κ : mX} {cc : ByteArray} {dep : Nat} (C : mOk κ cc RX12 dep) {pc : Nat} {K : mK} (d : decode cc pc = .ok (.getfield 148, 3)) (h : mAt κ (pc + 3) K) : mAt κ pc (o_getP 12 65 K) := m_getP C d mc_12 (Nat.le_of_ble_eq_true rfl) (by rw [ft_12_65]; exact wt_1328) fk_12_65g h
theorem fg_X12_151 {κ : mX} {cc : ByteArray} {dep : Nat} (C : mOk κ cc RX12 dep) {pc : Nat} {K : mK} (d : decode cc pc = .ok (.getfield 151, 3)) (h : mAt κ (pc + 3) K) : mAt κ pc (o_getP 12 66 K) := m_getP C d mc_12 (Nat.le_of_ble_eq_true rfl) (by rw [ft_12_66]; exact wt_1329) fk_12_66g h
theorem fg_X12_154 {κ : mX} {cc : ByteArray} {dep : Nat} (C : mOk κ cc RX12 dep) {pc : Nat} {K : mK} (d : decode cc pc = .ok (.getfield 154, 3)) (h : mAt κ (pc + 3) K) : mAt κ pc (o_getP 12 67 K) := m_getP C d mc_12 (Nat.le_of_ble_eq_true rfl) (by rw [ft_12_67]; exact wt_1330) fk_12_67g h
theorem fg_X12_157 {κ : mX} {cc : ByteArray} {dep : Nat} (C : mOk κ cc RX12 dep) {pc : Nat} {K : mK} (d : decode cc pc = .ok (.getfield 157, 3)) (h : mAt κ (pc + 3) K) : mAt κ pc (o_getP 12 70 K) := m_getP C d mc_12 (Nat.le_of_ble_eq_true rfl) (by rw [ft_12_70]; exact wt_1333) fk_12_70g h
theorem fg_X12_160 {κ : mX} {cc : ByteArray} {dep : Nat} (C : mOk κ cc RX12 dep) {pc : Nat} {K : mK} (d : decode cc pc = .ok (.getfield 160, 3)) (h : mAt κ (pc + 3) K) : mAt κ pc (o_getP 12 71 K) := m_getP C d mc_12 (Nat.le_of_ble_eq_true rfl) (by rw [ft_12_71]; exact wt_1334) fk_12_71g h
theorem fg_X12_163 {κ : mX} {cc : ByteArray} {dep : Nat} (C : mOk κ cc RX12 dep) {pc : Nat} {K : mK} (d : decode cc pc = .ok (.getfield 163, 3)) (h : mAt κ (pc + 3) K) : mAt κ pc (o_getP 12 72 K) := m_getP C d mc_12 (Nat.le_of_ble_eq_true rfl) (by rw [ft_12_72]; exact wt_1335) fk_12_72g h
theorem fg_X12_166 {κ : mX} {cc : ByteArray} {dep : Nat} (C : mOk κ cc RX12 dep) {pc : Nat} {K : mK} (d : decode cc pc = .ok (.getfield 166, 3)) (h : mAt κ (pc + 3) K) : mAt κ pc (o_getJ 12 75 K) := m_getJ C d mc_12 (Nat.le_of_ble_eq_true rfl) (by rw [ft_12_75]; exact wt_1338) fk_12_75g h
theorem fg_X12_17 {κ : mX} {cc : ByteArray} {dep : Nat} (C : mOk κ cc RX12 dep) {pc : Nat} {K : mK} (d : decode cc pc = .ok (.getfield 17, 3)) (h : mAt κ (pc + 3) K) : mAt κ pc (o_getP 12 9 K) := m_getP C d mc_12 (Nat.le_of_ble_eq_true rfl) (by rw [ft_12_9]; exact wt_1272) fk_12_9g h
theorem fg_X12_170 {κ : mX} {cc : ByteArray} {dep : Nat} (C : mOk κ cc RX12 dep) {pc : Nat} {K : mK} (d : decode cc pc = .ok (.getfield 170, 3)) (h : mAt κ (pc + 3) K) : mAt κ pc (o_getP 12 76 K) := m_getP C d mc_12 (Nat.le_of_ble_eq_true rfl) (by rw [ft_12_76]; exact wt_1339) fk_12_76g h
theorem fg_X12_173 {κ : mX} {cc : ByteArray} {dep : Nat} (C : mOk κ cc RX12 dep) {pc : Nat} {K : mK} (d : decode cc pc = .ok (.getfield 173, 3)) (h : mAt κ (pc + 3) K) : mAt κ pc (o_getP 12 77 K) := m_getP C d mc_12 (Nat.le_of_ble_eq_true rfl) (by rw [ft_12_77]; exact wt_1340) fk_12_77g h
theorem fg_X12_176 {κ : mX} {cc : ByteArray} {dep : Nat} (C : mOk κ cc RX12 dep) {pc : Nat} {K : mK} (d : decode cc pc = .ok (.getfield 176, 3)) (h : mAt κ (pc + 3) K) : mAt κ pc (o_getP 12 78 K) := m_getP C d mc_12 (Nat.le_of_ble_eq_true rfl) (by rw [ft_12_78]; exact wt_1341) fk_12_78g h
theorem fg_X12_179 {κ : mX} {cc : ByteArray} {dep : Nat} (C : mOk κ cc RX12 dep) {pc : Nat} {K : mK} (d : decode cc pc = .ok (.getfield 179, 3)) (h : mAt κ (pc + 3) K) : mAt κ pc (o_getP 12 79 K) := m_getP C d mc_12 (Nat.le_of_ble_eq_true rfl) (by rw [ft_12_79]; exact wt_1342) fk_12_79g h
theorem fg_X12_182 {κ : mX} {cc : ByteArray} {dep : Nat} (C : mOk κ cc RX12 dep) {pc : Nat} {K : mK} (d : decode cc pc = .ok (.getfield 182, 3)) (h : mAt κ (pc + 3) K) : mAt κ pc (o_getP 12 80 K) := m_getP C d mc_12 (Nat.le_of_ble_eq_true rfl) (by rw [ft_12_80]; exact wt_1343) fk_12_80g h
theorem fg_X12_185 {κ : mX} {cc : ByteArray} {dep : Nat} (C : mOk κ cc RX12 dep) {pc : Nat} {K : mK} (d : decode cc pc = .ok (.getfield 185, 3)) (h : mAt κ (pc + 3) K) : mAt κ pc (o_getP 12 81 K) := m_getP C d mc_12 (Nat.le_of_ble_eq_true rfl) (by rw [ft_12_81]; exact wt_1344) fk_12_81g h
theorem fg_X12_188 {κ : mX} {cc : ByteArray} {dep : Nat} (C : mOk κ cc RX12 dep) {pc : Nat} {K : mK} (d : decode cc pc = .ok (.getfield 188, 3)) (h : mAt κ (pc + 3) K) : mAt κ pc (o_getP 12 82 K) := m_getP C d mc_12 (Nat.le_of_ble_eq_true rfl) (by rw [ft_12_82]; exact wt_1345) fk_12_82g h
theorem fg_X12_191 {κ : mX} {cc : ByteArray} {dep : Nat} (C : mOk κ cc RX12 dep) {pc : Nat} {K : mK} (d : decode cc pc = .ok (.getfield 191, 3)) (h : mAt κ (pc + 3) K) : mAt κ pc (o_getP 12 83 K) := m_getP C d mc_12 (Nat.le_of_ble_eq_true rfl) (by rw [ft_12_83]; exact wt_1346) fk_12_83g h
theorem fg_X12_194 {κ : mX} {cc : ByteArray} {dep : Nat} (C : mOk κ cc RX12 dep) {pc : Nat} {K : mK} (d : decode cc pc = .ok (.getfield 194, 3)) (h : mAt κ (pc + 3) K) : mAt κ pc (o_getP 12 84 K) := m_getP C d mc_12 (Nat.le_of_ble_eq_true rfl) (by rw [ft_12_84]; exact wt_1347) fk_12_84g h
theorem fg_X12_197 {κ : mX} {cc : ByteArray} {dep : Nat} (C : mOk κ cc RX12 dep) {pc : Nat} {K : mK} (d : decode cc pc = .ok (.getfield 197, 3)) (h : mAt κ (pc + 3) K) : mAt κ pc (o_getP 12 85 K) := m_getP C d mc_12 (Nat.le_of_ble_eq_true rfl) (by rw [ft_12_85]; exact wt_1348) fk_12_85g h
theorem fg_X12_20 {κ : mX} {cc : ByteArray} {dep : Nat} (C : mOk κ cc RX12 dep) {pc : Nat} {K : mK} (d : decode cc pc = .ok (.getfield 20, 3)) (h : mAt κ (pc + 3) K) : mAt κ pc (o_getP 12 11 K) := m_getP C d mc_12 (Nat.le_of_ble_eq_true rfl) (by rw [ft_12_11]; exact wt_1274) fk_12_11g h
theorem fg_X12_200 {κ : mX} {cc : ByteArray} {dep : Nat} (C : mOk κ cc RX12 dep) {pc : Nat} {K : mK} (d : decode cc pc = .ok (.getfield 200, 3)) (h : mAt κ (pc + 3) K) : mAt κ pc (o_getP 12 86 K) := m_getP C d mc_12 (Nat.le_of_ble_eq_true rfl) (by rw [ft_12_86]; exact wt_1349) fk_12_86g h
theorem fg_X12_203 {κ : mX} {cc : ByteArray} {dep : Nat} (C : mOk κ cc RX12 dep) {pc : Nat} {K : mK} (d : decode cc pc = .ok (.getfield 203, 3)) (h : mAt κ (pc + 3) K) : mAt κ pc (o_getP 12 87 K) := m_getP C d mc_12 (Nat.le_of_ble_eq_true rfl) (by rw [ft_12_87]; exact wt_1350) fk_12_87g h
theorem fg_X12_206 {κ : mX} {cc : ByteArray} {dep : Nat} (C : mOk κ cc RX12 dep) {pc : Nat} {K : mK} (d : decode cc pc = .ok (.getfield 206, 3)) (h : mAt κ (pc + 3) K) : mAt κ pc (o_getP 12 88 K) := m_getP C d mc_12 (Nat.le_of_ble_eq_true rfl) (by rw [ft_12_88]; exact wt_1351) fk_12_88g h
theorem fg_X12_209 {κ : mX} {cc : ByteArray} {dep : Nat} (C : mOk κ cc RX12 dep) {pc : Nat} {K : mK} (d : decode cc pc = .ok (.getfield 209, 3)) (h : mAt κ (pc + 3) K) : mAt κ pc (o_getP 12 89 K) := m_getP C d mc_12 (Nat.le_of_ble_eq_true rfl) (by rw [ft_12_89]; exact wt_1352) fk_12_89g h
theorem fg_X12_212 {κ : mX} {cc : ByteArray} {dep : Nat} (C : mOk κ cc RX12 dep) {pc : Nat} {K : mK} (d : decode cc pc = .ok (.getfield 212, 3)) (h : mAt κ (pc + 3) K) : mAt κ pc (o_getP 12 90 K) := m_getP C d mc_12 (Nat.le_of_ble_eq_true rfl) (by rw [ft_12_90]; exact wt_1353) fk_12_90g h
theorem fg_X12_215 {κ : mX} {cc : ByteArray} {dep : Nat} (C : mOk κ cc RX12 dep) {pc : Nat} {K : mK} (d : decode cc pc = .ok (.getfield 215, 3)) (h : mAt κ (pc + 3) K) : mAt κ pc (o_getP 12 91 K) := m_getP C d mc_12 (Nat.le_of_ble_eq_true rfl) (by rw [ft_12_91]; exact wt_1354) fk_12_91g h
theorem fg_X12_218 {κ : mX} {cc : ByteArray} {dep : Nat} (C : mOk κ cc RX12 dep) {pc : Nat} {K : mK} (d : decode cc pc = .ok (.getfield 218, 3)) (h : mAt κ (pc + 3) K) : mAt κ pc (o_getP 12 92 K) := m_getP C d mc_12 (Nat.le_of_ble_eq_true rfl) (by rw [ft_12_92]; exact wt_1355) fk_12_92g h
theorem fg_X12_221 {κ : mX} {cc : ByteArray} {dep : Nat} (C : mOk κ cc RX12 dep) {pc : Nat} {K : mK} (d : decode cc pc = .ok (.getfield 221, 3)) (h : mAt κ (pc + 3) K) : mAt κ pc (o_getP 12 93 K) := m_getP C d mc_12 (Nat.le_of_ble_eq_true rfl) (by rw [ft_12_93]; exact wt_1356) fk_12_93g h
theorem fg_X12_224 {κ : mX} {cc : ByteArray} {dep : Nat} (C : mOk κ cc RX12 dep) {pc : Nat} {K : mK} (d : decode cc pc = .ok (.getfield 224, 3)) (h : mAt κ (pc + 3) K) : mAt κ pc (o_getP 12 94 K) := m_getP C d mc_12 (Nat.le_of_ble_eq_true rfl) (by rw [ft_12_94]; exact wt_1357) fk_12_94g h
theorem fg_X12_227 {κ : mX} {cc : ByteArray} {dep : Nat} (C : mOk κ cc RX12 dep) {pc : Nat} {K : mK} (d : decode cc pc = .ok (.getfield 227, 3)) (h : mAt κ (pc + 3) K) : mAt κ pc (o_getP 12 95 K) := m_getP C d mc_12 (Nat.le_of_ble_eq_true rfl) (by rw [ft_12_95]; exact wt_1358) fk_12_95g h
theorem fg_X12_230 {κ : mX} {cc : ByteArray} {dep : Nat} (C : mOk κ cc RX12 dep) {pc : Nat} {K : mK} (d : decode cc pc = .ok (.getfield 230, 3)) (h : mAt κ (pc + 3) K) : mAt κ pc (o_getP 12 96 K) := m_getP C d mc_12 (Nat.le_of_ble_eq_true rfl) (by rw [ft_12_96]; exact wt_1359) fk_12_96g h
theorem fg_X12_233 {κ : mX} {cc : ByteArray} {dep : Nat} (C : mOk κ cc RX12 dep) {pc : Nat} {K : mK} (d : decode cc pc = .ok (.getfield 233, 3)) (h : mAt κ (pc + 3) K) : mAt κ pc (o_getP 12 97 K) := m_getP C d mc_12 (Nat.le_of_ble_eq_true rfl) (by rw [ft_12_97]; exact wt_1360) fk_12_97g h
theorem fg_X12_236 {κ : mX} {cc : ByteArray} {dep : Nat} (C : mOk κ cc RX12 dep) {pc : Nat} {K : mK} (d : decode cc pc = .ok (.getfield 236, 3)) (h : mAt κ (pc + 3) K) : mAt κ pc (o_getP 12 98 K) := m_getP C d mc_12 (Nat.le_of_ble_eq_true rfl) (by rw [ft_12_98]; exact wt_1361) fk_12_98g h
theorem fg_X12_239 {κ : mX} {cc : ByteArray} {dep : Nat} (C : mOk κ cc RX12 dep) {pc : Nat} {K : mK} (d : decode cc pc = .ok (.getfield 239, 3)) (h : mAt κ (pc + 3) K) : mAt κ pc (o_getP 12 99 K) := m_getP C d mc_12 (Nat.le_of_ble_eq_true rfl) (by rw [ft_12_99]; exact wt_1362) fk_12_99g h
theorem fg_X12_24 {κ : mX} {cc : ByteArray} {dep : Nat} (C : mOk κ cc RX12 dep) {pc : Nat} {K : mK} (d : decode cc pc = .ok (.getfield 24, 3)) (h : mAt κ (pc + 3) K) : mAt κ pc (o_getP 12 12 K) := m_getP C d mc_12 (Nat.le_of_ble_eq_true rfl) (by rw [ft_12_12]; exact wt_1275) fk_12_12g h
theorem fg_X12_242 {κ : mX} {cc : ByteArray} {dep : Nat} (C : mOk κ cc RX12 dep) {pc : Nat} {K : mK} (d : decode cc pc = .ok (.getfield 242, 3)) (h : mAt κ (pc + 3) K) : mAt κ pc (o_getP 12 100 K) := m_getP C d mc_12 (Nat.le_of_ble_eq_true rfl) (by rw [ft_12_100]; exact wt_1363) fk_12_100g h
theorem fg_X12_245 {κ : mX} {cc : ByteArray} {dep : Nat} (C : mOk κ cc RX12 dep) {pc : Nat} {K : mK} (d : decode cc pc = .ok (.getfield 245, 3)) (h : mAt κ (pc + 3) K) : mAt κ pc (o_getP 12 102 K) := m_getP C d mc_12 (Nat.le_of_ble_eq_true rfl) (by rw [ft_12_102]; exact wt_1365) fk_12_102g h
theorem fg_X12_248 {κ : mX} {cc : ByteArray} {dep : Nat} (C : mOk κ cc RX12 dep) {pc : Nat} {K : mK} (d : decode cc pc = .ok (.getfield 248, 3)) (h : mAt κ (pc + 3) K) : mAt κ pc (o_getP 12 106 K) := m_getP C d mc_12 (Nat.le_of_ble_eq_true rfl) (by rw [ft_12_106]; exact wt_1369) fk_12_106g h
theorem fg_X12_251 {κ : mX} {cc : ByteArray} {dep : Nat} (C : mOk κ cc RX12 dep) {pc : Nat} {K : mK} (d : decode cc pc = .ok (.getfield 251, 3)) (h : mAt κ (pc + 3) K) : mAt κ pc (o_getP 12 110 K) := m_getP C d mc_12 (Nat.le_of_ble_eq_true rfl) (by rw [ft_12_110]; exact wt_1373) fk_12_110g h
theorem fg_X12_254 {κ : mX} {cc : ByteArray} {dep : Nat} (C : mOk κ cc RX12 dep) {pc : Nat} {K : mK} (d : decode cc pc = .ok (.getfield 254, 3)) (h : mAt κ (pc + 3) K) : mAt κ pc (o_getI 12 1 K) := m_getI C d mc_12 (Nat.le_of_ble_eq_true rfl) (by rw [ft_12_1]; exact wt_1264) fk_12_1g h
theorem fg_X12_257 {κ : mX} {cc : ByteArray} {dep : Nat} (C : mOk κ cc RX12 dep) {pc : Nat} {K : mK} (d : decode cc pc = .ok (.getfield 257, 3)) (h : mAt κ (pc + 3) K) : mAt κ pc (o_getI 12 5 K) := m_getI C d mc_12 (Nat.le_of_ble_eq_true rfl) (by rw [ft_12_5]; exact wt_1268) fk_12_5g h
theorem fg_X12_260 {κ : mX} {cc : ByteArray} {dep : Nat} (C : mOk κ cc RX12 dep) {pc : Nat} {K : mK} (d : decode cc pc = .ok (.getfield 260, 3)) (h : mAt κ (pc + 3) K) : mAt κ pc (o_getI 12 6 K) := m_getI C d mc_12 (Nat.le_of_ble_eq_true rfl) (by rw [ft_12_6]; exact wt_1269) fk_12_6g h
theorem fg_X12_263 {κ : mX} {cc : ByteArray} {dep : Nat} (C : mOk κ cc RX12 dep) {pc : Nat} {K : mK} (d : decode cc pc = .ok (.getfield 263, 3)) (h : mAt κ (pc + 3) K) : mAt κ pc (o_getI 12 2 K) := m_getI C d mc_12 (Nat.le_of_ble_eq_true rfl) (by rw [ft_12_2]; exact wt_1265) fk_12_2g h
theorem fg_X12_266 {κ : mX} {cc : ByteArray} {dep : Nat} (C : mOk κ cc RX12 dep) {pc : Nat} {K : mK} (d : decode cc pc = .ok (.getfield 266, 3)) (h : mAt κ (pc + 3) K) : mAt κ pc (o_getI 12 3 K) := m_getI C d mc_12 (Nat.le_of_ble_eq_true rfl) (by rw [ft_12_3]; exact wt_1266) fk_12_3g h
theorem fg_X12_27 {κ : mX} {cc : ByteArray} {dep : Nat} (C : mOk κ cc RX12 dep) {pc : Nat} {K : mK} (d : decode cc pc = .ok (.getfield 27, 3)) (h : mAt κ (pc + 3) K) : mAt κ pc (o_getP 12 13 K) := m_getP C d mc_12 (Nat.le_of_ble_eq_true rfl) (by rw [ft_12_13]; exact wt_1276) fk_12_13g h
theorem fg_X12_277 {κ : mX} {cc : ByteArray} {dep : Nat} (C : mOk κ cc RX12 dep) {pc : Nat} {K : mK} (d : decode cc pc = .ok (.getfield 277, 3)) (h : mAt κ (pc + 3) K) : mAt κ pc (o_getI 12 4 K) := m_getI C d mc_12 (Nat.le_of_ble_eq_true rfl) (by rw [ft_12_4]; exact wt_1267) fk_12_4g h
theorem fg_X12_297 {κ : mX} {cc : ByteArray} {dep : Nat} (C : mOk κ cc RX12 dep) {pc : Nat} {K : mK} (d : decode cc pc = .ok (.getfield 297, 3)) (h : mAt κ (pc + 3) K) : mAt κ pc (o_getI 12 10 K) := m_getI C d mc_12 (Nat.le_of_ble_eq_true rfl) (by rw [ft_12_10]; exact wt_1273) fk_12_10g h
theorem fg_X12_30 {κ : mX} {cc : ByteArray} {dep : Nat} (C : mOk κ cc RX12 dep) {pc : Nat} {K : mK} (d : decode cc pc = .ok (.getfield 30, 3)) (h : mAt κ (pc + 3) K) : mAt κ pc (o_getP 12 14 K) := m_getP C d mc_12 (Nat.le_of_ble_eq_true rfl) (by rw [ft_12_14]; exact wt_1277) fk_12_14g h
theorem fg_X12_308 {κ : mX} {cc : ByteArray} {dep : Nat} (C : mOk κ cc RX12 dep) {pc : Nat} {K : mK} (d : decode cc pc = .ok (.getfield 308, 3)) (h : mAt κ (pc + 3) K) : mAt κ pc (o_getI 12 39 K) := m_getI C d mc_12 (Nat.le_of_ble_eq_true rfl) (by rw [ft_12_39]; exact wt_1302) fk_12_39g h
theorem fg_X12_315 {κ : mX} {cc : ByteArray} {dep : Nat} (C : mOk κ cc RX12 dep) {pc : Nat} {K : mK} (d : decode cc pc = .ok (.getfield 315, 3)) (h : mAt κ (pc + 3) K) : mAt κ pc (o_getI 12 50 K) := m_getI C d mc_12 (Nat.le_of_ble_eq_true rfl) (by rw [ft_12_50]; exact wt_1313) fk_12_50g h
theorem fg_X12_33 {κ : mX} {cc : ByteArray} {dep : Nat} (C : mOk κ cc RX12 dep) {pc : Nat} {K : mK} (d : decode cc pc = .ok (.getfield 33, 3)) (h : mAt κ (pc + 3) K) : mAt κ pc (o_getP 12 15 K) := m_getP C d mc_12 (Nat.le_of_ble_eq_true rfl) (by rw [ft_12_15]; exact wt_1278) fk_12_15g h
theorem fg_X12_334 {κ : mX} {cc : ByteArray} {dep : Nat} (C : mOk κ cc RX12 dep) {pc : Nat} {K : mK} (d : decode cc pc = .ok (.getfield 334, 3)) (h : mAt κ (pc + 3) K) : mAt κ pc (o_getI 12 101 K) := m_getI C d mc_12 (Nat.le_of_ble_eq_true rfl) (by rw [ft_12_101]; exact wt_1364) fk_12_101g h
theorem fg_X12_337 {κ : mX} {cc : ByteArray} {dep : Nat} (C : mOk κ cc RX12 dep) {pc : Nat} {K : mK} (d : decode cc pc = .ok (.getfield 337, 3)) (h : mAt κ (pc + 3) K) : mAt κ pc (o_getI 12 103 K) := m_getI C d mc_12 (Nat.le_of_ble_eq_true rfl) (by rw [ft_12_103]; exact wt_1366) fk_12_103g h
theorem fg_X12_340 {κ : mX} {cc : ByteArray} {dep : Nat} (C : mOk κ cc RX12 dep) {pc : Nat} {K : mK} (d : decode cc pc = .ok (.getfield 340, 3)) (h : mAt κ (pc + 3) K) : mAt κ pc (o_getI 12 104 K) := m_getI C d mc_12 (Nat.le_of_ble_eq_true rfl) (by rw [ft_12_104]; exact wt_1367) fk_12_104g h
theorem fg_X12_343 {κ : mX} {cc : ByteArray} {dep : Nat} (C : mOk κ cc RX12 dep) {pc : Nat} {K : mK} (d : decode cc pc = .ok (.getfield 343, 3)) (h : mAt κ (pc + 3) K) : mAt κ pc (o_getI 12 105 K) := m_getI C d mc_12 (Nat.le_of_ble_eq_true rfl) (by rw [ft_12_105]; exact wt_1368) fk_12_105g h
theorem fg_X12_352 {κ : mX} {cc : ByteArray} {dep : Nat} (C : mOk κ cc RX12 dep) {pc : Nat} {K : mK} (d : decode cc pc = .ok (.getfield 352, 3)) (h : mAt κ (pc + 3) K) : mAt κ pc (o_getI 12 47 K) := m_getI C d mc_12 (Nat.le_of_ble_eq_true rfl) (by rw [ft_12_47]; exact wt_1310) fk_12_47g h
theorem fg_X12_355 {κ : mX} {cc : ByteArray} {dep : Nat} (C : mOk κ cc RX12 dep) {pc : Nat} {K : mK} (d : decode cc pc = .ok (.getfield 355, 3)) (h : mAt κ (pc + 3) K) : mAt κ pc (o_getI 12 48 K) := m_getI C d mc_12 (Nat.le_of_ble_eq_true rfl) (by rw [ft_12_48]; exact wt_1311) fk_12_48g h
theorem fg_X12_36 {κ : mX} {cc : ByteArray} {dep : Nat} (C : mOk κ cc RX12 dep) {pc : Nat} {K : mK} (d : decode cc pc = .ok (.getfield 36, 3)) (h : mAt κ (pc + 3) K) : mAt κ pc (o_getP 12 16 K) := m_getP C d mc_12 (Nat.le_of_ble_eq_true rfl) (by rw [ft_12_16]; exact wt_1279) fk_12_16g h
theorem fg_X12_373 {κ : mX} {cc : ByteArray} {dep : Nat} (C : mOk κ cc RX12 dep) {pc : Nat} {K : mK} (d : decode cc pc = .ok (.getfield 373, 3)) (h : mAt κ (pc + 3) K) : mAt κ pc (o_getI 12 7 K) := m_getI C d mc_12 (Nat.le_of_ble_eq_true rfl) (by rw [ft_12_7]; exact wt_1270) fk_12_7g h
theorem fg_X12_383 {κ : mX} {cc : ByteArray} {dep : Nat} (C : mOk κ cc RX12 dep) {pc : Nat} {K : mK} (d : decode cc pc = .ok (.getfield 383, 3)) (h : mAt κ (pc + 3) K) : mAt κ pc (o_getI 12 49 K) := m_getI C d mc_12 (Nat.le_of_ble_eq_true rfl) (by rw [ft_12_49]; exact wt_1312) fk_12_49g h
theorem fg_X12_39 {κ : mX} {cc : ByteArray} {dep : Nat} (C : mOk κ cc RX12 dep) {pc : Nat} {K : mK} (d : decode cc pc = .ok (.getfield 39, 3)) (h : mAt κ (pc + 3) K) : mAt κ pc (o_getP 12 17 K) := m_getP C d mc_12 (Nat.le_of_ble_eq_true rfl) (by rw [ft_12_17]; exact wt_1280) fk_12_17g h
theorem fg_X12_390 {κ : mX} {cc : ByteArray} {dep : Nat} (C : mOk κ cc RX12 dep) {pc : Nat} {K : mK} (d : decode cc pc = .ok (.getfield 390, 3)) (h : mAt κ (pc + 3) K) : mAt κ pc (o_getI 12 73 K) := m_getI C d mc_12 (Nat.le_of_ble_eq_true rfl) (by rw [ft_12_73]; exact wt_1336) fk_12_73g h
theorem fg_X12_393 {κ : mX} {cc : ByteArray} {dep : Nat} (C : mOk κ cc RX12 dep) {pc : Nat} {K : mK} (d : decode cc pc = .ok (.getfield 393, 3)) (h : mAt κ (pc + 3) K) : mAt κ pc (o_getI 12 69 K) := m_getI C d mc_12 (Nat.le_of_ble_eq_true rfl) (by rw [ft_12_69]; exact wt_1332) fk_12_69g h
theorem fg_X12_404 {κ : mX} {cc : ByteArray} {dep : Nat} (C : mOk κ cc RX12 dep) {pc : Nat} {K : mK} (d : decode cc pc = .ok (.getfield 404, 3)) (h : mAt κ (pc + 3) K) : mAt κ pc (o_getI 12 53 K) := m_getI C d mc_12 (Nat.le_of_ble_eq_true rfl) (by rw [ft_12_53]; exact wt_1316) fk_12_53g h
theorem fg_X12_42 {κ : mX} {cc : ByteArray} {dep : Nat} (C : mOk κ cc RX12 dep) {pc : Nat} {K : mK} (d : decode cc pc = .ok (.getfield 42, 3)) (h : mAt κ (pc + 3) K) : mAt κ pc (o_getP 12 18 K) := m_getP C d mc_12 (Nat.le_of_ble_eq_true rfl) (by rw [ft_12_18]; exact wt_1281) fk_12_18g h
theorem fg_X12_421 {κ : mX} {cc : ByteArray} {dep : Nat} (C : mOk κ cc RX12 dep) {pc : Nat} {K : mK} (d : decode cc pc = .ok (.getfield 421, 3)) (h : mAt κ (pc + 3) K) : mAt κ pc (o_getI 12 107 K) := m_getI C d mc_12 (Nat.le_of_ble_eq_true rfl) (by rw [ft_12_107]; exact wt_1370) fk_12_107g h
theorem fg_X12_440 {κ : mX} {cc : ByteArray} {dep : Nat} (C : mOk κ cc RX12 dep) {pc : Nat} {K : mK} (d : decode cc pc = .ok (.getfield 440, 3)) (h : mAt κ (pc + 3) K) : mAt κ pc (o_getI 12 61 K) := m_getI C d mc_12 (Nat.le_of_ble_eq_true rfl) (by rw [ft_12_61]; exact wt_1324) fk_12_61g h
theorem fg_X12_443 {κ : mX} {cc : ByteArray} {dep : Nat} (C : mOk κ cc RX12 dep) {pc : Nat} {K : mK} (d : decode cc pc = .ok (.getfield 443, 3)) (h : mAt κ (pc + 3) K) : mAt κ pc (o_getI 12 59 K) := m_getI C d mc_12 (Nat.le_of_ble_eq_true rfl) (by rw [ft_12_59]; exact wt_1322) fk_12_59g h
theorem fg_X12_45 {κ : mX} {cc : ByteArray} {dep : Nat} (C : mOk κ cc RX12 dep) {pc : Nat} {K : mK} (d : decode cc pc = .ok (.getfield 45, 3)) (h : mAt κ (pc + 3) K) : mAt κ pc (o_getP 12 19 K) := m_getP C d mc_12 (Nat.le_of_ble_eq_true rfl) (by rw [ft_12_19]; exact wt_1282) fk_12_19g h
theorem fg_X12_459 {κ : mX} {cc : ByteArray} {dep : Nat} (C : mOk κ cc RX12 dep) {pc : Nat} {K : mK} (d : decode cc pc = .ok (.getfield 459, 3)) (h : mAt κ (pc + 3) K) : mAt κ pc (o_getI 12 64 K) := m_getI C d mc_12 (Nat.le_of_ble_eq_true rfl) (by rw [ft_12_64]; exact wt_1327) fk_12_64g h
theorem fg_X12_48 {κ : mX} {cc : ByteArray} {dep : Nat} (C : mOk κ cc RX12 dep) {pc : Nat} {K : mK} (d : decode cc pc = .ok (.getfield 48, 3)) (h : mAt κ (pc + 3) K) : mAt κ pc (o_getP 12 20 K) := m_getP C d mc_12 (Nat.le_of_ble_eq_true rfl) (by rw [ft_12_20]; exact wt_1283) fk_12_20g h
theorem fg_X12_480 {κ : mX} {cc : ByteArray} {dep : Nat} (C : mOk κ cc RX12 dep) {pc : Nat} {K : mK} (d : decode cc pc = .ok (.getfield 480, 3)) (h : mAt κ (pc + 3) K) : mAt κ pc (o_getI 12 62 K) := m_getI C d mc_12 (Nat.le_of_ble_eq_true rfl) (by rw [ft_12_62]; exact wt_1325) fk_12_62g h
theorem fg_X12_483 {κ : mX} {cc : ByteArray} {dep : Nat} (C : mOk κ cc RX12 dep) {pc : Nat} {K : mK} (d : decode cc pc = .ok (.getfield 483, 3)) (h : mAt κ (pc + 3) K) : mAt κ pc (o_getI 12 63 K) := m_getI C d mc_12 (Nat.le_of_ble_eq_true rfl) (by rw [ft_12_63]; exact wt_1326) fk_12_63g h
theorem fg_X12_51 {κ : mX} {cc : ByteArray} {dep : Nat} (C : mOk κ cc RX12 dep) {pc : Nat} {K : mK} (d : decode cc pc = .ok (.getfield 51, 3)) (h : mAt κ (pc + 3) K) : mAt κ pc (o_getP 12 21 K) := m_getP C d mc_12 (Nat.le_of_ble_eq_true rfl) (by rw [ft_12_21]; exact wt_1284) fk_12_21g h
theorem fg_X12_527 {κ : mX} {cc : ByteArray} {dep : Nat} (C : mOk κ cc RX12 dep) {pc : Nat} {K : mK} (d : decode cc pc = .ok (.getfield 527, 3)) (h : mAt κ (pc + 3) K) : mAt κ pc (o_getI 12 60 K) := m_getI C d mc_12 (Nat.le_of_ble_eq_true rfl) (by rw [ft_12_60]; exact wt_1323) fk_12_60g h
theorem fg_X12_54 {κ : mX} {cc : ByteArray} {dep : Nat} (C : mOk κ cc RX12 dep) {pc : Nat} {K : mK} (d : decode cc pc = .ok (.getfield 54, 3)) (h : mAt κ (pc + 3) K) : mAt κ pc (o_getP 12 22 K) := m_getP C d mc_12 (Nat.le_of_ble_eq_true rfl) (by rw [ft_12_22]; exact wt_1285) fk_12_22g h
theorem fg_X12_569 {κ : mX} {cc : ByteArray} {dep : Nat} (C : mOk κ cc RX12 dep) {pc : Nat} {K : mK} (d : decode cc pc = .ok (.getfield 569, 3)) (h : mAt κ (pc + 3) K) : mAt κ pc (o_getI 12 68 K) := m_getI C d mc_12 (Nat.le_of_ble_eq_true rfl) (by rw [ft_12_68]; exact wt_1331) fk_12_68g h
theorem fg_X12_57 {κ : mX} {cc : ByteArray} {dep : Nat} (C : mOk κ cc RX12 dep) {pc : Nat} {K : mK} (d : decode cc pc = .ok (.getfield 57, 3)) (h : mAt κ (pc + 3) K) : mAt κ pc (o_getP 12 23 K) := m_getP C d mc_12 (Nat.le_of_ble_eq_true rfl) (by rw [ft_12_23]; exact wt_1286) fk_12_23g h
theorem fg_X12_590 {κ : mX} {cc : ByteArray} {dep : Nat} (C : mOk κ cc RX12 dep) {pc : Nat} {K : mK} (d : decode cc pc = .ok (.getfield 590, 3)) (h : mAt κ (pc + 3) K) : mAt κ pc (o_getI 12 74 K) := m_getI C d mc_12 (Nat.le_of_ble_eq_true rfl) (by rw [ft_12_74]; exact wt_1337) fk_12_74g h
theorem fg_X12_60 {κ : mX} {cc : ByteArray} {dep : Nat} (C : mOk κ cc RX12 dep) {pc : Nat} {K : mK} (d : decode cc pc = .ok (.getfield 60, 3)) (h : mAt κ (pc + 3) K) : mAt κ pc (o_getP 12 24 K) := m_getP C d mc_12 (Nat.le_of_ble_eq_true rfl) (by rw [ft_12_24]; exact wt_1287) fk_12_24g h
theorem fg_X12_63 {κ : mX} {cc : ByteArray} {dep : Nat} (C : mOk κ cc RX12 dep) {pc : Nat} {K : mK} (d : decode cc pc = .ok (.getfield 63, 3)) (h : mAt κ (pc + 3) K) : mAt κ pc (o_getP 12 25 K) := m_getP C d mc_12 (Nat.le_of_ble_eq_true rfl) (by rw [ft_12_25]; exact wt_1288) fk_12_25g h
theorem fg_X12_66 {κ : mX} {cc : ByteArray} {dep : Nat} (C : mOk κ cc RX12 dep) {pc : Nat} {K : mK} (d : decode cc pc = .ok (.getfield 66, 3)) (h : mAt κ (pc + 3) K) : mAt κ pc (o_getP 12 26 K) := m_getP C d mc_12 (Nat.le_of_ble_eq_true rfl) (by rw [ft_12_26]; exact wt_1289) fk_12_26g h
theorem fg_X12_682 {κ : mX} {cc : ByteArray} {dep : Nat} (C : mOk κ cc RX12 dep) {pc : Nat} {K : mK} (d : decode cc pc = .ok (.getfield 682, 3)) (h : mAt κ (pc + 3) K) : mAt κ pc (o_getJ 12 108 K) := m_getJ C d mc_12 (Nat.le_of_ble_eq_true rfl) (by rw [ft_12_108]; exact wt_1371) fk_12_108g h
theorem fg_X12_685 {κ : mX} {cc : ByteArray} {dep : Nat} (C : mOk κ cc RX12 dep) {pc : Nat} {K : mK} (d : decode cc pc = .ok (.getfield 685, 3)) (h : mAt κ (pc + 3) K) : mAt κ pc (o_getI 12 109 K) := m_getI C d mc_12 (Nat.le_of_ble_eq_true rfl) (by rw [ft_12_109]; exact wt_1372) fk_12_109g h
theorem fg_X12_69 {κ : mX} {cc : ByteArray} {dep : Nat} (C : mOk κ cc RX12 dep) {pc : Nat} {K : mK} (d : decode cc pc = .ok (.getfield 69, 3)) (h : mAt κ (pc + 3) K) : mAt κ pc (o_getP 12 27 K) := m_getP C d mc_12 (Nat.le_of_ble_eq_true rfl) (by rw [ft_12_27]; exact wt_1290) fk_12_27g h
theorem fg_X12_698 {κ : mX} {cc : ByteArray} {dep : Nat} (C : mOk κ cc RX12 dep) {pc : Nat} {K : mK} (d : decode cc pc = .ok (.getfield 698, 3)) (h : mAt κ (pc + 3) K) : mAt κ pc (o_getI 12 111 K) := m_getI C d mc_12 (Nat.le_of_ble_eq_true rfl) (by rw [ft_12_111]; exact wt_1374) fk_12_111g h
theorem fg_X12_7 {κ : mX} {cc : ByteArray} {dep : Nat} (C : mOk κ cc RX12 dep) {pc : Nat} {K : mK} (d : decode cc pc = .ok (.getfield 7, 3)) (h : mAt κ (pc + 3) K) : mAt κ pc (o_getP 12 0 K) := m_getP C d mc_12 (Nat.le_of_ble_eq_true rfl) (by rw [ft_12_0]; exact wt_1263) fk_12_0g h
theorem fg_X12_72 {κ : mX} {cc : ByteArray} {dep : Nat} (C : mOk κ cc RX12 dep) {pc : Nat} {K : mK} (d : decode cc pc = .ok (.getfield 72, 3)) (h : mAt κ (pc + 3) K) : mAt κ pc (o_getP 12 28 K) := m_getP C d mc_12 (Nat.le_of_ble_eq_true rfl) (by rw [ft_12_28]; exact wt_1291) fk_12_28g h
theorem fg_X12_75 {κ : mX} {cc : ByteArray} {dep : Nat} (C : mOk κ cc RX12 dep) {pc : Nat} {K : mK} (d : decode cc pc = .ok (.getfield 75, 3)) (h : mAt κ (pc + 3) K) : mAt κ pc (o_getP 12 29 K) := m_getP C d mc_12 (Nat.le_of_ble_eq_true rfl) (by rw [ft_12_29]; exact wt_1292) fk_12_29g h
theorem fg_X12_78 {κ : mX} {cc : ByteArray} {dep : Nat} (C : mOk κ cc RX12 dep) {pc : Nat} {K : mK} (d : decode cc pc = .ok (.getfield 78, 3)) (h : mAt κ (pc + 3) K) : mAt κ pc (o_getP 12 30 K) := m_getP C d mc_12 (Nat.le_of_ble_eq_true rfl) (by rw [ft_12_30]; exact wt_1293) fk_12_30g h
theorem fg_X12_81 {κ : mX} {cc : ByteArray} {dep : Nat} (C : mOk κ cc RX12 dep) {pc : Nat} {K : mK} (d : decode cc pc = .ok (.getfield 81, 3)) (h : mAt κ (pc + 3) K) : mAt κ pc (o_getP 12 31 K) := m_getP C d mc_12 (Nat.le_of_ble_eq_true rfl) (by rw [ft_12_31]; exact wt_1294) fk_12_31g h
theorem fg_X12_84 {κ : mX} {cc : ByteArray} {dep : Nat} (C : mOk κ cc RX12 dep) {pc : Nat} {K : mK} (d : decode cc pc = .ok (.getfield 84, 3)) (h : mAt κ (pc + 3) K) : mAt κ pc (o_getP 12 32 K) := m_getP C d mc_12 (Nat.le_of_ble_eq_true rfl) (by rw [ft_12_32]; exact wt_1295) fk_12_32g h
theorem fg_X12_87 {κ : mX} {cc : ByteArray} {dep : Nat} (C : mOk κ cc RX12 dep) {pc : Nat} {K : mK} (d : decode cc pc = .ok (.getfield 87, 3)) (h : mAt κ (pc + 3) K) : mAt κ pc (o_getP 12 33 K) := m_getP C d mc_12 (Nat.le_of_ble_eq_true rfl) (by rw [ft_12_33]; exact wt_1296) fk_12_33g h
theorem fg_X12_90 {κ : mX} {cc : ByteArray} {dep : Nat} (C : mOk κ cc RX12 dep) {pc : Nat} {K : mK} (d : decode cc pc = .ok (.getfield 90, 3)) (h : mAt κ (pc + 3) K) : mAt κ pc (o_getP 12 34 K) := m_getP C d mc_12 (Nat.le_of_ble_eq_true rfl) (by rw [ft_12_34]; exact wt_1297) fk_12_34g h
theorem fg_X12_93 {κ : mX} {cc : ByteArray} {dep : Nat} (C : mOk κ cc RX12 dep) {pc : Nat} {K : mK} (d : decode cc pc = .ok (.getfield 93, 3)) (h : mAt κ (pc + 3) K) : mAt κ pc (o_getP 12 35 K) := m_getP C d mc_12 (Nat.le_of_ble_eq_true rfl) (by rw [ft_12_35]; exact wt_1298) fk_12_35g h
theorem fg_X12_96 {κ : mX} {cc : ByteArray} {dep : Nat} (C : mOk κ cc RX12 dep) {pc : Nat} {K : mK} (d : decode cc pc = .ok (.getfield 96, 3)) (h : mAt κ (pc + 3) K) : mAt κ pc (o_getP 12 36 K) := m_getP C d mc_12 (Nat.le_of_ble_eq_true rfl) (by rw [ft_12_36]; exact wt_1299) fk_12_36g h
theorem fg_X12_99 {κ : mX} {cc : ByteArray} {dep : Nat} (C : mOk κ cc RX12 dep) {pc : Nat} {K : mK} (d : decode cc pc = .ok (.getfield 99, 3)) (h : mAt κ (pc + 3) K) : mAt κ pc (o_getP 12 37 K) := m_getP C d mc_12 (Nat.le_of_ble_eq_true rfl) (by rw [ft_12_37]; exact wt_1300) fk_12_37g h
theorem fg_X1_15 {κ : mX} {cc : ByteArray} {dep : Nat} (C : mOk κ cc RX1 dep) {pc : Nat} {K : mK} (d : decode cc pc = .ok (.getfield 15, 3)) (h : mAt κ (pc + 3) K) : mAt κ pc (o_getP 1 2 K) := m_getP C d mc_1 (Nat.le_of_ble_eq_true rfl) (by rw [ft_1_2]; exact wt_229) fk_1_2g h
theorem fg_X1_19 {κ : mX} {cc : ByteArray} {dep : Nat} (C : mOk κ cc RX1 dep) {pc : Nat} {K : mK} (d : decode cc pc = .ok (.getfield 19, 3)) (h : mAt κ (pc + 3) K) : mAt κ pc (o_getI 1 3 K) := m_getI C d mc_1 (Nat.le_of_ble_eq_true rfl) (by rw [ft_1_3]; exact wt_231) fk_1_3g h
theorem fg_X1_29 {κ : mX} {cc : ByteArray} {dep : Nat} (C : mOk κ cc RX1 dep) {pc : Nat} {K : mK} (d : decode cc pc = .ok (.getfield 29, 3)) (h : mAt κ (pc + 3) K) : mAt κ pc (o_getJ 1 6 K) := m_getJ C d mc_1 (Nat.le_of_ble_eq_true rfl) (by rw [ft_1_6]; exact wt_237) fk_1_6g h
theorem fg_X1_33 {κ : mX} {cc : ByteArray} {dep : Nat} (C : mOk κ cc RX1 dep) {pc : Nat} {K : mK} (d : decode cc pc = .ok (.getfield 33, 3)) (h : mAt κ (pc + 3) K) : mAt κ pc (o_getP 1 0 K) := m_getP C d mc_1 (Nat.le_of_ble_eq_true rfl) (by rw [ft_1_0]; exact wt_227) fk_1_0g h
theorem fg_X1_45 {κ : mX} {cc : ByteArray} {dep : Nat} (C : mOk κ cc RX1 dep) {pc : Nat} {K : mK} (d : decode cc pc = .ok (.getfield 45, 3)) (h : mAt κ (pc + 3) K) : mAt κ pc (o_getI 7 1 K) := m_getI C d mc_7 (Nat.le_of_ble_eq_true rfl) (by rw [ft_7_1]; exact wt_131) fk_7_1g h
theorem fg_X1_58 {κ : mX} {cc : ByteArray} {dep : Nat} (C : mOk κ cc RX1 dep) {pc : Nat} {K : mK} (d : decode cc pc = .ok (.getfield 58, 3)) (h : mAt κ (pc + 3) K) : mAt κ pc (o_getI 7 0 K) := m_getI C d mc_7 (Nat.le_of_ble_eq_true rfl) (by rw [ft_7_0]; exact wt_128) fk_7_0g h
theorem fg_X1_9 {κ : mX} {cc : ByteArray} {dep : Nat} (C : mOk κ cc RX1 dep) {pc : Nat} {K : mK} (d : decode cc pc = .ok (.getfield 9, 3)) (h : mAt κ (pc + 3) K) : mAt κ pc (o_getP 1 1 K) := m_getP C d mc_1 (Nat.le_of_ble_eq_true rfl) (by rw [ft_1_1]; exact wt_228) fk_1_1g h
theorem fg_X2_11 {κ : mX} {cc : ByteArray} {dep : Nat} (C : mOk κ cc RX2 dep) {pc : Nat} {K : mK} (d : decode cc pc = .ok (.getfield 11, 3)) (h : mAt κ (pc + 3) K) : mAt κ pc (o_getP 2 0 K) := m_getP C d mc_2 (Nat.le_of_ble_eq_true rfl) (by rw [ft_2_0]; exact wt_112) fk_2_0g h
theorem fg_X2_15 {κ : mX} {cc : ByteArray} {dep : Nat} (C : mOk κ cc RX2 dep) {pc : Nat} {K : mK} (d : decode cc pc = .ok (.getfield 15, 3)) (h : mAt κ (pc + 3) K) : mAt κ pc (o_getP 2 1 K) := m_getP C d mc_2 (Nat.le_of_ble_eq_true rfl) (by rw [ft_2_1]; exact wt_113) fk_2_1g h
theorem fg_X2_18 {κ : mX} {cc : ByteArray} {dep : Nat} (C : mOk κ cc RX2 dep) {pc : Nat} {K : mK} (d : decode cc pc = .ok (.getfield 18, 3)) (h : mAt κ (pc + 3) K) : mAt κ pc (o_getI 2 2 K) := m_getI C d mc_2 (Nat.le_of_ble_eq_true rfl) (by rw [ft_2_2]; exact wt_114) fk_2_2g h
theorem fg_X3_11 {κ : mX} {cc : ByteArray} {dep : Nat} (C : mOk κ cc RX3 dep) {pc : Nat} {K : mK} (d : decode cc pc = .ok (.getfield 11, 3)) (h : mAt κ (pc + 3) K) : mAt κ pc (o_getP 3 0 K) := m_getP C d mc_3 (Nat.le_of_ble_eq_true rfl) (by rw [ft_3_0]; exact wt_301) fk_3_0g h
theorem fg_X3_15 {κ : mX} {cc : ByteArray} {dep : Nat} (C : mOk κ cc RX3 dep) {pc : Nat} {K : mK} (d : decode cc pc = .ok (.getfield 15, 3)) (h : mAt κ (pc + 3) K) : mAt κ pc (o_getI 3 1 K) := m_getI C d mc_3 (Nat.le_of_ble_eq_true rfl) (by rw [ft_3_1]; exact wt_302) fk_3_1g h
theorem fg_X3_19 {κ : mX} {cc : ByteArray} {dep : Nat} (C : mOk κ cc RX3 dep) {pc : Nat} {K : mK} (d : decode cc pc = .ok (.getfield 19, 3)) (h : mAt κ (pc + 3) K) : mAt κ pc (o_getI 3 2 K) := m_getI C d mc_3 (Nat.le_of_ble_eq_true rfl) (by rw [ft_3_2]; exact wt_303) fk_3_2g h
theorem fg_X4_109 {κ : mX} {cc : ByteArray} {dep : Nat} (C : mOk κ cc RX4 dep) {pc : Nat} {K : mK} (d : decode cc pc = .ok (.getfield 109, 3)) (h : mAt κ (pc + 3) K) : mAt κ pc (o_getI 7 6 K) := m_getI C d mc_7 (Nat.le_of_ble_eq_true rfl) (by rw [ft_7_6]; exact wt_149) fk_7_6g h
theorem fg_X4_112 {κ : mX} {cc : ByteArray} {dep : Nat} (C : mOk κ cc RX4 dep) {pc : Nat} {K : mK} (d : decode cc pc = .ok (.getfield 112, 3)) (h : mAt κ (pc + 3) K) : mAt κ pc (o_getP 7 12 K) := m_getP C d mc_7 (Nat.le_of_ble_eq_true rfl) (by rw [ft_7_12]; exact wt_167) fk_7_12g h
theorem fg_X4_12 {κ : mX} {cc : ByteArray} {dep : Nat} (C : mOk κ cc RX4 dep) {pc : Nat} {K : mK} (d : decode cc pc = .ok (.getfield 12, 3)) (h : mAt κ (pc + 3) K) : mAt κ pc (o_getP 4 2 K) := m_getP C d mc_4 (Nat.le_of_ble_eq_true rfl) (by rw [ft_4_2]; exact wt_209) fk_4_2g h
theorem fg_X4_123 {κ : mX} {cc : ByteArray} {dep : Nat} (C : mOk κ cc RX4 dep) {pc : Nat} {K : mK} (d : decode cc pc = .ok (.getfield 123, 3)) (h : mAt κ (pc + 3) K) : mAt κ pc (o_getI 7 2 K) := m_getI C d mc_7 (Nat.le_of_ble_eq_true rfl) (by rw [ft_7_2]; exact wt_137) fk_7_2g h
theorem fg_X4_136 {κ : mX} {cc : ByteArray} {dep : Nat} (C : mOk κ cc RX4 dep) {pc : Nat} {K : mK} (d : decode cc pc = .ok (.getfield 136, 3)) (h : mAt κ (pc + 3) K) : mAt κ pc (o_getP 7 7 K) := m_getP C d mc_7 (Nat.le_of_ble_eq_true rfl) (by rw [ft_7_7]; exact wt_152) fk_7_7g h
theorem fg_X4_140 {κ : mX} {cc : ByteArray} {dep : Nat} (C : mOk κ cc RX4 dep) {pc : Nat} {K : mK} (d : decode cc pc = .ok (.getfield 140, 3)) (h : mAt κ (pc + 3) K) : mAt κ pc (o_getP 7 8 K) := m_getP C d mc_7 (Nat.le_of_ble_eq_true rfl) (by rw [ft_7_8]; exact wt_155) fk_7_8g h
theorem fg_X4_143 {κ : mX} {cc : ByteArray} {dep : Nat} (C : mOk κ cc RX4 dep) {pc : Nat} {K : mK} (d : decode cc pc = .ok (.getfield 143, 3)) (h : mAt κ (pc + 3) K) : mAt κ pc (o_getP 7 9 K) := m_getP C d mc_7 (Nat.le_of_ble_eq_true rfl) (by rw [ft_7_9]; exact wt_158) fk_7_9g h
theorem fg_X4_154 {κ : mX} {cc : ByteArray} {dep : Nat} (C : mOk κ cc RX4 dep) {pc : Nat} {K : mK} (d : decode cc pc = .ok (.getfield 154, 3)) (h : mAt κ (pc + 3) K) : mAt κ pc (o_getP 7 10 K) := m_getP C d mc_7 (Nat.le_of_ble_eq_true rfl) (by rw [ft_7_10]; exact wt_161) fk_7_10g h
theorem fg_X4_18 {κ : mX} {cc : ByteArray} {dep : Nat} (C : mOk κ cc RX4 dep) {pc : Nat} {K : mK} (d : decode cc pc = .ok (.getfield 18, 3)) (h : mAt κ (pc + 3) K) : mAt κ pc (o_getP 4 0 K) := m_getP C d mc_4 (Nat.le_of_ble_eq_true rfl) (by rw [ft_4_0]; exact wt_207) fk_4_0g h
theorem fg_X4_22 {κ : mX} {cc : ByteArray} {dep : Nat} (C : mOk κ cc RX4 dep) {pc : Nat} {K : mK} (d : decode cc pc = .ok (.getfield 22, 3)) (h : mAt κ (pc + 3) K) : mAt κ pc (o_getP 4 1 K) := m_getP C d mc_4 (Nat.le_of_ble_eq_true rfl) (by rw [ft_4_1]; exact wt_208) fk_4_1g h
theorem fg_X4_34 {κ : mX} {cc : ByteArray} {dep : Nat} (C : mOk κ cc RX4 dep) {pc : Nat} {K : mK} (d : decode cc pc = .ok (.getfield 34, 3)) (h : mAt κ (pc + 3) K) : mAt κ pc (o_getI 8 1 K) := m_getI C d mc_8 (Nat.le_of_ble_eq_true rfl) (by rw [ft_8_1]; exact wt_57) fk_8_1g h
theorem fg_X4_64 {κ : mX} {cc : ByteArray} {dep : Nat} (C : mOk κ cc RX4 dep) {pc : Nat} {K : mK} (d : decode cc pc = .ok (.getfield 64, 3)) (h : mAt κ (pc + 3) K) : mAt κ pc (o_getI 7 0 K) := m_getI C d mc_7 (Nat.le_of_ble_eq_true rfl) (by rw [ft_7_0]; exact wt_124) fk_7_0g h
theorem fg_X4_68 {κ : mX} {cc : ByteArray} {dep : Nat} (C : mOk κ cc RX4 dep) {pc : Nat} {K : mK} (d : decode cc pc = .ok (.getfield 68, 3)) (h : mAt κ (pc + 3) K) : mAt κ pc (o_getI 7 1 K) := m_getI C d mc_7 (Nat.le_of_ble_eq_true rfl) (by rw [ft_7_1]; exact wt_130) fk_7_1g h
theorem fg_X4_72 {κ : mX} {cc : ByteArray} {dep : Nat} (C : mOk κ cc RX4 dep) {pc : Nat} {K : mK} (d : decode cc pc = .ok (.getfield 72, 3)) (h : mAt κ (pc + 3) K) : mAt κ pc (o_getI 7 3 K) := m_getI C d mc_7 (Nat.le_of_ble_eq_true rfl) (by rw [ft_7_3]; exact wt_141) fk_7_3g h
theorem fg_X4_76 {κ : mX} {cc : ByteArray} {dep : Nat} (C : mOk κ cc RX4 dep) {pc : Nat} {K : mK} (d : decode cc pc = .ok (.getfield 76, 3)) (h : mAt κ (pc + 3) K) : mAt κ pc (o_getI 7 4 K) := m_getI C d mc_7 (Nat.le_of_ble_eq_true rfl) (by rw [ft_7_4]; exact wt_143) fk_7_4g h
theorem fg_X4_91 {κ : mX} {cc : ByteArray} {dep : Nat} (C : mOk κ cc RX4 dep) {pc : Nat} {K : mK} (d : decode cc pc = .ok (.getfield 91, 3)) (h : mAt κ (pc + 3) K) : mAt κ pc (o_getI 7 5 K) := m_getI C d mc_7 (Nat.le_of_ble_eq_true rfl) (by rw [ft_7_5]; exact wt_147) fk_7_5g h
theorem fg_X4_98 {κ : mX} {cc : ByteArray} {dep : Nat} (C : mOk κ cc RX4 dep) {pc : Nat} {K : mK} (d : decode cc pc = .ok (.getfield 98, 3)) (h : mAt κ (pc + 3) K) : mAt κ pc (o_getP 7 11 K) := m_getP C d mc_7 (Nat.le_of_ble_eq_true rfl) (by rw [ft_7_11]; exact wt_163) fk_7_11g h
theorem fg_X5_100 {κ : mX} {cc : ByteArray} {dep : Nat} (C : mOk κ cc RX5 dep) {pc : Nat} {K : mK} (d : decode cc pc = .ok (.getfield 100, 3)) (h : mAt κ (pc + 3) K) : mAt κ pc (o_getI 7 2 K) := m_getI C d mc_7 (Nat.le_of_ble_eq_true rfl) (by rw [ft_7_2]; exact wt_138) fk_7_2g h
theorem fg_X5_111 {κ : mX} {cc : ByteArray} {dep : Nat} (C : mOk κ cc RX5 dep) {pc : Nat} {K : mK} (d : decode cc pc = .ok (.getfield 111, 3)) (h : mAt κ (pc + 3) K) : mAt κ pc (o_getP 7 14 K) := m_getP C d mc_7 (Nat.le_of_ble_eq_true rfl) (by rw [ft_7_14]; exact wt_171) fk_7_14g h
theorem fg_X5_12 {κ : mX} {cc : ByteArray} {dep : Nat} (C : mOk κ cc RX5 dep) {pc : Nat} {K : mK} (d : decode cc pc = .ok (.getfield 12, 3)) (h : mAt κ (pc + 3) K) : mAt κ pc (o_getP 5 3 K) := m_getP C d mc_5 (Nat.le_of_ble_eq_true rfl) (by rw [ft_5_3]; exact wt_336) fk_5_3g h
theorem fg_X5_123 {κ : mX} {cc : ByteArray} {dep : Nat} (C : mOk κ cc RX5 dep) {pc : Nat} {K : mK} (d : decode cc pc = .ok (.getfield 123, 3)) (h : mAt κ (pc + 3) K) : mAt κ pc (o_getI 7 4 K) := m_getI C d mc_7 (Nat.le_of_ble_eq_true rfl) (by rw [ft_7_4]; exact wt_144) fk_7_4g h
theorem fg_X5_129 {κ : mX} {cc : ByteArray} {dep : Nat} (C : mOk κ cc RX5 dep) {pc : Nat} {K : mK} (d : decode cc pc = .ok (.getfield 129, 3)) (h : mAt κ (pc + 3) K) : mAt κ pc (o_getI 10 1 K) := m_getI C d mc_10 (Nat.le_of_ble_eq_true rfl) (by rw [ft_10_1]; exact wt_42) fk_10_1g h
theorem fg_X5_134 {κ : mX} {cc : ByteArray} {dep : Nat} (C : mOk κ cc RX5 dep) {pc : Nat} {K : mK} (d : decode cc pc = .ok (.getfield 134, 3)) (h : mAt κ (pc + 3) K) : mAt κ pc (o_getP 10 0 K) := m_getP C d mc_10 (Nat.le_of_ble_eq_true rfl) (by rw [ft_10_0]; exact wt_38) fk_10_0g h
theorem fg_X5_18 {κ : mX} {cc : ByteArray} {dep : Nat} (C : mOk κ cc RX5 dep) {pc : Nat} {K : mK} (d : decode cc pc = .ok (.getfield 18, 3)) (h : mAt κ (pc + 3) K) : mAt κ pc (o_getP 5 4 K) := m_getP C d mc_5 (Nat.le_of_ble_eq_true rfl) (by rw [ft_5_4]; exact wt_338) fk_5_4g h
theorem fg_X5_22 {κ : mX} {cc : ByteArray} {dep : Nat} (C : mOk κ cc RX5 dep) {pc : Nat} {K : mK} (d : decode cc pc = .ok (.getfield 22, 3)) (h : mAt κ (pc + 3) K) : mAt κ pc (o_getP 5 5 K) := m_getP C d mc_5 (Nat.le_of_ble_eq_true rfl) (by rw [ft_5_5]; exact wt_340) fk_5_5g h
theorem fg_X5_25 {κ : mX} {cc : ByteArray} {dep : Nat} (C : mOk κ cc RX5 dep) {pc : Nat} {K : mK} (d : decode cc pc = .ok (.getfield 25, 3)) (h : mAt κ (pc + 3) K) : mAt κ pc (o_getP 5 6 K) := m_getP C d mc_5 (Nat.le_of_ble_eq_true rfl) (by rw [ft_5_6]; exact wt_342) fk_5_6g h
theorem fg_X5_28 {κ : mX} {cc : ByteArray} {dep : Nat} (C : mOk κ cc RX5 dep) {pc : Nat} {K : mK} (d : decode cc pc = .ok (.getfield 28, 3)) (h : mAt κ (pc + 3) K) : mAt κ pc (o_getI 5 7 K) := m_getI C d mc_5 (Nat.le_of_ble_eq_true rfl) (by rw [ft_5_7]; exact wt_343) fk_5_7g h
theorem fg_X5_32 {κ : mX} {cc : ByteArray} {dep : Nat} (C : mOk κ cc RX5 dep) {pc : Nat} {K : mK} (d : decode cc pc = .ok (.getfield 32, 3)) (h : mAt κ (pc + 3) K) : mAt κ pc (o_getP 5 8 K) := m_getP C d mc_5 (Nat.le_of_ble_eq_true rfl) (by rw [ft_5_8]; exact wt_345) fk_5_8g h
theorem fg_X5_41 {κ : mX} {cc : ByteArray} {dep : Nat} (C : mOk κ cc RX5 dep) {pc : Nat} {K : mK} (d : decode cc pc = .ok (.getfield 41, 3)) (h : mAt κ (pc + 3) K) : mAt κ pc (o_getI 5 11 K) := m_getI C d mc_5 (Nat.le_of_ble_eq_true rfl) (by rw [ft_5_11]; exact wt_350) fk_5_11g h
theorem fg_X5_44 {κ : mX} {cc : ByteArray} {dep : Nat} (C : mOk κ cc RX5 dep) {pc : Nat} {K : mK} (d : decode cc pc = .ok (.getfield 44, 3)) (h : mAt κ (pc + 3) K) : mAt κ pc (o_getP 5 0 K) := m_getP C d mc_5 (Nat.le_of_ble_eq_true rfl) (by rw [ft_5_0]; exact wt_333) fk_5_0g h
theorem fg_X5_48 {κ : mX} {cc : ByteArray} {dep : Nat} (C : mOk κ cc RX5 dep) {pc : Nat} {K : mK} (d : decode cc pc = .ok (.getfield 48, 3)) (h : mAt κ (pc + 3) K) : mAt κ pc (o_getP 5 1 K) := m_getP C d mc_5 (Nat.le_of_ble_eq_true rfl) (by rw [ft_5_1]; exact wt_334) fk_5_1g h
theorem fg_X5_52 {κ : mX} {cc : ByteArray} {dep : Nat} (C : mOk κ cc RX5 dep) {pc : Nat} {K : mK} (d : decode cc pc = .ok (.getfield 52, 3)) (h : mAt κ (pc + 3) K) : mAt κ pc (o_getP 5 2 K) := m_getP C d mc_5 (Nat.le_of_ble_eq_true rfl) (by rw [ft_5_2]; exact wt_335) fk_5_2g h
theorem fg_X5_55 {κ : mX} {cc : ByteArray} {dep : Nat} (C : mOk κ cc RX5 dep) {pc : Nat} {K : mK} (d : decode cc pc = .ok (.getfield 55, 3)) (h : mAt κ (pc + 3) K) : mAt κ pc (o_getI 9 0 K) := m_getI C d mc_9 (Nat.le_of_ble_eq_true rfl) (by rw [ft_9_0]; exact wt_261) fk_9_0g h
theorem fg_X5_68 {κ : mX} {cc : ByteArray} {dep : Nat} (C : mOk κ cc RX5 dep) {pc : Nat} {K : mK} (d : decode cc pc = .ok (.getfield 68, 3)) (h : mAt κ (pc + 3) K) : mAt κ pc (o_getP 9 1 K) := m_getP C d mc_9 (Nat.le_of_ble_eq_true rfl) (by rw [ft_9_1]; exact wt_266) fk_9_1g h
theorem fg_X5_88 {κ : mX} {cc : ByteArray} {dep : Nat} (C : mOk κ cc RX5 dep) {pc : Nat} {K : mK} (d : decode cc pc = .ok (.getfield 88, 3)) (h : mAt κ (pc + 3) K) : mAt κ pc (o_getI 7 0 K) := m_getI C d mc_7 (Nat.le_of_ble_eq_true rfl) (by rw [ft_7_0]; exact wt_126) fk_7_0g h
theorem fg_X6_15 {κ : mX} {cc : ByteArray} {dep : Nat} (C : mOk κ cc RX6 dep) {pc : Nat} {K : mK} (d : decode cc pc = .ok (.getfield 15, 3)) (h : mAt κ (pc + 3) K) : mAt κ pc (o_getI 6 2 K) := m_getI C d mc_6 (Nat.le_of_ble_eq_true rfl) (by rw [ft_6_2]; exact wt_86) fk_6_2g h
theorem fg_X6_19 {κ : mX} {cc : ByteArray} {dep : Nat} (C : mOk κ cc RX6 dep) {pc : Nat} {K : mK} (d : decode cc pc = .ok (.getfield 19, 3)) (h : mAt κ (pc + 3) K) : mAt κ pc (o_getP 6 0 K) := m_getP C d mc_6 (Nat.le_of_ble_eq_true rfl) (by rw [ft_6_0]; exact wt_84) fk_6_0g h
theorem fg_X6_57 {κ : mX} {cc : ByteArray} {dep : Nat} (C : mOk κ cc RX6 dep) {pc : Nat} {K : mK} (d : decode cc pc = .ok (.getfield 57, 3)) (h : mAt κ (pc + 3) K) : mAt κ pc (o_getI 8 1 K) := m_getI C d mc_8 (Nat.le_of_ble_eq_true rfl) (by rw [ft_8_1]; exact wt_58) fk_8_1g h
theorem fg_X6_9 {κ : mX} {cc : ByteArray} {dep : Nat} (C : mOk κ cc RX6 dep) {pc : Nat} {K : mK} (d : decode cc pc = .ok (.getfield 9, 3)) (h : mAt κ (pc + 3) K) : mAt κ pc (o_getP 6 1 K) := m_getP C d mc_6 (Nat.le_of_ble_eq_true rfl) (by rw [ft_6_1]; exact wt_85) fk_6_1g h
theorem fg_X7_15 {κ : mX} {cc : ByteArray} {dep : Nat} (C : mOk κ cc RX7 dep) {pc : Nat} {K : mK} (d : decode cc pc = .ok (.getfield 15, 3)) (h : mAt κ (pc + 3) K) : mAt κ pc (o_getI 7 1 K) := m_getI C d mc_7 (Nat.le_of_ble_eq_true rfl) (by rw [ft_7_1]; exact wt_129) fk_7_1g h
theorem fg_X7_18 {κ : mX} {cc : ByteArray} {dep : Nat} (C : mOk κ cc RX7 dep) {pc : Nat} {K : mK} (d : decode cc pc = .ok (.getfield 18, 3)) (h : mAt κ (pc + 3) K) : mAt κ pc (o_getI 7 2 K) := m_getI C d mc_7 (Nat.le_of_ble_eq_true rfl) (by rw [ft_7_2]; exact wt_133) fk_7_2g h
theorem fg_X7_21 {κ : mX} {cc : ByteArray} {dep : Nat} (C : mOk κ cc RX7 dep) {pc : Nat} {K : mK} (d : decode cc pc = .ok (.getfield 21, 3)) (h : mAt κ (pc + 3) K) : mAt κ pc (o_getI 7 3 K) := m_getI C d mc_7 (Nat.le_of_ble_eq_true rfl) (by rw [ft_7_3]; exact wt_139) fk_7_3g h
theorem fg_X7_24 {κ : mX} {cc : ByteArray} {dep : Nat} (C : mOk κ cc RX7 dep) {pc : Nat} {K : mK} (d : decode cc pc = .ok (.getfield 24, 3)) (h : mAt κ (pc + 3) K) : mAt κ pc (o_getI 7 4 K) := m_getI C d mc_7 (Nat.le_of_ble_eq_true rfl) (by rw [ft_7_4]; exact wt_142) fk_7_4g h
theorem fg_X7_34 {κ : mX} {cc : ByteArray} {dep : Nat} (C : mOk κ cc RX7 dep) {pc : Nat} {K : mK} (d : decode cc pc = .ok (.getfield 34, 3)) (h : mAt κ (pc + 3) K) : mAt κ pc (o_getP 7 7 K) := m_getP C d mc_7 (Nat.le_of_ble_eq_true rfl) (by rw [ft_7_7]; exact wt_150) fk_7_7g h
theorem fg_X7_38 {κ : mX} {cc : ByteArray} {dep : Nat} (C : mOk κ cc RX7 dep) {pc : Nat} {K : mK} (d : decode cc pc = .ok (.getfield 38, 3)) (h : mAt κ (pc + 3) K) : mAt κ pc (o_getP 7 8 K) := m_getP C d mc_7 (Nat.le_of_ble_eq_true rfl) (by rw [ft_7_8]; exact wt_153) fk_7_8g h
theorem fg_X7_41 {κ : mX} {cc : ByteArray} {dep : Nat} (C : mOk κ cc RX7 dep) {pc : Nat} {K : mK} (d : decode cc pc = .ok (.getfield 41, 3)) (h : mAt κ (pc + 3) K) : mAt κ pc (o_getP 7 9 K) := m_getP C d mc_7 (Nat.le_of_ble_eq_true rfl) (by rw [ft_7_9]; exact wt_156) fk_7_9g h
theorem fg_X7_44 {κ : mX} {cc : ByteArray} {dep : Nat} (C : mOk κ cc RX7 dep) {pc : Nat} {K : mK} (d : decode cc pc = .ok (.getfield 44, 3)) (h : mAt κ (pc + 3) K) : mAt κ pc (o_getP 7 10 K) := m_getP C d mc_7 (Nat.le_of_ble_eq_true rfl) (by rw [ft_7_10]; exact wt_159) fk_7_10g h
theorem fg_X7_50 {κ : mX} {cc : ByteArray} {dep : Nat} (C : mOk κ cc RX7 dep) {pc : Nat} {K : mK} (d : decode cc pc = .ok (.getfield 50, 3)) (h : mAt κ (pc + 3) K) : mAt κ pc (o_getP 7 11 K) := m_getP C d mc_7 (Nat.le_of_ble_eq_true rfl) (by rw [ft_7_11]; exact wt_162) fk_7_11g h
theorem fg_X7_54 {κ : mX} {cc : ByteArray} {dep : Nat} (C : mOk κ cc RX7 dep) {pc : Nat} {K : mK} (d : decode cc pc = .ok (.getfield 54, 3)) (h : mAt κ (pc + 3) K) : mAt κ pc (o_getP 7 12 K) := m_getP C d mc_7 (Nat.le_of_ble_eq_true rfl) (by rw [ft_7_12]; exact wt_165) fk_7_12g h
theorem fg_X7_57 {κ : mX} {cc : ByteArray} {dep : Nat} (C : mOk κ cc RX7 dep) {pc : Nat} {K : mK} (d : decode cc pc = .ok (.getfield 57, 3)) (h : mAt κ (pc + 3) K) : mAt κ pc (o_getP 7 13 K) := m_getP C d mc_7 (Nat.le_of_ble_eq_true rfl) (by rw [ft_7_13]; exact wt_168) fk_7_13g h
theorem fg_X7_60 {κ : mX} {cc : ByteArray} {dep : Nat} (C : mOk κ cc RX7 dep) {pc : Nat} {K : mK} (d : decode cc pc = .ok (.getfield 60, 3)) (h : mAt κ (pc + 3) K) : mAt κ pc (o_getP 7 14 K) := m_getP C d mc_7 (Nat.le_of_ble_eq_true rfl) (by rw [ft_7_14]; exact wt_169) fk_7_14g h
theorem fg_X7_63 {κ : mX} {cc : ByteArray} {dep : Nat} (C : mOk κ cc RX7 dep) {pc : Nat} {K : mK} (d : decode cc pc = .ok (.getfield 63, 3)) (h : mAt κ (pc + 3) K) : mAt κ pc (o_getP 7 15 K) := m_getP C d mc_7 (Nat.le_of_ble_eq_true rfl) (by rw [ft_7_15]; exact wt_172) fk_7_15g h
theorem fg_X7_9 {κ : mX} {cc : ByteArray} {dep : Nat} (C : mOk κ cc RX7 dep) {pc : Nat} {K : mK} (d : decode cc pc = .ok (.getfield 9, 3)) (h : mAt κ (pc + 3) K) : mAt κ pc (o_getI 7 0 K) := m_getI C d mc_7 (Nat.le_of_ble_eq_true rfl) (by rw [ft_7_0]; exact wt_122) fk_7_0g h
theorem fg_X8_11 {κ : mX} {cc : ByteArray} {dep : Nat} (C : mOk κ cc RX8 dep) {pc : Nat} {K : mK} (d : decode cc pc = .ok (.getfield 11, 3)) (h : mAt κ (pc + 3) K) : mAt κ pc (o_getI 8 1 K) := m_getI C d mc_8 (Nat.le_of_ble_eq_true rfl) (by rw [ft_8_1]; exact wt_56) fk_8_1g h
theorem fg_X8_15 {κ : mX} {cc : ByteArray} {dep : Nat} (C : mOk κ cc RX8 dep) {pc : Nat} {K : mK} (d : decode cc pc = .ok (.getfield 15, 3)) (h : mAt κ (pc + 3) K) : mAt κ pc (o_getI 8 2 K) := m_getI C d mc_8 (Nat.le_of_ble_eq_true rfl) (by rw [ft_8_2]; exact wt_59) fk_8_2g h
theorem fg_X8_18 {κ : mX} {cc : ByteArray} {dep : Nat} (C : mOk κ cc RX8 dep) {pc : Nat} {K : mK} (d : decode cc pc = .ok (.getfield 18, 3)) (h : mAt κ (pc + 3) K) : mAt κ pc (o_getI 8 3 K) := m_getI C d mc_8 (Nat.le_of_ble_eq_true rfl) (by rw [ft_8_3]; exact wt_60) fk_8_3g h
theorem fg_X8_27 {κ : mX} {cc : ByteArray} {dep : Nat} (C : mOk κ cc RX8 dep) {pc : Nat} {K : mK} (d : decode cc pc = .ok (.getfield 27, 3)) (h : mAt κ (pc + 3) K) : mAt κ pc (o_getP 8 0 K) := m_getP C d mc_8 (Nat.le_of_ble_eq_true rfl) (by rw [ft_8_0]; exact wt_55) fk_8_0g h
theorem fg_X8_34 {κ : mX} {cc : ByteArray} {dep : Nat} (C : mOk κ cc RX8 dep) {pc : Nat} {K : mK} (d : decode cc pc = .ok (.getfield 34, 3)) (h : mAt κ (pc + 3) K) : mAt κ pc (o_getI 10 1 K) := m_getI C d mc_10 (Nat.le_of_ble_eq_true rfl) (by rw [ft_10_1]; exact wt_41) fk_10_1g h
theorem fg_X8_39 {κ : mX} {cc : ByteArray} {dep : Nat} (C : mOk κ cc RX8 dep) {pc : Nat} {K : mK} (d : decode cc pc = .ok (.getfield 39, 3)) (h : mAt κ (pc + 3) K) : mAt κ pc (o_getP 10 0 K) := m_getP C d mc_10 (Nat.le_of_ble_eq_true rfl) (by rw [ft_10_0]; exact wt_36) fk_10_0g h
theorem fg_X9_15 {κ : mX} {cc : ByteArray} {dep : Nat} (C : mOk κ cc RX9 dep) {pc : Nat} {K : mK} (d : decode cc pc = .ok (.getfield 15, 3)) (h : mAt κ (pc + 3) K) : mAt κ pc (o_getP 9 1 K) := m_getP C d mc_9 (Nat.le_of_ble_eq_true rfl) (by rw [ft_9_1]; exact wt_264) fk_9_1g h
theorem fg_X9_19 {κ : mX} {cc : ByteArray} {dep : Nat} (C : mOk κ cc RX9 dep) {pc : Nat} {K : mK} (d : decode cc pc = .ok (.getfield 19, 3)) (h : mAt κ (pc + 3) K) : mAt κ pc (o_getP 9 2 K) := m_getP C d mc_9 (Nat.le_of_ble_eq_true rfl) (by rw [ft_9_2]; exact wt_268) fk_9_2g h
theorem fg_X9_22 {κ : mX} {cc : ByteArray} {dep : Nat} (C : mOk κ cc RX9 dep) {pc : Nat} {K : mK} (d : decode cc pc = .ok (.getfield 22, 3)) (h : mAt κ (pc + 3) K) : mAt κ pc (o_getP 9 3 K) := m_getP C d mc_9 (Nat.le_of_ble_eq_true rfl) (by rw [ft_9_3]; exact wt_271) fk_9_3g h
theorem fg_X9_25 {κ : mX} {cc : ByteArray} {dep : Nat} (C : mOk κ cc RX9 dep) {pc : Nat} {K : mK} (d : decode cc pc = .ok (.getfield 25, 3)) (h : mAt κ (pc + 3) K) : mAt κ pc (o_getP 9 4 K) := m_getP C d mc_9 (Nat.le_of_ble_eq_true rfl) (by rw [ft_9_4]; exact wt_273) fk_9_4g h
theorem fg_X9_28 {κ : mX} {cc : ByteArray} {dep : Nat} (C : mOk κ cc RX9 dep) {pc : Nat} {K : mK} (d : decode cc pc = .ok (.getfield 28, 3)) (h : mAt κ (pc + 3) K) : mAt κ pc (o_getI 9 5 K) := m_getI C d mc_9 (Nat.le_of_ble_eq_true rfl) (by rw [ft_9_5]; exact wt_274) fk_9_5g h
theorem fg_X9_31 {κ : mX} {cc : ByteArray} {dep : Nat} (C : mOk κ cc RX9 dep) {pc : Nat} {K : mK} (d : decode cc pc = .ok (.getfield 31, 3)) (h : mAt κ (pc + 3) K) : mAt κ pc (o_getI 9 6 K) := m_getI C d mc_9 (Nat.le_of_ble_eq_true rfl) (by rw [ft_9_6]; exact wt_275) fk_9_6g h
theorem fg_X9_34 {κ : mX} {cc : ByteArray} {dep : Nat} (C : mOk κ cc RX9 dep) {pc : Nat} {K : mK} (d : decode cc pc = .ok (.getfield 34, 3)) (h : mAt κ (pc + 3) K) : mAt κ pc (o_getP 7 10 K) := m_getP C d mc_7 (Nat.le_of_ble_eq_true rfl) (by rw [ft_7_10]; exact wt_160) fk_7_10g h
theorem fg_X9_58 {κ : mX} {cc : ByteArray} {dep : Nat} (C : mOk κ cc RX9 dep) {pc : Nat} {K : mK} (d : decode cc pc = .ok (.getfield 58, 3)) (h : mAt κ (pc + 3) K) : mAt κ pc (o_getI 7 0 K) := m_getI C d mc_7 (Nat.le_of_ble_eq_true rfl) (by rw [ft_7_0]; exact wt_125) fk_7_0g h
theorem fg_X9_61 {κ : mX} {cc : ByteArray} {dep : Nat} (C : mOk κ cc RX9 dep) {pc : Nat} {K : mK} (d : decode cc pc = .ok (.getfield 61, 3)) (h : mAt κ (pc + 3) K) : mAt κ pc (o_getI 7 2 K) := m_getI C d mc_7 (Nat.le_of_ble_eq_true rfl) (by rw [ft_7_2]; exact wt_136) fk_7_2g h
theorem fg_X9_64 {κ : mX} {cc : ByteArray} {dep : Nat} (C : mOk κ cc RX9 dep) {pc : Nat} {K : mK} (d : decode cc pc = .ok (.getfield 64, 3)) (h : mAt κ (pc + 3) K) : mAt κ pc (o_getP 10 0 K) := m_getP C d mc_10 (Nat.le_of_ble_eq_true rfl) (by rw [ft_10_0]; exact wt_37) fk_10_0g h
theorem fg_X9_9 {κ : mX} {cc : ByteArray} {dep : Nat} (C : mOk κ cc RX9 dep) {pc : Nat} {K : mK} (d : decode cc pc = .ok (.getfield 9, 3)) (h : mAt κ (pc + 3) K) : mAt κ pc (o_getI 9 0 K) := m_getI C d mc_9 (Nat.le_of_ble_eq_true rfl) (by rw [ft_9_0]; exact wt_260) fk_9_0g h
theorem fp_X0_33 {κ : mX} {cc : ByteArray} {dep : Nat} (C : mOk κ cc RX0 dep) {pc : Nat} {K : mK} (d : decode cc pc = .ok (.putfield 33, 3)) (h : mAt κ (pc + 3) K) : mAt κ pc (o_putI 9 0 K) := m_putI C d mc_9 (Nat.le_of_ble_eq_true rfl) (by rw [ft_9_0]; exact wt_262) fk_9_0p (by rw [ft_9_0]) h
theorem fp_X10_15 {κ : mX} {cc : ByteArray} {dep : Nat} (C : mOk κ cc RX10 dep) {pc : Nat} {K : mK} (d : decode cc pc = .ok (.putfield 15, 3)) (h : mAt κ (pc + 3) K) : mAt κ pc (o_putI 10 1 K) := m_putI C d mc_10 (Nat.le_of_ble_eq_true rfl) (by rw [ft_10_1]; exact wt_39) fk_10_1p (by rw [ft_10_1]) h
theorem fp_X11_106 {κ : mX} {cc : ByteArray} {dep : Nat} (C : mOk κ cc RX11 dep) {pc : Nat} {K : mK} (d : decode cc pc = .ok (.putfield 106, 3)) (h : mAt κ (pc + 3) K) : mAt κ pc (o_putI 11 14 K) := m_putI C d mc_11 (Nat.le_of_ble_eq_true rfl) (by rw [ft_11_14]; exact wt_393) fk_11_14p (by rw [ft_11_14]) h
theorem fp_X11_110 {κ : mX} {cc : ByteArray} {dep : Nat} (C : mOk κ cc RX11 dep) {pc : Nat} {K : mK} (d : decode cc pc = .ok (.putfield 110, 3)) (h : mAt κ (pc + 3) K) : mAt κ pc (o_putI 11 15 K) := m_putI C d mc_11 (Nat.le_of_ble_eq_true rfl) (by rw [ft_11_15]; exact wt_394) fk_11_15p (by rw [ft_11_15]) h
theorem fp_X11_113 {κ : mX} {cc : ByteArray} {dep : Nat} (C : mOk κ cc RX11 dep) {pc : Nat} {K : mK} (d : decode cc pc = .ok (.putfield 113, 3)) (h : mAt κ (pc + 3) K) : mAt κ pc (o_putI 11 16 K) := m_putI C d mc_11 (Nat.le_of_ble_eq_true rfl) (by rw [ft_11_16]; exact wt_395) fk_11_16p (by rw [ft_11_16]) h
theorem fp_X11_116 {κ : mX} {cc : ByteArray} {dep : Nat} (C : mOk κ cc RX11 dep) {pc : Nat} {K : mK} (d : decode cc pc = .ok (.putfield 116, 3)) (h : mAt κ (pc + 3) K) : mAt κ pc (o_putI 11 17 K) := m_putI C d mc_11 (Nat.le_of_ble_eq_true rfl) (by rw [ft_11_17]; exact wt_396) fk_11_17p (by rw [ft_11_17]) h
theorem fp_X11_119 {κ : mX} {cc : ByteArray} {dep : Nat} (C : mOk κ cc RX11 dep) {pc : Nat} {K : mK} (d : decode cc pc = .ok (.putfield 119, 3)) (h : mAt κ (pc + 3) K) : mAt κ pc (o_putI 10 1 K) := m_putI C d mc_10 (Nat.le_of_ble_eq_true rfl) (by rw [ft_10_1]; exact wt_40) fk_10_1p (by rw [ft_10_1]) h
theorem fp_X11_175 {κ : mX} {cc : ByteArray} {dep : Nat} (C : mOk κ cc RX11 dep) {pc : Nat} {K : mK} (d : decode cc pc = .ok (.putfield 175, 3)) (h : mAt κ (pc + 3) K) : mAt κ pc (o_putI 5 7 K) := m_putI C d mc_5 (Nat.le_of_ble_eq_true rfl) (by rw [ft_5_7]; exact wt_344) fk_5_7p (by rw [ft_5_7]) h
theorem fp_X12_13 {κ : mX} {cc : ByteArray} {dep : Nat} (C : mOk κ cc RX12 dep) {pc : Nat} {K : mK} (d : decode cc pc = .ok (.putfield 13, 3)) (h : mAt κ (pc + 3) K) : mAt κ pc (o_putI 12 8 K) := m_putI C d mc_12 (Nat.le_of_ble_eq_true rfl) (by rw [ft_12_8]; exact wt_1271) fk_12_8p (by rw [ft_12_8]) h
theorem fp_X12_166 {κ : mX} {cc : ByteArray} {dep : Nat} (C : mOk κ cc RX12 dep) {pc : Nat} {K : mK} (d : decode cc pc = .ok (.putfield 166, 3)) (h : mAt κ (pc + 3) K) : mAt κ pc (o_putJ 12 75 K) := m_putJ C d mc_12 (Nat.le_of_ble_eq_true rfl) (by rw [ft_12_75]; exact wt_1338) fk_12_75p (by rw [ft_12_75]) h
theorem fp_X12_254 {κ : mX} {cc : ByteArray} {dep : Nat} (C : mOk κ cc RX12 dep) {pc : Nat} {K : mK} (d : decode cc pc = .ok (.putfield 254, 3)) (h : mAt κ (pc + 3) K) : mAt κ pc (o_putI 12 1 K) := m_putI C d mc_12 (Nat.le_of_ble_eq_true rfl) (by rw [ft_12_1]; exact wt_1264) fk_12_1p (by rw [ft_12_1]) h
theorem fp_X12_257 {κ : mX} {cc : ByteArray} {dep : Nat} (C : mOk κ cc RX12 dep) {pc : Nat} {K : mK} (d : decode cc pc = .ok (.putfield 257, 3)) (h : mAt κ (pc + 3) K) : mAt κ pc (o_putI 12 5 K) := m_putI C d mc_12 (Nat.le_of_ble_eq_true rfl) (by rw [ft_12_5]; exact wt_1268) fk_12_5p (by rw [ft_12_5]) h
theorem fp_X12_260 {κ : mX} {cc : ByteArray} {dep : Nat} (C : mOk κ cc RX12 dep) {pc : Nat} {K : mK} (d : decode cc pc = .ok (.putfield 260, 3)) (h : mAt κ (pc + 3) K) : mAt κ pc (o_putI 12 6 K) := m_putI C d mc_12 (Nat.le_of_ble_eq_true rfl) (by rw [ft_12_6]; exact wt_1269) fk_12_6p (by rw [ft_12_6]) h
theorem fp_X12_263 {κ : mX} {cc : ByteArray} {dep : Nat} (C : mOk κ cc RX12 dep) {pc : Nat} {K : mK} (d : decode cc pc = .ok (.putfield 263, 3)) (h : mAt κ (pc + 3) K) : mAt κ pc (o_putI 12 2 K) := m_putI C d mc_12 (Nat.le_of_ble_eq_true rfl) (by rw [ft_12_2]; exact wt_1265) fk_12_2p (by rw [ft_12_2]) h
theorem fp_X12_266 {κ : mX} {cc : ByteArray} {dep : Nat} (C : mOk κ cc RX12 dep) {pc : Nat} {K : mK} (d : decode cc pc = .ok (.putfield 266, 3)) (h : mAt κ (pc + 3) K) : mAt κ pc (o_putI 12 3 K) := m_putI C d mc_12 (Nat.le_of_ble_eq_true rfl) (by rw [ft_12_3]; exact wt_1266) fk_12_3p (by rw [ft_12_3]) h
theorem fp_X12_277 {κ : mX} {cc : ByteArray} {dep : Nat} (C : mOk κ cc RX12 dep) {pc : Nat} {K : mK} (d : decode cc pc = .ok (.putfield 277, 3)) (h : mAt κ (pc + 3) K) : mAt κ pc (o_putI 12 4 K) := m_putI C d mc_12 (Nat.le_of_ble_eq_true rfl) (by rw [ft_12_4]; exact wt_1267) fk_12_4p (by rw [ft_12_4]) h
theorem fp_X12_297 {κ : mX} {cc : ByteArray} {dep : Nat} (C : mOk κ cc RX12 dep) {pc : Nat} {K : mK} (d : decode cc pc = .ok (.putfield 297, 3)) (h : mAt κ (pc + 3) K) : mAt κ pc (o_putI 12 10 K) := m_putI C d mc_12 (Nat.le_of_ble_eq_true rfl) (by rw [ft_12_10]; exact wt_1273) fk_12_10p (by rw [ft_12_10]) h
theorem fp_X12_308 {κ : mX} {cc : ByteArray} {dep : Nat} (C : mOk κ cc RX12 dep) {pc : Nat} {K : mK} (d : decode cc pc = .ok (.putfield 308, 3)) (h : mAt κ (pc + 3) K) : mAt κ pc (o_putI 12 39 K) := m_putI C d mc_12 (Nat.le_of_ble_eq_true rfl) (by rw [ft_12_39]; exact wt_1302) fk_12_39p (by rw [ft_12_39]) h
theorem fp_X12_315 {κ : mX} {cc : ByteArray} {dep : Nat} (C : mOk κ cc RX12 dep) {pc : Nat} {K : mK} (d : decode cc pc = .ok (.putfield 315, 3)) (h : mAt κ (pc + 3) K) : mAt κ pc (o_putI 12 50 K) := m_putI C d mc_12 (Nat.le_of_ble_eq_true rfl) (by rw [ft_12_50]; exact wt_1313) fk_12_50p (by rw [ft_12_50]) h
theorem fp_X12_334 {κ : mX} {cc : ByteArray} {dep : Nat} (C : mOk κ cc RX12 dep) {pc : Nat} {K : mK} (d : decode cc pc = .ok (.putfield 334, 3)) (h : mAt κ (pc + 3) K) : mAt κ pc (o_putI 12 101 K) := m_putI C d mc_12 (Nat.le_of_ble_eq_true rfl) (by rw [ft_12_101]; exact wt_1364) fk_12_101p (by rw [ft_12_101]) h
theorem fp_X12_337 {κ : mX} {cc : ByteArray} {dep : Nat} (C : mOk κ cc RX12 dep) {pc : Nat} {K : mK} (d : decode cc pc = .ok (.putfield 337, 3)) (h : mAt κ (pc + 3) K) : mAt κ pc (o_putI 12 103 K) := m_putI C d mc_12 (Nat.le_of_ble_eq_true rfl) (by rw [ft_12_103]; exact wt_1366) fk_12_103p (by rw [ft_12_103]) h
theorem fp_X12_340 {κ : mX} {cc : ByteArray} {dep : Nat} (C : mOk κ cc RX12 dep) {pc : Nat} {K : mK} (d : decode cc pc = .ok (.putfield 340, 3)) (h : mAt κ (pc + 3) K) : mAt κ pc (o_putI 12 104 K) := m_putI C d mc_12 (Nat.le_of_ble_eq_true rfl) (by rw [ft_12_104]; exact wt_1367) fk_12_104p (by rw [ft_12_104]) h
theorem fp_X12_343 {κ : mX} {cc : ByteArray} {dep : Nat} (C : mOk κ cc RX12 dep) {pc : Nat} {K : mK} (d : decode cc pc = .ok (.putfield 343, 3)) (h : mAt κ (pc + 3) K) : mAt κ pc (o_putI 12 105 K) := m_putI C d mc_12 (Nat.le_of_ble_eq_true rfl) (by rw [ft_12_105]; exact wt_1368) fk_12_105p (by rw [ft_12_105]) h
theorem fp_X12_352 {κ : mX} {cc : ByteArray} {dep : Nat} (C : mOk κ cc RX12 dep) {pc : Nat} {K : mK} (d : decode cc pc = .ok (.putfield 352, 3)) (h : mAt κ (pc + 3) K) : mAt κ pc (o_putI 12 47 K) := m_putI C d mc_12 (Nat.le_of_ble_eq_true rfl) (by rw [ft_12_47]; exact wt_1310) fk_12_47p (by rw [ft_12_47]) h
theorem fp_X12_355 {κ : mX} {cc : ByteArray} {dep : Nat} (C : mOk κ cc RX12 dep) {pc : Nat} {K : mK} (d : decode cc pc = .ok (.putfield 355, 3)) (h : mAt κ (pc + 3) K) : mAt κ pc (o_putI 12 48 K) := m_putI C d mc_12 (Nat.le_of_ble_eq_true rfl) (by rw [ft_12_48]; exact wt_1311) fk_12_48p (by rw [ft_12_48]) h
theorem fp_X12_373 {κ : mX} {cc : ByteArray} {dep : Nat} (C : mOk κ cc RX12 dep) {pc : Nat} {K : mK} (d : decode cc pc = .ok (.putfield 373, 3)) (h : mAt κ (pc + 3) K) : mAt κ pc (o_putI 12 7 K) := m_putI C d mc_12 (Nat.le_of_ble_eq_true rfl) (by rw [ft_12_7]; exact wt_1270) fk_12_7p (by rw [ft_12_7]) h
theorem fp_X12_383 {κ : mX} {cc : ByteArray} {dep : Nat} (C : mOk κ cc RX12 dep) {pc : Nat} {K : mK} (d : decode cc pc = .ok (.putfield 383, 3)) (h : mAt κ (pc + 3) K) : mAt κ pc (o_putZ 12 49 K) := m_putZ C d mc_12 (Nat.le_of_ble_eq_true rfl) (by rw [ft_12_49]; exact wt_1312) fk_12_49p (by rw [ft_12_49]) h
theorem fp_X12_390 {κ : mX} {cc : ByteArray} {dep : Nat} (C : mOk κ cc RX12 dep) {pc : Nat} {K : mK} (d : decode cc pc = .ok (.putfield 390, 3)) (h : mAt κ (pc + 3) K) : mAt κ pc (o_putI 12 73 K) := m_putI C d mc_12 (Nat.le_of_ble_eq_true rfl) (by rw [ft_12_73]; exact wt_1336) fk_12_73p (by rw [ft_12_73]) h
theorem fp_X12_393 {κ : mX} {cc : ByteArray} {dep : Nat} (C : mOk κ cc RX12 dep) {pc : Nat} {K : mK} (d : decode cc pc = .ok (.putfield 393, 3)) (h : mAt κ (pc + 3) K) : mAt κ pc (o_putI 12 69 K) := m_putI C d mc_12 (Nat.le_of_ble_eq_true rfl) (by rw [ft_12_69]; exact wt_1332) fk_12_69p (by rw [ft_12_69]) h
theorem fp_X12_404 {κ : mX} {cc : ByteArray} {dep : Nat} (C : mOk κ cc RX12 dep) {pc : Nat} {K : mK} (d : decode cc pc = .ok (.putfield 404, 3)) (h : mAt κ (pc + 3) K) : mAt κ pc (o_putI 12 53 K) := m_putI C d mc_12 (Nat.le_of_ble_eq_true rfl) (by rw [ft_12_53]; exact wt_1316) fk_12_53p (by rw [ft_12_53]) h
theorem fp_X12_421 {κ : mX} {cc : ByteArray} {dep : Nat} (C : mOk κ cc RX12 dep) {pc : Nat} {K : mK} (d : decode cc pc = .ok (.putfield 421, 3)) (h : mAt κ (pc + 3) K) : mAt κ pc (o_putI 12 107 K) := m_putI C d mc_12 (Nat.le_of_ble_eq_true rfl) (by rw [ft_12_107]; exact wt_1370) fk_12_107p (by rw [ft_12_107]) h
theorem fp_X12_440 {κ : mX} {cc : ByteArray} {dep : Nat} (C : mOk κ cc RX12 dep) {pc : Nat} {K : mK} (d : decode cc pc = .ok (.putfield 440, 3)) (h : mAt κ (pc + 3) K) : mAt κ pc (o_putI 12 61 K) := m_putI C d mc_12 (Nat.le_of_ble_eq_true rfl) (by rw [ft_12_61]; exact wt_1324) fk_12_61p (by rw [ft_12_61]) h
theorem fp_X12_443 {κ : mX} {cc : ByteArray} {dep : Nat} (C : mOk κ cc RX12 dep) {pc : Nat} {K : mK} (d : decode cc pc = .ok (.putfield 443, 3)) (h : mAt κ (pc + 3) K) : mAt κ pc (o_putI 12 59 K) := m_putI C d mc_12 (Nat.le_of_ble_eq_true rfl) (by rw [ft_12_59]; exact wt_1322) fk_12_59p (by rw [ft_12_59]) h
theorem fp_X12_459 {κ : mX} {cc : ByteArray} {dep : Nat} (C : mOk κ cc RX12 dep) {pc : Nat} {K : mK} (d : decode cc pc = .ok (.putfield 459, 3)) (h : mAt κ (pc + 3) K) : mAt κ pc (o_putZ 12 64 K) := m_putZ C d mc_12 (Nat.le_of_ble_eq_true rfl) (by rw [ft_12_64]; exact wt_1327) fk_12_64p (by rw [ft_12_64]) h
theorem fp_X12_480 {κ : mX} {cc : ByteArray} {dep : Nat} (C : mOk κ cc RX12 dep) {pc : Nat} {K : mK} (d : decode cc pc = .ok (.putfield 480, 3)) (h : mAt κ (pc + 3) K) : mAt κ pc (o_putI 12 62 K) := m_putI C d mc_12 (Nat.le_of_ble_eq_true rfl) (by rw [ft_12_62]; exact wt_1325) fk_12_62p (by rw [ft_12_62]) h
theorem fp_X12_483 {κ : mX} {cc : ByteArray} {dep : Nat} (C : mOk κ cc RX12 dep) {pc : Nat} {K : mK} (d : decode cc pc = .ok (.putfield 483, 3)) (h : mAt κ (pc + 3) K) : mAt κ pc (o_putI 12 63 K) := m_putI C d mc_12 (Nat.le_of_ble_eq_true rfl) (by rw [ft_12_63]; exact wt_1326) fk_12_63p (by rw [ft_12_63]) h
theorem fp_X12_527 {κ : mX} {cc : ByteArray} {dep : Nat} (C : mOk κ cc RX12 dep) {pc : Nat} {K : mK} (d : decode cc pc = .ok (.putfield 527, 3)) (h : mAt κ (pc + 3) K) : mAt κ pc (o_putI 12 60 K) := m_putI C d mc_12 (Nat.le_of_ble_eq_true rfl) (by rw [ft_12_60]; exact wt_1323) fk_12_60p (by rw [ft_12_60]) h
theorem fp_X12_569 {κ : mX} {cc : ByteArray} {dep : Nat} (C : mOk κ cc RX12 dep) {pc : Nat} {K : mK} (d : decode cc pc = .ok (.putfield 569, 3)) (h : mAt κ (pc + 3) K) : mAt κ pc (o_putI 12 68 K) := m_putI C d mc_12 (Nat.le_of_ble_eq_true rfl) (by rw [ft_12_68]; exact wt_1331) fk_12_68p (by rw [ft_12_68]) h
theorem fp_X12_590 {κ : mX} {cc : ByteArray} {dep : Nat} (C : mOk κ cc RX12 dep) {pc : Nat} {K : mK} (d : decode cc pc = .ok (.putfield 590, 3)) (h : mAt κ (pc + 3) K) : mAt κ pc (o_putI 12 74 K) := m_putI C d mc_12 (Nat.le_of_ble_eq_true rfl) (by rw [ft_12_74]; exact wt_1337) fk_12_74p (by rw [ft_12_74]) h
theorem fp_X12_682 {κ : mX} {cc : ByteArray} {dep : Nat} (C : mOk κ cc RX12 dep) {pc : Nat} {K : mK} (d : decode cc pc = .ok (.putfield 682, 3)) (h : mAt κ (pc + 3) K) : mAt κ pc (o_putJ 12 108 K) := m_putJ C d mc_12 (Nat.le_of_ble_eq_true rfl) (by rw [ft_12_108]; exact wt_1371) fk_12_108p (by rw [ft_12_108]) h
theorem fp_X12_685 {κ : mX} {cc : ByteArray} {dep : Nat} (C : mOk κ cc RX12 dep) {pc : Nat} {K : mK} (d : decode cc pc = .ok (.putfield 685, 3)) (h : mAt κ (pc + 3) K) : mAt κ pc (o_putZ 12 109 K) := m_putZ C d mc_12 (Nat.le_of_ble_eq_true rfl) (by rw [ft_12_109]; exact wt_1372) fk_12_109p (by rw [ft_12_109]) h
theorem fp_X12_698 {κ : mX} {cc : ByteArray} {dep : Nat} (C : mOk κ cc RX12 dep) {pc : Nat} {K : mK} (d : decode cc pc = .ok (.putfield 698, 3)) (h : mAt κ (pc + 3) K) : mAt κ pc (o_putI 12 111 K) := m_putI C d mc_12 (Nat.le_of_ble_eq_true rfl) (by rw [ft_12_111]; exact wt_1374) fk_12_111p (by rw [ft_12_111]) h
theorem fp_X1_19 {κ : mX} {cc : ByteArray} {dep : Nat} (C : mOk κ cc RX1 dep) {pc : Nat} {K : mK} (d : decode cc pc = .ok (.putfield 19, 3)) (h : mAt κ (pc + 3) K) : mAt κ pc (o_putI 1 3 K) := m_putI C d mc_1 (Nat.le_of_ble_eq_true rfl) (by rw [ft_1_3]; exact wt_231) fk_1_3p (by rw [ft_1_3]) h
theorem fp_X1_23 {κ : mX} {cc : ByteArray} {dep : Nat} (C : mOk κ cc RX1 dep) {pc : Nat} {K : mK} (d : decode cc pc = .ok (.putfield 23, 3)) (h : mAt κ (pc + 3) K) : mAt κ pc (o_putI 1 4 K) := m_putI C d mc_1 (Nat.le_of_ble_eq_true rfl) (by rw [ft_1_4]; exact wt_233) fk_1_4p (by rw [ft_1_4]) h
theorem fp_X1_26 {κ : mX} {cc : ByteArray} {dep : Nat} (C : mOk κ cc RX1 dep) {pc : Nat} {K : mK} (d : decode cc pc = .ok (.putfield 26, 3)) (h : mAt κ (pc + 3) K) : mAt κ pc (o_putI 1 5 K) := m_putI C d mc_1 (Nat.le_of_ble_eq_true rfl) (by rw [ft_1_5]; exact wt_235) fk_1_5p (by rw [ft_1_5]) h
theorem fp_X1_29 {κ : mX} {cc : ByteArray} {dep : Nat} (C : mOk κ cc RX1 dep) {pc : Nat} {K : mK} (d : decode cc pc = .ok (.putfield 29, 3)) (h : mAt κ (pc + 3) K) : mAt κ pc (o_putJ 1 6 K) := m_putJ C d mc_1 (Nat.le_of_ble_eq_true rfl) (by rw [ft_1_6]; exact wt_237) fk_1_6p (by rw [ft_1_6]) h
theorem fp_X2_18 {κ : mX} {cc : ByteArray} {dep : Nat} (C : mOk κ cc RX2 dep) {pc : Nat} {K : mK} (d : decode cc pc = .ok (.putfield 18, 3)) (h : mAt κ (pc + 3) K) : mAt κ pc (o_putI 2 2 K) := m_putI C d mc_2 (Nat.le_of_ble_eq_true rfl) (by rw [ft_2_2]; exact wt_114) fk_2_2p (by rw [ft_2_2]) h
theorem fp_X3_15 {κ : mX} {cc : ByteArray} {dep : Nat} (C : mOk κ cc RX3 dep) {pc : Nat} {K : mK} (d : decode cc pc = .ok (.putfield 15, 3)) (h : mAt κ (pc + 3) K) : mAt κ pc (o_putI 3 1 K) := m_putI C d mc_3 (Nat.le_of_ble_eq_true rfl) (by rw [ft_3_1]; exact wt_302) fk_3_1p (by rw [ft_3_1]) h
theorem fp_X3_19 {κ : mX} {cc : ByteArray} {dep : Nat} (C : mOk κ cc RX3 dep) {pc : Nat} {K : mK} (d : decode cc pc = .ok (.putfield 19, 3)) (h : mAt κ (pc + 3) K) : mAt κ pc (o_putI 3 2 K) := m_putI C d mc_3 (Nat.le_of_ble_eq_true rfl) (by rw [ft_3_2]; exact wt_303) fk_3_2p (by rw [ft_3_2]) h
theorem fp_X4_109 {κ : mX} {cc : ByteArray} {dep : Nat} (C : mOk κ cc RX4 dep) {pc : Nat} {K : mK} (d : decode cc pc = .ok (.putfield 109, 3)) (h : mAt κ (pc + 3) K) : mAt κ pc (o_putZ 7 6 K) := m_putZ C d mc_7 (Nat.le_of_ble_eq_true rfl) (by rw [ft_7_6]; exact wt_149) fk_7_6p (by rw [ft_7_6]) h
theorem fp_X4_123 {κ : mX} {cc : ByteArray} {dep : Nat} (C : mOk κ cc RX4 dep) {pc : Nat} {K : mK} (d : decode cc pc = .ok (.putfield 123, 3)) (h : mAt κ (pc + 3) K) : mAt κ pc (o_putI 7 2 K) := m_putI C d mc_7 (Nat.le_of_ble_eq_true rfl) (by rw [ft_7_2]; exact wt_137) fk_7_2p (by rw [ft_7_2]) h
theorem fp_X4_64 {κ : mX} {cc : ByteArray} {dep : Nat} (C : mOk κ cc RX4 dep) {pc : Nat} {K : mK} (d : decode cc pc = .ok (.putfield 64, 3)) (h : mAt κ (pc + 3) K) : mAt κ pc (o_putI 7 0 K) := m_putI C d mc_7 (Nat.le_of_ble_eq_true rfl) (by rw [ft_7_0]; exact wt_124) fk_7_0p (by rw [ft_7_0]) h
theorem fp_X4_68 {κ : mX} {cc : ByteArray} {dep : Nat} (C : mOk κ cc RX4 dep) {pc : Nat} {K : mK} (d : decode cc pc = .ok (.putfield 68, 3)) (h : mAt κ (pc + 3) K) : mAt κ pc (o_putI 7 1 K) := m_putI C d mc_7 (Nat.le_of_ble_eq_true rfl) (by rw [ft_7_1]; exact wt_130) fk_7_1p (by rw [ft_7_1]) h
theorem fp_X4_72 {κ : mX} {cc : ByteArray} {dep : Nat} (C : mOk κ cc RX4 dep) {pc : Nat} {K : mK} (d : decode cc pc = .ok (.putfield 72, 3)) (h : mAt κ (pc + 3) K) : mAt κ pc (o_putI 7 3 K) := m_putI C d mc_7 (Nat.le_of_ble_eq_true rfl) (by rw [ft_7_3]; exact wt_141) fk_7_3p (by rw [ft_7_3]) h
theorem fp_X4_76 {κ : mX} {cc : ByteArray} {dep : Nat} (C : mOk κ cc RX4 dep) {pc : Nat} {K : mK} (d : decode cc pc = .ok (.putfield 76, 3)) (h : mAt κ (pc + 3) K) : mAt κ pc (o_putI 7 4 K) := m_putI C d mc_7 (Nat.le_of_ble_eq_true rfl) (by rw [ft_7_4]; exact wt_143) fk_7_4p (by rw [ft_7_4]) h
theorem fp_X4_91 {κ : mX} {cc : ByteArray} {dep : Nat} (C : mOk κ cc RX4 dep) {pc : Nat} {K : mK} (d : decode cc pc = .ok (.putfield 91, 3)) (h : mAt κ (pc + 3) K) : mAt κ pc (o_putZ 7 5 K) := m_putZ C d mc_7 (Nat.le_of_ble_eq_true rfl) (by rw [ft_7_5]; exact wt_147) fk_7_5p (by rw [ft_7_5]) h
theorem fp_X5_28 {κ : mX} {cc : ByteArray} {dep : Nat} (C : mOk κ cc RX5 dep) {pc : Nat} {K : mK} (d : decode cc pc = .ok (.putfield 28, 3)) (h : mAt κ (pc + 3) K) : mAt κ pc (o_putI 5 7 K) := m_putI C d mc_5 (Nat.le_of_ble_eq_true rfl) (by rw [ft_5_7]; exact wt_343) fk_5_7p (by rw [ft_5_7]) h
theorem fp_X5_35 {κ : mX} {cc : ByteArray} {dep : Nat} (C : mOk κ cc RX5 dep) {pc : Nat} {K : mK} (d : decode cc pc = .ok (.putfield 35, 3)) (h : mAt κ (pc + 3) K) : mAt κ pc (o_putI 5 9 K) := m_putI C d mc_5 (Nat.le_of_ble_eq_true rfl) (by rw [ft_5_9]; exact wt_346) fk_5_9p (by rw [ft_5_9]) h
theorem fp_X5_38 {κ : mX} {cc : ByteArray} {dep : Nat} (C : mOk κ cc RX5 dep) {pc : Nat} {K : mK} (d : decode cc pc = .ok (.putfield 38, 3)) (h : mAt κ (pc + 3) K) : mAt κ pc (o_putI 5 10 K) := m_putI C d mc_5 (Nat.le_of_ble_eq_true rfl) (by rw [ft_5_10]; exact wt_348) fk_5_10p (by rw [ft_5_10]) h
theorem fp_X5_41 {κ : mX} {cc : ByteArray} {dep : Nat} (C : mOk κ cc RX5 dep) {pc : Nat} {K : mK} (d : decode cc pc = .ok (.putfield 41, 3)) (h : mAt κ (pc + 3) K) : mAt κ pc (o_putI 5 11 K) := m_putI C d mc_5 (Nat.le_of_ble_eq_true rfl) (by rw [ft_5_11]; exact wt_350) fk_5_11p (by rw [ft_5_11]) h
theorem fp_X6_15 {κ : mX} {cc : ByteArray} {dep : Nat} (C : mOk κ cc RX6 dep) {pc : Nat} {K : mK} (d : decode cc pc = .ok (.putfield 15, 3)) (h : mAt κ (pc + 3) K) : mAt κ pc (o_putI 6 2 K) := m_putI C d mc_6 (Nat.le_of_ble_eq_true rfl) (by rw [ft_6_2]; exact wt_86) fk_6_2p (by rw [ft_6_2]) h
theorem fp_X6_9 {κ : mX} {cc : ByteArray} {dep : Nat} (C : mOk κ cc RX6 dep) {pc : Nat} {K : mK} (d : decode cc pc = .ok (.putfield 9, 3)) (h : mAt κ (pc + 3) K) : mAt κ pc (o_putP 6 1 K) := m_putP C d mc_6 (Nat.le_of_ble_eq_true rfl) (by rw [ft_6_1]; exact wt_85) fk_6_1p (by rw [ft_6_1]) h
theorem fp_X7_15 {κ : mX} {cc : ByteArray} {dep : Nat} (C : mOk κ cc RX7 dep) {pc : Nat} {K : mK} (d : decode cc pc = .ok (.putfield 15, 3)) (h : mAt κ (pc + 3) K) : mAt κ pc (o_putI 7 1 K) := m_putI C d mc_7 (Nat.le_of_ble_eq_true rfl) (by rw [ft_7_1]; exact wt_129) fk_7_1p (by rw [ft_7_1]) h
theorem fp_X7_18 {κ : mX} {cc : ByteArray} {dep : Nat} (C : mOk κ cc RX7 dep) {pc : Nat} {K : mK} (d : decode cc pc = .ok (.putfield 18, 3)) (h : mAt κ (pc + 3) K) : mAt κ pc (o_putI 7 2 K) := m_putI C d mc_7 (Nat.le_of_ble_eq_true rfl) (by rw [ft_7_2]; exact wt_133) fk_7_2p (by rw [ft_7_2]) h
theorem fp_X7_21 {κ : mX} {cc : ByteArray} {dep : Nat} (C : mOk κ cc RX7 dep) {pc : Nat} {K : mK} (d : decode cc pc = .ok (.putfield 21, 3)) (h : mAt κ (pc + 3) K) : mAt κ pc (o_putI 7 3 K) := m_putI C d mc_7 (Nat.le_of_ble_eq_true rfl) (by rw [ft_7_3]; exact wt_139) fk_7_3p (by rw [ft_7_3]) h
theorem fp_X7_24 {κ : mX} {cc : ByteArray} {dep : Nat} (C : mOk κ cc RX7 dep) {pc : Nat} {K : mK} (d : decode cc pc = .ok (.putfield 24, 3)) (h : mAt κ (pc + 3) K) : mAt κ pc (o_putI 7 4 K) := m_putI C d mc_7 (Nat.le_of_ble_eq_true rfl) (by rw [ft_7_4]; exact wt_142) fk_7_4p (by rw [ft_7_4]) h
theorem fp_X7_27 {κ : mX} {cc : ByteArray} {dep : Nat} (C : mOk κ cc RX7 dep) {pc : Nat} {K : mK} (d : decode cc pc = .ok (.putfield 27, 3)) (h : mAt κ (pc + 3) K) : mAt κ pc (o_putZ 7 5 K) := m_putZ C d mc_7 (Nat.le_of_ble_eq_true rfl) (by rw [ft_7_5]; exact wt_146) fk_7_5p (by rw [ft_7_5]) h
theorem fp_X7_31 {κ : mX} {cc : ByteArray} {dep : Nat} (C : mOk κ cc RX7 dep) {pc : Nat} {K : mK} (d : decode cc pc = .ok (.putfield 31, 3)) (h : mAt κ (pc + 3) K) : mAt κ pc (o_putZ 7 6 K) := m_putZ C d mc_7 (Nat.le_of_ble_eq_true rfl) (by rw [ft_7_6]; exact wt_148) fk_7_6p (by rw [ft_7_6]) h
theorem fp_X7_9 {κ : mX} {cc : ByteArray} {dep : Nat} (C : mOk κ cc RX7 dep) {pc : Nat} {K : mK} (d : decode cc pc = .ok (.putfield 9, 3)) (h : mAt κ (pc + 3) K) : mAt κ pc (o_putI 7 0 K) := m_putI C d mc_7 (Nat.le_of_ble_eq_true rfl) (by rw [ft_7_0]; exact wt_122) fk_7_0p (by rw [ft_7_0]) h
theorem fp_X8_11 {κ : mX} {cc : ByteArray} {dep : Nat} (C : mOk κ cc RX8 dep) {pc : Nat} {K : mK} (d : decode cc pc = .ok (.putfield 11, 3)) (h : mAt κ (pc + 3) K) : mAt κ pc (o_putI 8 1 K) := m_putI C d mc_8 (Nat.le_of_ble_eq_true rfl) (by rw [ft_8_1]; exact wt_56) fk_8_1p (by rw [ft_8_1]) h
theorem fp_X8_15 {κ : mX} {cc : ByteArray} {dep : Nat} (C : mOk κ cc RX8 dep) {pc : Nat} {K : mK} (d : decode cc pc = .ok (.putfield 15, 3)) (h : mAt κ (pc + 3) K) : mAt κ pc (o_putI 8 2 K) := m_putI C d mc_8 (Nat.le_of_ble_eq_true rfl) (by rw [ft_8_2]; exact wt_59) fk_8_2p (by rw [ft_8_2]) h
theorem fp_X8_18 {κ : mX} {cc : ByteArray} {dep : Nat} (C : mOk κ cc RX8 dep) {pc : Nat} {K : mK} (d : decode cc pc = .ok (.putfield 18, 3)) (h : mAt κ (pc + 3) K) : mAt κ pc (o_putI 8 3 K) := m_putI C d mc_8 (Nat.le_of_ble_eq_true rfl) (by rw [ft_8_3]; exact wt_60) fk_8_3p (by rw [ft_8_3]) h
theorem fp_X8_21 {κ : mX} {cc : ByteArray} {dep : Nat} (C : mOk κ cc RX8 dep) {pc : Nat} {K : mK} (d : decode cc pc = .ok (.putfield 21, 3)) (h : mAt κ (pc + 3) K) : mAt κ pc (o_putI 8 4 K) := m_putI C d mc_8 (Nat.le_of_ble_eq_true rfl) (by rw [ft_8_4]; exact wt_61) fk_8_4p (by rw [ft_8_4]) h
theorem fp_X8_24 {κ : mX} {cc : ByteArray} {dep : Nat} (C : mOk κ cc RX8 dep) {pc : Nat} {K : mK} (d : decode cc pc = .ok (.putfield 24, 3)) (h : mAt κ (pc + 3) K) : mAt κ pc (o_putI 8 5 K) := m_putI C d mc_8 (Nat.le_of_ble_eq_true rfl) (by rw [ft_8_5]; exact wt_63) fk_8_5p (by rw [ft_8_5]) h
theorem fp_X9_28 {κ : mX} {cc : ByteArray} {dep : Nat} (C : mOk κ cc RX9 dep) {pc : Nat} {K : mK} (d : decode cc pc = .ok (.putfield 28, 3)) (h : mAt κ (pc + 3) K) : mAt κ pc (o_putI 9 5 K) := m_putI C d mc_9 (Nat.le_of_ble_eq_true rfl) (by rw [ft_9_5]; exact wt_274) fk_9_5p (by rw [ft_9_5]) h
theorem fp_X9_31 {κ : mX} {cc : ByteArray} {dep : Nat} (C : mOk κ cc RX9 dep) {pc : Nat} {K : mK} (d : decode cc pc = .ok (.putfield 31, 3)) (h : mAt κ (pc + 3) K) : mAt κ pc (o_putI 9 6 K) := m_putI C d mc_9 (Nat.le_of_ble_eq_true rfl) (by rw [ft_9_6]; exact wt_275) fk_9_6p (by rw [ft_9_6]) h
theorem fp_X9_9 {κ : mX} {cc : ByteArray} {dep : Nat} (C : mOk κ cc RX9 dep) {pc : Nat} {K : mK} (d : decode cc pc = .ok (.putfield 9, 3)) (h : mAt κ (pc + 3) K) : mAt κ pc (o_putI 9 0 K) := m_putI C d mc_9 (Nat.le_of_ble_eq_true rfl) (by rw [ft_9_0]; exact wt_260) fk_9_0p (by rw [ft_9_0]) h
theorem cw_X0_21 : mCw RX0 21 yX9_inStock cX9_inStock 3 (some .int) 0 := ⟨wt_792, wt_9, wt_795, ⟨nc_9.1, nc_9.2, pd_6⟩, by decide⟩
theorem cw_X0_27 : mCw RX0 27 yX7_sizesOfWaysWithin cX7_sizesOfWaysWithin 6 (some .int) 2 := ⟨wt_796, wt_6, wt_799, ⟨nc_7.1, nc_7.2, pd_0⟩, by decide⟩
theorem cw_X0_50 : mCw RX0 50 yX2_reckon cX2_reckon 6 (some .int) 1 := ⟨wt_804, wt_7, wt_807, ⟨nc_2.1, nc_2.2, pd_5⟩, by decide⟩
theorem cw_X0_54 : mCw RX0 54 yX7_firstWayWithin cX7_firstWayWithin 5 (some .int) 2 := ⟨wt_833, wt_6, wt_836, ⟨nc_7.1, nc_7.2, pd_0⟩, by decide⟩
theorem cw_X0_60 : mCw RX0 60 yX9_addPieces cX9_addPieces 3 none 2 := ⟨wt_959, wt_9, wt_962, ⟨nc_9.1, nc_9.2, pd_7⟩, by decide⟩
theorem cw_X0_67 : mCw RX0 67 yX0_choose cX0_choose 6 (some .int) 2 := ⟨wt_964, wt_11, wt_791, ⟨nc_0.1, nc_0.2, pd_9⟩, by decide⟩
theorem cw_X0_71 : mCw RX0 71 yX9_goHungry cX9_goHungry 2 none 1 := ⟨wt_965, wt_9, wt_968, ⟨nc_9.1, nc_9.2, pd_8⟩, by decide⟩
theorem cw_X0_75 : mCw RX0 75 yX9_hand cX9_hand 4 none 2 := ⟨wt_969, wt_9, wt_972, ⟨nc_9.1, nc_9.2, pd_7⟩, by decide⟩
theorem cw_X10_19 : mCw RX10 19 yX10_checkOf cX10_checkOf 4 (some .int) 2 := ⟨wt_1243, wt_2, wt_1230, ⟨nc_10.1, nc_10.2, pd_1⟩, by decide⟩
theorem cw_X10_23 : mCw RX10 23 yX10_two cX10_two 2 (some .int) 1 := ⟨wt_1244, wt_2, wt_1247, ⟨nc_10.1, nc_10.2, pd_12⟩, by decide⟩
theorem cw_X11_122 : mCw RX11 122 yX11_refuse cX11_refuse 2 (some .int) 1 := ⟨wt_438, wt_1, wt_441, ⟨nc_11.1, nc_11.2, pd_12⟩, by decide⟩
theorem cw_X11_126 : mCw RX11 126 yX10_add cX10_add 3 none 1 := ⟨wt_442, wt_2, wt_445, ⟨nc_10.1, nc_10.2, pd_8⟩, by decide⟩
theorem cw_X11_130 : mCw RX11 130 yX4_read cX4_read 3 (some .int) 0 := ⟨wt_454, wt_5, wt_457, ⟨nc_4.1, nc_4.2, pd_6⟩, by decide⟩
theorem cw_X11_134 : mCw RX11 134 yX11_keepFault cX11_keepFault 1 none 0 := ⟨wt_699, wt_1, wt_702, ⟨nc_11.1, nc_11.2, pd_16⟩, by decide⟩
theorem cw_X11_140 : mCw RX11 140 yX7_take cX7_take 2 none 1 := ⟨wt_703, wt_6, wt_706, ⟨nc_7.1, nc_7.2, pd_32⟩, by decide⟩
theorem cw_X11_143 : mCw RX11 143 yX1_forget cX1_forget 1 none 0 := ⟨wt_715, wt_8, wt_718, ⟨nc_1.1, nc_1.2, pd_16⟩, by decide⟩
theorem cw_X11_155 : mCw RX11 155 yX1_units cX1_units 3 (some .long) 2 := ⟨wt_719, wt_8, wt_722, ⟨nc_1.1, nc_1.2, pd_27⟩, by decide⟩
theorem cw_X11_159 : mCw RX11 159 yX1_find cX1_find 3 (some .int) 1 := ⟨wt_723, wt_8, wt_726, ⟨nc_1.1, nc_1.2, pd_2⟩, by decide⟩
theorem cw_X11_167 : mCw RX11 167 yX7_tellWays cX7_tellWays 5 none 3 := ⟨wt_735, wt_6, wt_738, ⟨nc_7.1, nc_7.2, pd_31⟩, by decide⟩
theorem cw_X11_171 : mCw RX11 171 yX9_begin cX9_begin 3 none 1 := ⟨wt_739, wt_9, wt_742, ⟨nc_9.1, nc_9.2, pd_32⟩, by decide⟩
theorem cw_X11_174 : mCw RX11 174 yX3_forget cX3_forget 1 none 0 := ⟨wt_748, wt_10, wt_751, ⟨nc_3.1, nc_3.2, pd_16⟩, by decide⟩
theorem cw_X11_187 : mCw RX11 187 yX9_allPieces cX9_allPieces 1 (some .int) 0 := ⟨wt_761, wt_9, wt_764, ⟨nc_9.1, nc_9.2, pd_6⟩, by decide⟩
theorem cw_X11_190 : mCw RX11 190 yX9_hungry cX9_hungry 6 (some .int) 0 := ⟨wt_768, wt_9, wt_771, ⟨nc_9.1, nc_9.2, pd_6⟩, by decide⟩
theorem cw_X11_193 : mCw RX11 193 yX9_allTimes cX9_allTimes 1 (some .int) 0 := ⟨wt_772, wt_9, wt_775, ⟨nc_9.1, nc_9.2, pd_6⟩, by decide⟩
theorem cw_X11_200 : mCw RX11 200 yX11_isPerson cX11_isPerson 2 (some .boolean) 1 := ⟨wt_780, wt_1, wt_783, ⟨nc_11.1, nc_11.2, pd_14⟩, by decide⟩
theorem cw_X11_216 : mCw RX11 216 yX0_choose cX0_choose 6 (some .int) 2 := ⟨wt_788, wt_11, wt_791, ⟨nc_0.1, nc_0.2, pd_9⟩, by decide⟩
theorem cw_X11_220 : mCw RX11 220 yX11_setOrNone cX11_setOrNone 1 (some .int) 1 := ⟨wt_837, wt_1, wt_839, ⟨nc_11.1, nc_11.2, pd_12⟩, by decide⟩
theorem cw_X11_223 : mCw RX11 223 yX11_isSize cX11_isSize 2 (some .boolean) 1 := ⟨wt_844, wt_1, wt_847, ⟨nc_11.1, nc_11.2, pd_14⟩, by decide⟩
theorem cw_X11_229 : mCw RX11 229 yX9_keptAt cX9_keptAt 3 (some .int) 2 := ⟨wt_852, wt_9, wt_855, ⟨nc_9.1, nc_9.2, pd_0⟩, by decide⟩
theorem cw_X11_233 : mCw RX11 233 yX11_isShare cX11_isShare 3 (some .boolean) 2 := ⟨wt_860, wt_1, wt_863, ⟨nc_11.1, nc_11.2, pd_19⟩, by decide⟩
theorem cw_X11_237 : mCw RX11 237 yX11_writings cX11_writings 3 (some .int) 2 := ⟨wt_872, wt_1, wt_859, ⟨nc_11.1, nc_11.2, pd_0⟩, by decide⟩
theorem cw_X11_240 : mCw RX11 240 yX1_greedySet cX1_greedySet 8 (some .int) 1 := ⟨wt_877, wt_8, wt_880, ⟨nc_1.1, nc_1.2, pd_2⟩, by decide⟩
theorem cw_X11_243 : mCw RX11 243 yX1_shortestSet cX1_shortestSet 5 (some .int) 1 := ⟨wt_885, wt_8, wt_888, ⟨nc_1.1, nc_1.2, pd_2⟩, by decide⟩
theorem cw_X11_248 : mCw RX11 248 yX11_priceOf cX11_priceOf 6 (some .long) 1 := ⟨wt_901, wt_1, wt_904, ⟨nc_11.1, nc_11.2, pd_11⟩, by decide⟩
theorem cw_X11_252 : mCw RX11 252 yX11_isSet cX11_isSet 2 (some .boolean) 1 := ⟨wt_910, wt_1, wt_913, ⟨nc_11.1, nc_11.2, pd_14⟩, by decide⟩
theorem cw_X11_255 : mCw RX11 255 yX1_sumOf cX1_sumOf 5 (some .long) 1 := ⟨wt_914, wt_8, wt_917, ⟨nc_1.1, nc_1.2, pd_11⟩, by decide⟩
theorem cw_X11_260 : mCw RX11 260 yX1_commonDivisor cX1_commonDivisor 11 (some .long) 2 := ⟨wt_919, wt_8, wt_921, ⟨nc_1.1, nc_1.2, pd_28⟩, by decide⟩
theorem cw_X11_264 : mCw RX11 264 yX1_isWriting cX1_isWriting 4 (some .boolean) 2 := ⟨wt_930, wt_8, wt_933, ⟨nc_1.1, nc_1.2, pd_30⟩, by decide⟩
theorem cw_X11_268 : mCw RX11 268 yX1_mendings cX1_mendings 10 (some .int) 2 := ⟨wt_935, wt_8, wt_938, ⟨nc_1.1, nc_1.2, pd_29⟩, by decide⟩
theorem cw_X11_278 : mCw RX11 278 yX5_goAhead cX5_goAhead 3 (some .boolean) 1 := ⟨wt_947, wt_12, wt_950, ⟨nc_5.1, nc_5.2, pd_14⟩, by decide⟩
theorem cw_X11_284 : mCw RX11 284 yX5_firstServed cX5_firstServed 3 (some .int) 1 := ⟨wt_982, wt_12, wt_985, ⟨nc_5.1, nc_5.2, pd_12⟩, by decide⟩
theorem cw_X11_287 : mCw RX11 287 yX11_hasOffice cX11_hasOffice 1 (some .boolean) 0 := ⟨wt_864, wt_1, wt_867, ⟨nc_11.1, nc_11.2, pd_15⟩, by decide⟩
theorem cw_X11_291 : mCw RX11 291 yX5_fewestCuts cX5_fewestCuts 5 (some .int) 0 := ⟨wt_994, wt_12, wt_997, ⟨nc_5.1, nc_5.2, pd_6⟩, by decide⟩
theorem cw_X11_297 : mCw RX11 297 yX5_mostSeated cX5_mostSeated 2 (some .int) 0 := ⟨wt_1020, wt_12, wt_1023, ⟨nc_5.1, nc_5.2, pd_6⟩, by decide⟩
theorem cw_X11_303 : mCw RX11 303 yX5_oddsOf cX5_oddsOf 5 (some .int) 1 := ⟨wt_1035, wt_12, wt_1038, ⟨nc_5.1, nc_5.2, pd_12⟩, by decide⟩
theorem cw_X11_306 : mCw RX11 306 yX5_seeTape cX5_seeTape 4 (some .int) 1 := ⟨wt_1051, wt_12, wt_1054, ⟨nc_5.1, nc_5.2, pd_34⟩, by decide⟩
theorem cw_X11_310 : mCw RX11 310 yX5_possibleStocks cX5_possibleStocks 3 (some .int) 1 := ⟨wt_1060, wt_12, wt_1063, ⟨nc_5.1, nc_5.2, pd_12⟩, by decide⟩
theorem cw_X11_313 : mCw RX11 313 yX5_findTelling cX5_findTelling 9 (some .boolean) 1 := ⟨wt_1089, wt_12, wt_1092, ⟨nc_5.1, nc_5.2, pd_14⟩, by decide⟩
theorem cw_X11_325 : mCw RX11 325 yX3_keep cX3_keep 2 none 1 := ⟨wt_1102, wt_10, wt_1105, ⟨nc_3.1, nc_3.2, pd_13⟩, by decide⟩
theorem cw_X11_329 : mCw RX11 329 yX7_isWayOf cX7_isWayOf 4 (some .boolean) 2 := ⟨wt_1119, wt_6, wt_1122, ⟨nc_7.1, nc_7.2, pd_19⟩, by decide⟩
theorem cw_X11_332 : mCw RX11 332 yX9_holds cX9_holds 2 (some .boolean) 1 := ⟨wt_1123, wt_9, wt_1126, ⟨nc_9.1, nc_9.2, pd_14⟩, by decide⟩
theorem cw_X11_335 : mCw RX11 335 yX9_hand cX9_hand 4 none 2 := ⟨wt_1128, wt_9, wt_972, ⟨nc_9.1, nc_9.2, pd_7⟩, by decide⟩
theorem cw_X11_339 : mCw RX11 339 yX11_daysCanBe cX11_daysCanBe 2 (some .boolean) 1 := ⟨wt_1133, wt_1, wt_1136, ⟨nc_11.1, nc_11.2, pd_14⟩, by decide⟩
theorem cw_X11_342 : mCw RX11 342 yX0_passDay cX0_passDay 5 (some .int) 1 := ⟨wt_1137, wt_11, wt_958, ⟨nc_0.1, nc_0.2, pd_23⟩, by decide⟩
theorem cw_X11_346 : mCw RX11 346 yJ6_bitCount_0f7a4 cJ6_bitCount_0f7a4 1 (some .int) 1 := ⟨wt_1138, wt_20, wt_892, ⟨nc_20.1, nc_20.2, pd_12⟩, by decide⟩
theorem cw_X11_351 : mCw RX11 351 yX11_draw cX11_draw 2 (some .int) 1 := ⟨wt_1143, wt_1, wt_1146, ⟨nc_11.1, nc_11.2, pd_12⟩, by decide⟩
theorem cw_X11_357 : mCw RX11 357 yX9_lose cX9_lose 2 (some .boolean) 1 := ⟨wt_1150, wt_9, wt_1046, ⟨nc_9.1, nc_9.2, pd_14⟩, by decide⟩
theorem cw_X11_360 : mCw RX11 360 yX3_back cX3_back 2 (some .boolean) 1 := ⟨wt_1155, wt_10, wt_1158, ⟨nc_3.1, nc_3.2, pd_22⟩, by decide⟩
theorem cw_X11_364 : mCw RX11 364 yX6_readQuestion cX6_readQuestion 4 (some .int) 1 := ⟨wt_1167, wt_4, wt_1170, ⟨nc_6.1, nc_6.2, pd_26⟩, by decide⟩
theorem cw_X11_368 : mCw RX11 368 yX11_firstHolding cX11_firstHolding 2 (some .long) 0 := ⟨wt_1184, wt_1, wt_1187, ⟨nc_11.1, nc_11.2, pd_25⟩, by decide⟩
theorem cw_X11_372 : mCw RX11 372 yX11_lastHolding cX11_lastHolding 2 (some .long) 0 := ⟨wt_1194, wt_1, wt_1197, ⟨nc_11.1, nc_11.2, pd_25⟩, by decide⟩
theorem cw_X11_375 : mCw RX11 375 yX11_sumOfAll cX11_sumOfAll 4 (some .long) 0 := ⟨wt_1198, wt_1, wt_1201, ⟨nc_11.1, nc_11.2, pd_25⟩, by decide⟩
theorem cw_X11_378 : mCw RX11 378 yX11_greatestOfAll cX11_greatestOfAll 6 (some .long) 0 := ⟨wt_1202, wt_1, wt_1205, ⟨nc_11.1, nc_11.2, pd_25⟩, by decide⟩
theorem cw_X11_381 : mCw RX11 381 yX11_leastOfAll cX11_leastOfAll 6 (some .long) 0 := ⟨wt_1209, wt_1, wt_1212, ⟨nc_11.1, nc_11.2, pd_25⟩, by decide⟩
theorem cw_X11_384 : mCw RX11 384 yX11_addTwo cX11_addTwo 2 none 1 := ⟨wt_1220, wt_1, wt_1223, ⟨nc_11.1, nc_11.2, pd_8⟩, by decide⟩
theorem cw_X11_387 : mCw RX11 387 yX11_addByte cX11_addByte 2 none 1 := ⟨wt_1224, wt_1, wt_1227, ⟨nc_11.1, nc_11.2, pd_8⟩, by decide⟩
theorem cw_X11_390 : mCw RX11 390 yX10_checkOf cX10_checkOf 4 (some .int) 2 := ⟨wt_1228, wt_2, wt_1230, ⟨nc_10.1, nc_10.2, pd_1⟩, by decide⟩
theorem cw_X11_394 : mCw RX11 394 yX10_isImage cX10_isImage 6 (some .boolean) 2 := ⟨wt_1239, wt_2, wt_1242, ⟨nc_10.1, nc_10.2, pd_19⟩, by decide⟩
theorem cw_X11_397 : mCw RX11 397 yX9_read cX9_read 5 none 2 := ⟨wt_1248, wt_9, wt_1251, ⟨nc_9.1, nc_9.2, pd_33⟩, by decide⟩
theorem cw_X11_415 : mCw RX11 415 yX2_reckon cX2_reckon 6 (some .int) 1 := ⟨wt_905, wt_7, wt_807, ⟨nc_2.1, nc_2.2, pd_5⟩, by decide⟩
theorem cw_X11_428 : mCw RX11 428 yX11_answerOf cX11_answerOf 2 (some .int) 1 := ⟨wt_1188, wt_1, wt_1191, ⟨nc_11.1, nc_11.2, pd_12⟩, by decide⟩
theorem cw_X12_269 : mCw RX12 269 yX12_look cX12_look 1 (some .int) 0 := ⟨wt_1629, wt_13, wt_1632, ⟨nc_12.1, nc_12.2, pd_6⟩, by decide⟩
theorem cw_X12_273 : mCw RX12 273 yX12_isLetter cX12_isLetter 1 (some .boolean) 1 := ⟨wt_1633, wt_13, wt_1635, ⟨nc_12.1, nc_12.2, pd_14⟩, by decide⟩
theorem cw_X12_280 : mCw RX12 280 yX12_isHere cX12_isHere 4 (some .boolean) 1 := ⟨wt_1625, wt_13, wt_1628, ⟨nc_12.1, nc_12.2, pd_37⟩, by decide⟩
theorem cw_X12_284 : mCw RX12 284 yX12_takes cX12_takes 2 (some .boolean) 1 := ⟨wt_1621, wt_13, wt_1624, ⟨nc_12.1, nc_12.2, pd_37⟩, by decide⟩
theorem cw_X12_287 : mCw RX12 287 yX12_fail cX12_fail 3 none 2 := ⟨wt_1636, wt_13, wt_1639, ⟨nc_12.1, nc_12.2, pd_7⟩, by decide⟩
theorem cw_X12_291 : mCw RX12 291 yX12_takesSign cX12_takesSign 2 (some .boolean) 1 := ⟨wt_1654, wt_13, wt_1657, ⟨nc_12.1, nc_12.2, pd_14⟩, by decide⟩
theorem cw_X12_294 : mCw RX12 294 yX12_isDigit cX12_isDigit 1 (some .boolean) 1 := ⟨wt_1644, wt_13, wt_1646, ⟨nc_12.1, nc_12.2, pd_14⟩, by decide⟩
theorem cw_X12_300 : mCw RX12 300 yX12_isIn cX12_isIn 6 (some .boolean) 3 := ⟨wt_1647, wt_13, wt_1649, ⟨nc_12.1, nc_12.2, pd_36⟩, by decide⟩
theorem cw_X12_304 : mCw RX12 304 yX12_isOwnHere cX12_isOwnHere 2 (some .boolean) 0 := ⟨wt_1670, wt_13, wt_1673, ⟨nc_12.1, nc_12.2, pd_15⟩, by decide⟩
theorem cw_X12_318 : mCw RX12 318 yX12_asks cX12_asks 2 none 1 := ⟨wt_1617, wt_13, wt_1620, ⟨nc_12.1, nc_12.2, pd_38⟩, by decide⟩
theorem cw_X12_322 : mCw RX12 322 yX12_number cX12_number 5 (some .int) 2 := ⟨wt_1640, wt_13, wt_1643, ⟨nc_12.1, nc_12.2, pd_0⟩, by decide⟩
theorem cw_X12_326 : mCw RX12 326 yX12_asksSign cX12_asksSign 2 none 1 := ⟨wt_1650, wt_13, wt_1653, ⟨nc_12.1, nc_12.2, pd_8⟩, by decide⟩
theorem cw_X12_330 : mCw RX12 330 yX12_name cX12_name 3 (some .long) 0 := ⟨wt_1666, wt_13, wt_1669, ⟨nc_12.1, nc_12.2, pd_25⟩, by decide⟩
theorem cw_X12_346 : mCw RX12 346 yX12_qTest cX12_qTest 3 none 0 := ⟨wt_1684, wt_13, wt_1687, ⟨nc_12.1, nc_12.2, pd_16⟩, by decide⟩
theorem cw_X12_349 : mCw RX12 349 yX12_qSums cX12_qSums 3 none 0 := ⟨wt_1700, wt_13, wt_1703, ⟨nc_12.1, nc_12.2, pd_16⟩, by decide⟩
theorem cw_X12_358 : mCw RX12 358 yX12_personTold cX12_personTold 7 none 1 := ⟨wt_1662, wt_13, wt_1665, ⟨nc_12.1, nc_12.2, pd_8⟩, by decide⟩
theorem cw_X12_361 : mCw RX12 361 yX12_haveTold cX12_haveTold 3 none 0 := ⟨wt_1676, wt_13, wt_1679, ⟨nc_12.1, nc_12.2, pd_16⟩, by decide⟩
theorem cw_X12_364 : mCw RX12 364 yX12_codesTold cX12_codesTold 4 none 2 := ⟨wt_1680, wt_13, wt_1683, ⟨nc_12.1, nc_12.2, pd_7⟩, by decide⟩
theorem cw_X12_367 : mCw RX12 367 yX12_finestTold cX12_finestTold 1 none 0 := ⟨wt_1613, wt_13, wt_1616, ⟨nc_12.1, nc_12.2, pd_16⟩, by decide⟩
theorem cw_X12_370 : mCw RX12 370 yX12_statementTold cX12_statementTold 2 none 0 := ⟨wt_1658, wt_13, wt_1661, ⟨nc_12.1, nc_12.2, pd_16⟩, by decide⟩
theorem cw_X12_376 : mCw RX12 376 yX12_refuses cX12_refuses 2 (some .int) 1 := ⟨wt_1763, wt_13, wt_1766, ⟨nc_12.1, nc_12.2, pd_12⟩, by decide⟩
theorem cw_X12_380 : mCw RX12 380 yX12_stands cX12_stands 2 none 0 := ⟨wt_1767, wt_13, wt_1770, ⟨nc_12.1, nc_12.2, pd_16⟩, by decide⟩
theorem cw_X12_387 : mCw RX12 387 yX12_laysDue cX12_laysDue 3 none 1 := ⟨wt_1771, wt_13, wt_1774, ⟨nc_12.1, nc_12.2, pd_8⟩, by decide⟩
theorem cw_X12_396 : mCw RX12 396 yX12_finest cX12_finest 1 (some .int) 0 := ⟨wt_1783, wt_13, wt_1786, ⟨nc_12.1, nc_12.2, pd_6⟩, by decide⟩
theorem cw_X12_399 : mCw RX12 399 yX12_personMany cX12_personMany 1 (some .int) 0 := ⟨wt_1803, wt_13, wt_1806, ⟨nc_12.1, nc_12.2, pd_6⟩, by decide⟩
theorem cw_X12_407 : mCw RX12 407 yX12_mostParts cX12_mostParts 1 (some .int) 0 := ⟨wt_1787, wt_13, wt_1790, ⟨nc_12.1, nc_12.2, pd_6⟩, by decide⟩
theorem cw_X12_410 : mCw RX12 410 yX12_rowSet cX12_rowSet 4 (some .int) 1 := ⟨wt_1791, wt_13, wt_1794, ⟨nc_12.1, nc_12.2, pd_12⟩, by decide⟩
theorem cw_X12_413 : mCw RX12 413 yX12_partsOf cX12_partsOf 2 (some .long) 2 := ⟨wt_1775, wt_13, wt_1777, ⟨nc_12.1, nc_12.2, pd_27⟩, by decide⟩
theorem cw_X12_417 : mCw RX12 417 yX12_laysWritings cX12_laysWritings 6 none 1 := ⟨wt_1779, wt_13, wt_1782, ⟨nc_12.1, nc_12.2, pd_35⟩, by decide⟩
theorem cw_X12_424 : mCw RX12 424 yX12_qPuts cX12_qPuts 3 none 1 := ⟨wt_1863, wt_13, wt_1866, ⟨nc_12.1, nc_12.2, pd_35⟩, by decide⟩
theorem cw_X12_427 : mCw RX12 427 yX12_qPartOf cX12_qPartOf 3 (some .long) 2 := ⟨wt_1867, wt_13, wt_1870, ⟨nc_12.1, nc_12.2, pd_27⟩, by decide⟩
theorem cw_X12_430 : mCw RX12 430 yX12_qJoins cX12_qJoins 6 none 1 := ⟨wt_1871, wt_13, wt_1874, ⟨nc_12.1, nc_12.2, pd_8⟩, by decide⟩
theorem cw_X12_433 : mCw RX12 433 yX12_isOf cX12_isOf 2 (some .boolean) 2 := ⟨wt_1848, wt_13, wt_1850, ⟨nc_12.1, nc_12.2, pd_19⟩, by decide⟩
theorem cw_X12_437 : mCw RX12 437 yX12_isCoded cX12_isCoded 2 (some .boolean) 1 := ⟨wt_1855, wt_13, wt_1858, ⟨nc_12.1, nc_12.2, pd_14⟩, by decide⟩
theorem cw_X12_446 : mCw RX12 446 yX12_codesTell cX12_codesTell 4 (some .long) 1 := ⟨wt_1859, wt_13, wt_1862, ⟨nc_12.1, nc_12.2, pd_11⟩, by decide⟩
theorem cw_X12_450 : mCw RX12 450 yX12_isInStock cX12_isInStock 3 (some .boolean) 1 := ⟨wt_1844, wt_13, wt_1847, ⟨nc_12.1, nc_12.2, pd_14⟩, by decide⟩
theorem cw_X12_453 : mCw RX12 453 yX12_isLiked cX12_isLiked 4 (some .boolean) 2 := ⟨wt_1851, wt_13, wt_1854, ⟨nc_12.1, nc_12.2, pd_19⟩, by decide⟩
theorem cw_X12_456 : mCw RX12 456 yX12_writingFor cX12_writingFor 3 (some .int) 1 := ⟨wt_1840, wt_13, wt_1843, ⟨nc_12.1, nc_12.2, pd_12⟩, by decide⟩
theorem cw_X12_462 : mCw RX12 462 yX12_moves cX12_moves 4 none 2 := ⟨wt_1991, wt_13, wt_1994, ⟨nc_12.1, nc_12.2, pd_7⟩, by decide⟩
theorem cw_X12_465 : mCw RX12 465 yX12_timesOf cX12_timesOf 2 (some .int) 1 := ⟨wt_1832, wt_13, wt_1835, ⟨nc_12.1, nc_12.2, pd_12⟩, by decide⟩
theorem cw_X12_468 : mCw RX12 468 yX12_lessOf cX12_lessOf 2 (some .int) 2 := ⟨wt_1980, wt_13, wt_1982, ⟨nc_12.1, nc_12.2, pd_0⟩, by decide⟩
theorem cw_X12_471 : mCw RX12 471 yX12_isKept cX12_isKept 4 none 2 := ⟨wt_1995, wt_13, wt_1998, ⟨nc_12.1, nc_12.2, pd_7⟩, by decide⟩
theorem cw_X12_474 : mCw RX12 474 yX12_hungerOf cX12_hungerOf 2 (some .int) 1 := ⟨wt_1815, wt_13, wt_1818, ⟨nc_12.1, nc_12.2, pd_12⟩, by decide⟩
theorem cw_X12_477 : mCw RX12 477 yX12_hands cX12_hands 3 none 2 := ⟨wt_1987, wt_13, wt_1990, ⟨nc_12.1, nc_12.2, pd_7⟩, by decide⟩
theorem cw_X12_486 : mCw RX12 486 yX12_comesBy cX12_comesBy 3 none 1 := ⟨wt_1983, wt_13, wt_1986, ⟨nc_12.1, nc_12.2, pd_8⟩, by decide⟩
theorem cw_X12_489 : mCw RX12 489 yX12_dayGoes cX12_dayGoes 2 none 0 := ⟨wt_1976, wt_13, wt_1979, ⟨nc_12.1, nc_12.2, pd_16⟩, by decide⟩
theorem cw_X12_492 : mCw RX12 492 yX12_triesAnew cX12_triesAnew 2 none 0 := ⟨wt_2003, wt_13, wt_2006, ⟨nc_12.1, nc_12.2, pd_16⟩, by decide⟩
theorem cw_X12_495 : mCw RX12 495 yX12_sumOf cX12_sumOf 6 (some .int) 3 := ⟨wt_1807, wt_13, wt_1810, ⟨nc_12.1, nc_12.2, pd_3⟩, by decide⟩
theorem cw_X12_499 : mCw RX12 499 yX12_hungryMany cX12_hungryMany 3 (some .int) 0 := ⟨wt_1811, wt_13, wt_1814, ⟨nc_12.1, nc_12.2, pd_6⟩, by decide⟩
theorem cw_X12_502 : mCw RX12 502 yX12_isPerson cX12_isPerson 2 (some .boolean) 1 := ⟨wt_1823, wt_13, wt_1826, ⟨nc_12.1, nc_12.2, pd_14⟩, by decide⟩
theorem cw_X12_507 : mCw RX12 507 yX12_takenBy cX12_takenBy 3 (some .int) 1 := ⟨wt_1836, wt_13, wt_1839, ⟨nc_12.1, nc_12.2, pd_12⟩, by decide⟩
theorem cw_X12_510 : mCw RX12 510 yX12_isSize cX12_isSize 3 (some .boolean) 1 := ⟨wt_1887, wt_13, wt_1890, ⟨nc_12.1, nc_12.2, pd_39⟩, by decide⟩
theorem cw_X12_518 : mCw RX12 518 yX12_isShare cX12_isShare 3 (some .boolean) 2 := ⟨wt_1900, wt_13, wt_1903, ⟨nc_12.1, nc_12.2, pd_19⟩, by decide⟩
theorem cw_X12_521 : mCw RX12 521 yX12_bits cX12_bits 3 (some .int) 1 := ⟨wt_1913, wt_13, wt_1915, ⟨nc_12.1, nc_12.2, pd_12⟩, by decide⟩
theorem cw_X12_524 : mCw RX12 524 yX12_shortestFound cX12_shortestFound 3 (some .int) 0 := ⟨wt_1920, wt_13, wt_1923, ⟨nc_12.1, nc_12.2, pd_6⟩, by decide⟩
theorem cw_X12_532 : mCw RX12 532 yX12_costOf cX12_costOf 5 (some .long) 1 := ⟨wt_1929, wt_13, wt_1932, ⟨nc_12.1, nc_12.2, pd_11⟩, by decide⟩
theorem cw_X12_535 : mCw RX12 535 yX12_isSet cX12_isSet 2 (some .boolean) 1 := ⟨wt_1937, wt_13, wt_1940, ⟨nc_12.1, nc_12.2, pd_14⟩, by decide⟩
theorem cw_X12_538 : mCw RX12 538 yX12_madeBy cX12_madeBy 5 (some .long) 1 := ⟨wt_1941, wt_13, wt_1944, ⟨nc_12.1, nc_12.2, pd_11⟩, by decide⟩
theorem cw_X12_541 : mCw RX12 541 yX12_common cX12_common 10 (some .long) 2 := ⟨wt_1945, wt_13, wt_1947, ⟨nc_12.1, nc_12.2, pd_28⟩, by decide⟩
theorem cw_X12_545 : mCw RX12 545 yX12_isAhead cX12_isAhead 4 (some .boolean) 3 := ⟨wt_1964, wt_13, wt_1967, ⟨nc_12.1, nc_12.2, pd_43⟩, by decide⟩
theorem cw_X12_549 : mCw RX12 549 yX12_putsAside cX12_putsAside 2 none 0 := ⟨wt_1968, wt_13, wt_1971, ⟨nc_12.1, nc_12.2, pd_16⟩, by decide⟩
theorem cw_X12_552 : mCw RX12 552 yX12_daysGo cX12_daysGo 3 none 1 := ⟨wt_1972, wt_13, wt_1975, ⟨nc_12.1, nc_12.2, pd_8⟩, by decide⟩
theorem cw_X12_555 : mCw RX12 555 yX12_takesBack cX12_takesBack 1 none 0 := ⟨wt_1999, wt_13, wt_2002, ⟨nc_12.1, nc_12.2, pd_16⟩, by decide⟩
theorem cw_X12_558 : mCw RX12 558 yX12_isEnough cX12_isEnough 3 (some .boolean) 1 := ⟨wt_2024, wt_13, wt_2027, ⟨nc_12.1, nc_12.2, pd_14⟩, by decide⟩
theorem cw_X12_561 : mCw RX12 561 yX12_goesOn cX12_goesOn 4 (some .boolean) 1 := ⟨wt_2028, wt_13, wt_2031, ⟨nc_12.1, nc_12.2, pd_14⟩, by decide⟩
theorem cw_X12_566 : mCw RX12 566 yX12_isFoundBy cX12_isFoundBy 3 (some .boolean) 1 := ⟨wt_2020, wt_13, wt_2023, ⟨nc_12.1, nc_12.2, pd_14⟩, by decide⟩
theorem cw_X12_572 : mCw RX12 572 yX12_choiceBehind cX12_choiceBehind 4 (some .int) 2 := ⟨wt_2040, wt_13, wt_2043, ⟨nc_12.1, nc_12.2, pd_0⟩, by decide⟩
theorem cw_X12_575 : mCw RX12 575 yX12_laysFeast cX12_laysFeast 4 none 0 := ⟨wt_2036, wt_13, wt_2039, ⟨nc_12.1, nc_12.2, pd_16⟩, by decide⟩
theorem cw_X12_578 : mCw RX12 578 yX12_isGone cX12_isGone 2 (some .boolean) 1 := ⟨wt_2048, wt_13, wt_2051, ⟨nc_12.1, nc_12.2, pd_14⟩, by decide⟩
theorem cw_X12_581 : mCw RX12 581 yX12_isAsSeen cX12_isAsSeen 3 (some .boolean) 1 := ⟨wt_2064, wt_13, wt_2067, ⟨nc_12.1, nc_12.2, pd_14⟩, by decide⟩
theorem cw_X12_584 : mCw RX12 584 yX12_stockSet cX12_stockSet 6 (some .int) 1 := ⟨wt_2060, wt_13, wt_2063, ⟨nc_12.1, nc_12.2, pd_12⟩, by decide⟩
theorem cw_X12_587 : mCw RX12 587 yX12_mostAlike cX12_mostAlike 6 (some .int) 3 := ⟨wt_2072, wt_13, wt_2075, ⟨nc_12.1, nc_12.2, pd_3⟩, by decide⟩
theorem cw_X12_593 : mCw RX12 593 yX12_keeps cX12_keeps 2 none 0 := ⟨wt_2084, wt_13, wt_2087, ⟨nc_12.1, nc_12.2, pd_16⟩, by decide⟩
theorem cw_X12_596 : mCw RX12 596 yX12_isWriting cX12_isWriting 4 (some .boolean) 2 := ⟨wt_2096, wt_13, wt_2099, ⟨nc_12.1, nc_12.2, pd_19⟩, by decide⟩
theorem cw_X12_599 : mCw RX12 599 yX12_isRefused cX12_isRefused 2 (some .boolean) 1 := ⟨wt_2100, wt_13, wt_2103, ⟨nc_12.1, nc_12.2, pd_14⟩, by decide⟩
theorem cw_X12_610 : mCw RX12 610 yX12_drawOf cX12_drawOf 2 (some .int) 1 := ⟨wt_2116, wt_13, wt_2119, ⟨nc_12.1, nc_12.2, pd_12⟩, by decide⟩
theorem cw_X12_613 : mCw RX12 613 yX12_qCode cX12_qCode 2 none 1 := ⟨wt_1696, wt_13, wt_1699, ⟨nc_12.1, nc_12.2, pd_8⟩, by decide⟩
theorem cw_X12_616 : mCw RX12 616 yX12_qIsBracket cX12_qIsBracket 1 (some .boolean) 1 := ⟨wt_1740, wt_13, wt_1742, ⟨nc_12.1, nc_12.2, pd_14⟩, by decide⟩
theorem cw_X12_619 : mCw RX12 619 yX12_qDrops cX12_qDrops 1 none 0 := ⟨wt_1728, wt_13, wt_1731, ⟨nc_12.1, nc_12.2, pd_16⟩, by decide⟩
theorem cw_X12_622 : mCw RX12 622 yX12_qWordHere cX12_qWordHere 1 (some .int) 0 := ⟨wt_1712, wt_13, wt_1715, ⟨nc_12.1, nc_12.2, pd_6⟩, by decide⟩
theorem cw_X12_625 : mCw RX12 625 yX12_isAllowed cX12_isAllowed 2 (some .boolean) 1 := ⟨wt_1716, wt_13, wt_1719, ⟨nc_12.1, nc_12.2, pd_14⟩, by decide⟩
theorem cw_X12_628 : mCw RX12 628 yX12_qWordOf cX12_qWordOf 4 (some .int) 2 := ⟨wt_1708, wt_13, wt_1711, ⟨nc_12.1, nc_12.2, pd_0⟩, by decide⟩
theorem cw_X12_631 : mCw RX12 631 yX12_qOpens cX12_qOpens 3 none 2 := ⟨wt_1688, wt_13, wt_1691, ⟨nc_12.1, nc_12.2, pd_7⟩, by decide⟩
theorem cw_X12_634 : mCw RX12 634 yX12_qAsksWord cX12_qAsksWord 2 none 1 := ⟨wt_1720, wt_13, wt_1723, ⟨nc_12.1, nc_12.2, pd_8⟩, by decide⟩
theorem cw_X12_637 : mCw RX12 637 yX12_qEndsPart cX12_qEndsPart 1 none 0 := ⟨wt_1724, wt_13, wt_1727, ⟨nc_12.1, nc_12.2, pd_16⟩, by decide⟩
theorem cw_X12_640 : mCw RX12 640 yX12_qBracket cX12_qBracket 2 (some .int) 0 := ⟨wt_1736, wt_13, wt_1739, ⟨nc_12.1, nc_12.2, pd_6⟩, by decide⟩
theorem cw_X12_643 : mCw RX12 643 yX12_qDropsToBracket cX12_qDropsToBracket 1 none 0 := ⟨wt_1743, wt_13, wt_1746, ⟨nc_12.1, nc_12.2, pd_16⟩, by decide⟩
theorem cw_X12_646 : mCw RX12 646 yX12_qIsOn cX12_qIsOn 2 (some .boolean) 1 := ⟨wt_1747, wt_13, wt_1750, ⟨nc_12.1, nc_12.2, pd_14⟩, by decide⟩
theorem cw_X12_649 : mCw RX12 649 yX12_qPartTold cX12_qPartTold 6 none 0 := ⟨wt_1704, wt_13, wt_1707, ⟨nc_12.1, nc_12.2, pd_16⟩, by decide⟩
theorem cw_X12_652 : mCw RX12 652 yX12_qGoesOn cX12_qGoesOn 2 (some .boolean) 0 := ⟨wt_1732, wt_13, wt_1735, ⟨nc_12.1, nc_12.2, pd_15⟩, by decide⟩
theorem cw_X12_655 : mCw RX12 655 yX12_qFact cX12_qFact 2 none 0 := ⟨wt_1692, wt_13, wt_1695, ⟨nc_12.1, nc_12.2, pd_16⟩, by decide⟩
theorem cw_X12_658 : mCw RX12 658 yX12_qDropsNots cX12_qDropsNots 1 none 0 := ⟨wt_1751, wt_13, wt_1754, ⟨nc_12.1, nc_12.2, pd_16⟩, by decide⟩
theorem cw_X12_661 : mCw RX12 661 yX12_qGoesOnTest cX12_qGoesOnTest 1 (some .boolean) 0 := ⟨wt_1755, wt_13, wt_1758, ⟨nc_12.1, nc_12.2, pd_15⟩, by decide⟩
theorem cw_X12_664 : mCw RX12 664 yX12_qHasSquare cX12_qHasSquare 2 (some .boolean) 0 := ⟨wt_1759, wt_13, wt_1762, ⟨nc_12.1, nc_12.2, pd_15⟩, by decide⟩
theorem cw_X12_671 : mCw RX12 671 yX12_qClip cX12_qClip 2 (some .long) 1 := ⟨wt_1875, wt_13, wt_1877, ⟨nc_12.1, nc_12.2, pd_40⟩, by decide⟩
theorem cw_X12_675 : mCw RX12 675 yX12_qFloor cX12_qFloor 6 (some .long) 2 := ⟨wt_1880, wt_13, wt_1882, ⟨nc_12.1, nc_12.2, pd_28⟩, by decide⟩
theorem cw_X12_678 : mCw RX12 678 yX12_qOf cX12_qOf 5 (some .long) 3 := ⟨wt_2136, wt_13, wt_2139, ⟨nc_12.1, nc_12.2, pd_41⟩, by decide⟩
theorem cw_X12_688 : mCw RX12 688 yX12_qKind cX12_qKind 2 (some .int) 0 := ⟨wt_2128, wt_13, wt_2131, ⟨nc_12.1, nc_12.2, pd_6⟩, by decide⟩
theorem cw_X12_691 : mCw RX12 691 yX12_qTold cX12_qTold 4 (some .long) 1 := ⟨wt_2132, wt_13, wt_2135, ⟨nc_12.1, nc_12.2, pd_11⟩, by decide⟩
theorem cw_X12_694 : mCw RX12 694 yX12_qTakes cX12_qTakes 6 none 3 := ⟨wt_2140, wt_13, wt_2143, ⟨nc_12.1, nc_12.2, pd_42⟩, by decide⟩
theorem cw_X12_701 : mCw RX12 701 yX12_writes cX12_writes 2 none 1 := ⟨wt_2160, wt_13, wt_2163, ⟨nc_12.1, nc_12.2, pd_8⟩, by decide⟩
theorem cw_X12_704 : mCw RX12 704 yX12_writesTwo cX12_writesTwo 2 none 1 := ⟨wt_2156, wt_13, wt_2159, ⟨nc_12.1, nc_12.2, pd_8⟩, by decide⟩
theorem cw_X12_707 : mCw RX12 707 yX12_checked cX12_checked 4 (some .int) 2 := ⟨wt_2164, wt_13, wt_2166, ⟨nc_12.1, nc_12.2, pd_1⟩, by decide⟩
theorem cw_X12_711 : mCw RX12 711 yX12_twoAt cX12_twoAt 2 (some .int) 1 := ⟨wt_2175, wt_13, wt_2178, ⟨nc_12.1, nc_12.2, pd_12⟩, by decide⟩
theorem cw_X12_714 : mCw RX12 714 yX12_isImage cX12_isImage 4 (some .boolean) 1 := ⟨wt_2171, wt_13, wt_2174, ⟨nc_12.1, nc_12.2, pd_14⟩, by decide⟩
theorem cw_X1_39 : mCw RX1 39 yJ6_bitCount_0f7a4 cJ6_bitCount_0f7a4 1 (some .int) 1 := ⟨wt_890, wt_20, wt_892, ⟨nc_20.1, nc_20.2, pd_12⟩, by decide⟩
theorem cw_X1_50 : mCw RX1 50 yX1_sumOf cX1_sumOf 5 (some .long) 1 := ⟨wt_934, wt_8, wt_917, ⟨nc_1.1, nc_1.2, pd_11⟩, by decide⟩
theorem cw_X1_54 : mCw RX1 54 yX1_search cX1_search 8 none 4 := ⟨wt_727, wt_8, wt_730, ⟨nc_1.1, nc_1.2, pd_10⟩, by decide⟩
theorem cw_X1_61 : mCw RX1 61 yX1_keepSet cX1_keepSet 2 none 1 := ⟨wt_731, wt_8, wt_734, ⟨nc_1.1, nc_1.2, pd_8⟩, by decide⟩
theorem cw_X1_65 : mCw RX1 65 yX1_find cX1_find 3 (some .int) 1 := ⟨wt_889, wt_8, wt_726, ⟨nc_1.1, nc_1.2, pd_2⟩, by decide⟩
theorem cw_X2_28 : mCw RX2 28 yX2_factAt cX2_factAt 2 (some .int) 2 := ⟨wt_808, wt_7, wt_810, ⟨nc_2.1, nc_2.2, pd_1⟩, by decide⟩
theorem cw_X2_32 : mCw RX2 32 yX2_turn cX2_turn 3 (some .int) 3 := ⟨wt_811, wt_7, wt_813, ⟨nc_2.1, nc_2.2, pd_4⟩, by decide⟩
theorem cw_X2_36 : mCw RX2 36 yX2_join cX2_join 3 (some .int) 3 := ⟨wt_814, wt_7, wt_816, ⟨nc_2.1, nc_2.2, pd_3⟩, by decide⟩
theorem cw_X2_40 : mCw RX2 40 yX2_hold cX2_hold 2 (some .int) 1 := ⟨wt_817, wt_7, wt_819, ⟨nc_2.1, nc_2.2, pd_2⟩, by decide⟩
theorem cw_X2_44 : mCw RX2 44 yJ9_floorDiv_7cf53 cJ9_floorDiv_7cf53 3 (some .int) 2 := ⟨wt_824, wt_19, wt_826, ⟨nc_21.1, nc_21.2, pd_0⟩, by decide⟩
theorem cw_X3_23 : mCw RX3 23 yX9_takeAll cX9_takeAll 2 none 1 := ⟨wt_1106, wt_9, wt_1109, ⟨nc_9.1, nc_9.2, pd_13⟩, by decide⟩
theorem cw_X4_103 : mCw RX4 103 yX6_readSum cX6_readSum 3 (some .boolean) 2 := ⟨wt_605, wt_4, wt_608, ⟨nc_6.1, nc_6.2, pd_20⟩, by decide⟩
theorem cw_X4_114 : mCw RX4 114 yX6_readTest cX6_readTest 3 (some .boolean) 2 := ⟨wt_674, wt_4, wt_677, ⟨nc_6.1, nc_6.2, pd_20⟩, by decide⟩
theorem cw_X4_117 : mCw RX4 117 yX8_advance cX8_advance 6 none 0 := ⟨wt_543, wt_3, wt_477, ⟨nc_8.1, nc_8.2, pd_16⟩, by decide⟩
theorem cw_X4_120 : mCw RX4 120 yX8_takeNumber cX8_takeNumber 4 (some .int) 2 := ⟨wt_544, wt_3, wt_547, ⟨nc_8.1, nc_8.2, pd_0⟩, by decide⟩
theorem cw_X4_126 : mCw RX4 126 yX8_seeName cX8_seeName 3 (some .int) 0 := ⟨wt_569, wt_3, wt_572, ⟨nc_8.1, nc_8.2, pd_6⟩, by decide⟩
theorem cw_X4_129 : mCw RX4 129 yX7_hasName cX7_hasName 3 (some .boolean) 1 := ⟨wt_582, wt_6, wt_585, ⟨nc_7.1, nc_7.2, pd_14⟩, by decide⟩
theorem cw_X4_148 : mCw RX4 148 yX8_takeWord cX8_takeWord 2 (some .boolean) 1 := ⟨wt_594, wt_3, wt_597, ⟨nc_8.1, nc_8.2, pd_17⟩, by decide⟩
theorem cw_X4_151 : mCw RX4 151 yX8_seeNumber cX8_seeNumber 3 (some .int) 0 := ⟨wt_599, wt_3, wt_551, ⟨nc_8.1, nc_8.2, pd_6⟩, by decide⟩
theorem cw_X4_26 : mCw RX4 26 yX7_clear cX7_clear 2 none 0 := ⟨wt_458, wt_6, wt_461, ⟨nc_7.1, nc_7.2, pd_16⟩, by decide⟩
theorem cw_X4_29 : mCw RX4 29 yX8_begin cX8_begin 1 none 0 := ⟨wt_470, wt_3, wt_473, ⟨nc_8.1, nc_8.2, pd_16⟩, by decide⟩
theorem cw_X4_38 : mCw RX4 38 yX8_fail cX8_fail 2 (some .boolean) 1 := ⟨wt_478, wt_3, wt_481, ⟨nc_8.1, nc_8.2, pd_14⟩, by decide⟩
theorem cw_X4_42 : mCw RX4 42 yX4_statement cX4_statement 3 (some .boolean) 1 := ⟨wt_482, wt_5, wt_485, ⟨nc_4.1, nc_4.2, pd_21⟩, by decide⟩
theorem cw_X4_46 : mCw RX4 46 yX8_takeSign cX8_takeSign 2 (some .boolean) 1 := ⟨wt_698, wt_3, wt_641, ⟨nc_8.1, nc_8.2, pd_18⟩, by decide⟩
theorem cw_X4_52 : mCw RX4 52 yX8_isWord cX8_isWord 3 (some .boolean) 1 := ⟨wt_487, wt_3, wt_490, ⟨nc_8.1, nc_8.2, pd_17⟩, by decide⟩
theorem cw_X4_56 : mCw RX4 56 yX4_numberBehind cX4_numberBehind 3 (some .int) 2 := ⟨wt_539, wt_5, wt_542, ⟨nc_4.1, nc_4.2, pd_0⟩, by decide⟩
theorem cw_X4_60 : mCw RX4 60 yX4_failed cX4_failed 1 (some .int) 0 := ⟨wt_557, wt_5, wt_560, ⟨nc_4.1, nc_4.2, pd_6⟩, by decide⟩
theorem cw_X4_80 : mCw RX4 80 yX4_addPerson cX4_addPerson 5 (some .boolean) 0 := ⟨wt_565, wt_5, wt_568, ⟨nc_4.1, nc_4.2, pd_15⟩, by decide⟩
theorem cw_X4_86 : mCw RX4 86 yX4_addPieces cX4_addPieces 3 (some .boolean) 0 := ⟨wt_589, wt_5, wt_592, ⟨nc_4.1, nc_4.2, pd_15⟩, by decide⟩
theorem cw_X4_95 : mCw RX4 95 yX4_beginsOnce cX4_beginsOnce 2 (some .boolean) 1 := ⟨wt_601, wt_5, wt_604, ⟨nc_4.1, nc_4.2, pd_21⟩, by decide⟩
theorem cw_X5_103 : mCw RX5 103 yX5_seat cX5_seat 7 (some .boolean) 2 := ⟨wt_1024, wt_12, wt_1027, ⟨nc_5.1, nc_5.2, pd_19⟩, by decide⟩
theorem cw_X5_107 : mCw RX5 107 yX9_inStock cX9_inStock 3 (some .int) 0 := ⟨wt_1028, wt_9, wt_795, ⟨nc_9.1, nc_9.2, pd_6⟩, by decide⟩
theorem cw_X5_114 : mCw RX5 114 yX7_wayOf cX7_wayOf 3 (some .int) 2 := ⟨wt_1029, wt_6, wt_803, ⟨nc_7.1, nc_7.2, pd_0⟩, by decide⟩
theorem cw_X5_117 : mCw RX5 117 yX9_move cX9_move 4 none 2 := ⟨wt_1030, wt_9, wt_976, ⟨nc_9.1, nc_9.2, pd_7⟩, by decide⟩
theorem cw_X5_120 : mCw RX5 120 yX5_servedWithout cX5_servedWithout 3 (some .int) 2 := ⟨wt_1039, wt_12, wt_1042, ⟨nc_5.1, nc_5.2, pd_0⟩, by decide⟩
theorem cw_X5_126 : mCw RX5 126 yX9_lose cX9_lose 2 (some .boolean) 1 := ⟨wt_1043, wt_9, wt_1046, ⟨nc_9.1, nc_9.2, pd_14⟩, by decide⟩
theorem cw_X5_146 : mCw RX5 146 yX5_lastSeenDay cX5_lastSeenDay 3 (some .int) 0 := ⟨wt_1064, wt_12, wt_1067, ⟨nc_5.1, nc_5.2, pd_6⟩, by decide⟩
theorem cw_X5_149 : mCw RX5 149 yX5_comingDays cX5_comingDays 1 (some .int) 0 := ⟨wt_1069, wt_12, wt_1072, ⟨nc_5.1, nc_5.2, pd_6⟩, by decide⟩
theorem cw_X5_152 : mCw RX5 152 yX5_watch cX5_watch 5 none 2 := ⟨wt_1073, wt_12, wt_1076, ⟨nc_5.1, nc_5.2, pd_7⟩, by decide⟩
theorem cw_X5_155 : mCw RX5 155 yX5_stocksAsSeen cX5_stocksAsSeen 3 (some .int) 0 := ⟨wt_1077, wt_12, wt_1080, ⟨nc_5.1, nc_5.2, pd_6⟩, by decide⟩
theorem cw_X5_158 : mCw RX5 158 yX5_isAsSeen cX5_isAsSeen 4 (some .boolean) 1 := ⟨wt_1081, wt_12, wt_1084, ⟨nc_5.1, nc_5.2, pd_14⟩, by decide⟩
theorem cw_X5_161 : mCw RX5 161 yJ6_bitCount_0f7a4 cJ6_bitCount_0f7a4 1 (some .int) 1 := ⟨wt_1093, wt_20, wt_892, ⟨nc_20.1, nc_20.2, pd_12⟩, by decide⟩
theorem cw_X5_167 : mCw RX5 167 yX5_servedBy cX5_servedBy 6 (some .int) 3 := ⟨wt_1094, wt_12, wt_1097, ⟨nc_5.1, nc_5.2, pd_3⟩, by decide⟩
theorem cw_X5_58 : mCw RX5 58 yX9_takeCourse cX9_takeCourse 2 none 1 := ⟨wt_951, wt_9, wt_954, ⟨nc_9.1, nc_9.2, pd_13⟩, by decide⟩
theorem cw_X5_62 : mCw RX5 62 yX0_passDay cX0_passDay 5 (some .int) 1 := ⟨wt_955, wt_11, wt_958, ⟨nc_0.1, nc_0.2, pd_23⟩, by decide⟩
theorem cw_X5_77 : mCw RX5 77 yX5_fillCutRow cX5_fillCutRow 4 none 2 := ⟨wt_999, wt_12, wt_1002, ⟨nc_5.1, nc_5.2, pd_7⟩, by decide⟩
theorem cw_X5_81 : mCw RX5 81 yX5_cutsServe cX5_cutsServe 3 (some .boolean) 1 := ⟨wt_1003, wt_12, wt_1006, ⟨nc_5.1, nc_5.2, pd_14⟩, by decide⟩
theorem cw_X5_85 : mCw RX5 85 yX5_nextCutRow cX5_nextCutRow 3 (some .boolean) 1 := ⟨wt_1012, wt_12, wt_1015, ⟨nc_5.1, nc_5.2, pd_14⟩, by decide⟩
theorem cw_X5_93 : mCw RX5 93 yX9_addPieces cX9_addPieces 3 none 2 := ⟨wt_1007, wt_9, wt_962, ⟨nc_9.1, nc_9.2, pd_7⟩, by decide⟩
theorem cw_X5_96 : mCw RX5 96 yX0_servesAll cX0_servesAll 4 (some .boolean) 1 := ⟨wt_1008, wt_11, wt_1011, ⟨nc_0.1, nc_0.2, pd_22⟩, by decide⟩
theorem cw_X6_102 : mCw RX6 102 yX8_takeSign cX8_takeSign 2 (some .boolean) 1 := ⟨wt_638, wt_3, wt_641, ⟨nc_8.1, nc_8.2, pd_18⟩, by decide⟩
theorem cw_X6_107 : mCw RX6 107 yX6_putWith cX6_putWith 3 (some .boolean) 2 := ⟨wt_624, wt_4, wt_627, ⟨nc_6.1, nc_6.2, pd_19⟩, by decide⟩
theorem cw_X6_111 : mCw RX6 111 yX6_comparisonHere cX6_comparisonHere 1 (some .int) 0 := ⟨wt_692, wt_4, wt_695, ⟨nc_6.1, nc_6.2, pd_6⟩, by decide⟩
theorem cw_X6_114 : mCw RX6 114 yX6_product cX6_product 4 (some .boolean) 1 := ⟨wt_614, wt_4, wt_617, ⟨nc_6.1, nc_6.2, pd_14⟩, by decide⟩
theorem cw_X6_117 : mCw RX6 117 yX6_part cX6_part 3 (some .boolean) 1 := ⟨wt_618, wt_4, wt_621, ⟨nc_6.1, nc_6.2, pd_14⟩, by decide⟩
theorem cw_X6_120 : mCw RX6 120 yX8_seeNumber cX8_seeNumber 3 (some .int) 0 := ⟨wt_622, wt_3, wt_551, ⟨nc_8.1, nc_8.2, pd_6⟩, by decide⟩
theorem cw_X6_125 : mCw RX6 125 yX6_pair cX6_pair 3 (some .boolean) 2 := ⟨wt_645, wt_4, wt_648, ⟨nc_6.1, nc_6.2, pd_19⟩, by decide⟩
theorem cw_X6_134 : mCw RX6 134 yX6_factOfPerson cX6_factOfPerson 1 (some .int) 0 := ⟨wt_656, wt_4, wt_659, ⟨nc_6.1, nc_6.2, pd_6⟩, by decide⟩
theorem cw_X6_137 : mCw RX6 137 yX6_factOfPart cX6_factOfPart 1 (some .int) 0 := ⟨wt_667, wt_4, wt_670, ⟨nc_6.1, nc_6.2, pd_6⟩, by decide⟩
theorem cw_X6_23 : mCw RX6 23 yX2_clear cX2_clear 1 none 0 := ⟨wt_609, wt_7, wt_465, ⟨nc_2.1, nc_2.2, pd_16⟩, by decide⟩
theorem cw_X6_28 : mCw RX6 28 yX6_sum cX6_sum 4 (some .boolean) 1 := ⟨wt_610, wt_4, wt_613, ⟨nc_6.1, nc_6.2, pd_14⟩, by decide⟩
theorem cw_X6_32 : mCw RX6 32 yX6_test cX6_test 3 (some .boolean) 1 := ⟨wt_678, wt_4, wt_681, ⟨nc_6.1, nc_6.2, pd_14⟩, by decide⟩
theorem cw_X6_35 : mCw RX6 35 yX8_begin cX8_begin 1 none 0 := ⟨wt_1171, wt_3, wt_473, ⟨nc_8.1, nc_8.2, pd_16⟩, by decide⟩
theorem cw_X6_40 : mCw RX6 40 yX6_questionHere cX6_questionHere 1 (some .int) 0 := ⟨wt_1172, wt_4, wt_1175, ⟨nc_6.1, nc_6.2, pd_6⟩, by decide⟩
theorem cw_X6_44 : mCw RX6 44 yX8_fail cX8_fail 2 (some .boolean) 1 := ⟨wt_637, wt_3, wt_481, ⟨nc_8.1, nc_8.2, pd_14⟩, by decide⟩
theorem cw_X6_47 : mCw RX6 47 yX8_advance cX8_advance 6 none 0 := ⟨wt_623, wt_3, wt_477, ⟨nc_8.1, nc_8.2, pd_16⟩, by decide⟩
theorem cw_X6_50 : mCw RX6 50 yX6_readTest cX6_readTest 3 (some .boolean) 2 := ⟨wt_1182, wt_4, wt_677, ⟨nc_6.1, nc_6.2, pd_20⟩, by decide⟩
theorem cw_X6_54 : mCw RX6 54 yX6_readSum cX6_readSum 3 (some .boolean) 2 := ⟨wt_1183, wt_4, wt_608, ⟨nc_6.1, nc_6.2, pd_20⟩, by decide⟩
theorem cw_X6_62 : mCw RX6 62 yX8_isWord cX8_isWord 3 (some .boolean) 1 := ⟨wt_644, wt_3, wt_490, ⟨nc_8.1, nc_8.2, pd_17⟩, by decide⟩
theorem cw_X6_76 : mCw RX6 76 yX2_add cX2_add 3 none 2 := ⟨wt_628, wt_7, wt_469, ⟨nc_2.1, nc_2.2, pd_7⟩, by decide⟩
theorem cw_X6_80 : mCw RX6 80 yX6_both cX6_both 3 (some .boolean) 1 := ⟨wt_682, wt_4, wt_685, ⟨nc_6.1, nc_6.2, pd_14⟩, by decide⟩
theorem cw_X6_85 : mCw RX6 85 yX6_put cX6_put 2 (some .boolean) 1 := ⟨wt_649, wt_4, wt_652, ⟨nc_6.1, nc_6.2, pd_14⟩, by decide⟩
theorem cw_X6_88 : mCw RX6 88 yX6_fact cX6_fact 3 (some .boolean) 1 := ⟨wt_686, wt_4, wt_689, ⟨nc_6.1, nc_6.2, pd_14⟩, by decide⟩
theorem cw_X6_95 : mCw RX6 95 yX6_opens cX6_opens 2 (some .boolean) 1 := ⟨wt_633, wt_4, wt_636, ⟨nc_6.1, nc_6.2, pd_14⟩, by decide⟩
theorem cw_X6_98 : mCw RX6 98 yX8_isSign cX8_isSign 2 (some .boolean) 1 := ⟨wt_629, wt_3, wt_632, ⟨nc_8.1, nc_8.2, pd_18⟩, by decide⟩
theorem cw_X7_66 : mCw RX7 66 yX2_clear cX2_clear 1 none 0 := ⟨wt_462, wt_7, wt_465, ⟨nc_2.1, nc_2.2, pd_16⟩, by decide⟩
theorem cw_X7_69 : mCw RX7 69 yX2_add cX2_add 3 none 2 := ⟨wt_466, wt_7, wt_469, ⟨nc_2.1, nc_2.2, pd_7⟩, by decide⟩
theorem cw_X7_79 : mCw RX7 79 yX2_take cX2_take 2 none 1 := ⟨wt_710, wt_7, wt_713, ⟨nc_2.1, nc_2.2, pd_24⟩, by decide⟩
theorem cw_X7_83 : mCw RX7 83 yX7_wayOf cX7_wayOf 3 (some .int) 2 := ⟨wt_800, wt_6, wt_803, ⟨nc_7.1, nc_7.2, pd_0⟩, by decide⟩
theorem cw_X8_31 : mCw RX8 31 yX8_advance cX8_advance 6 none 0 := ⟨wt_474, wt_3, wt_477, ⟨nc_8.1, nc_8.2, pd_16⟩, by decide⟩
theorem cw_X8_55 : mCw RX8 55 yX8_isOwnWordFrom cX8_isOwnWordFrom 3 (some .boolean) 1 := ⟨wt_578, wt_3, wt_581, ⟨nc_8.1, nc_8.2, pd_14⟩, by decide⟩
theorem cw_X8_59 : mCw RX8 59 yX8_isSign cX8_isSign 2 (some .boolean) 1 := ⟨wt_642, wt_3, wt_632, ⟨nc_8.1, nc_8.2, pd_18⟩, by decide⟩
theorem cw_X8_63 : mCw RX8 63 yX8_fail cX8_fail 2 (some .boolean) 1 := ⟨wt_552, wt_3, wt_481, ⟨nc_8.1, nc_8.2, pd_14⟩, by decide⟩
theorem cw_X8_66 : mCw RX8 66 yX8_isWord cX8_isWord 3 (some .boolean) 1 := ⟨wt_598, wt_3, wt_490, ⟨nc_8.1, nc_8.2, pd_17⟩, by decide⟩
theorem cw_X8_70 : mCw RX8 70 yX8_failAt cX8_failAt 3 none 2 := ⟨wt_553, wt_3, wt_556, ⟨nc_8.1, nc_8.2, pd_7⟩, by decide⟩
theorem cw_X8_74 : mCw RX8 74 yX8_seeNumber cX8_seeNumber 3 (some .int) 0 := ⟨wt_548, wt_3, wt_551, ⟨nc_8.1, nc_8.2, pd_6⟩, by decide⟩
theorem cw_X8_77 : mCw RX8 77 yX8_isOwnWord cX8_isOwnWord 3 (some .boolean) 0 := ⟨wt_573, wt_3, wt_576, ⟨nc_8.1, nc_8.2, pd_15⟩, by decide⟩
theorem cw_X9_45 : mCw RX9 45 yX9_forgetKept cX9_forgetKept 1 none 0 := ⟨wt_744, wt_9, wt_747, ⟨nc_9.1, nc_9.2, pd_16⟩, by decide⟩
theorem cw_X9_48 : mCw RX9 48 yX9_takeCourse cX9_takeCourse 2 none 1 := ⟨wt_1110, wt_9, wt_954, ⟨nc_9.1, nc_9.2, pd_13⟩, by decide⟩
theorem cw_X9_52 : mCw RX9 52 yX10_two cX10_two 2 (some .int) 1 := ⟨wt_1252, wt_2, wt_1247, ⟨nc_10.1, nc_10.2, pd_12⟩, by decide⟩
theorem cw_X9_67 : mCw RX9 67 yX9_sumOfRow cX9_sumOfRow 6 (some .int) 1 := ⟨wt_765, wt_9, wt_767, ⟨nc_9.1, nc_9.2, pd_5⟩, by decide⟩
theorem cw_X9_71 : mCw RX9 71 yX9_inStock cX9_inStock 3 (some .int) 0 := ⟨wt_1127, wt_9, wt_795, ⟨nc_9.1, nc_9.2, pd_6⟩, by decide⟩
theorem cw_X9_81 : mCw RX9 81 yX9_move cX9_move 4 none 2 := ⟨wt_973, wt_9, wt_976, ⟨nc_9.1, nc_9.2, pd_7⟩, by decide⟩
