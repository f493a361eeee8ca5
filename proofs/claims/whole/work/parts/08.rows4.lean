theorem xk_X12_isSet : xokQ 12 (RX12, yX12_isSet, cX12_isSet, 2, (some .boolean), xt_X12_isSet) = true := by decide +kernel
theorem xk_X12_has : xokQ 12 (RX12, yX12_has, cX12_has, 2, (some .boolean), xt_X12_has) = true := by decide +kernel
theorem xk_X12_of : xokQ 12 (RX12, yX12_of, cX12_of, 3, (some .int), xt_X12_of) = true := by decide +kernel
theorem xk_X12_partner : xokQ 12 (RX12, yX12_partner, cX12_partner, 2, (some .int), xt_X12_partner) = true := by decide +kernel
theorem xk_X12_withPartner : xokQ 12 (RX12, yX12_withPartner, cX12_withPartner, 2, (some .int), xt_X12_withPartner) = true := by decide +kernel
theorem xk_X12_toMake : xokQ 12 (RX12, yX12_toMake, cX12_toMake, 2, (some .int), xt_X12_toMake) = true := by decide +kernel
theorem xk_X12_workOf : xokQ 12 (RX12, yX12_workOf, cX12_workOf, 2, (some .int), xt_X12_workOf) = true := by decide +kernel
theorem xk_X12_onceOf : xokQ 12 (RX12, yX12_onceOf, cX12_onceOf, 4, (some .int), xt_X12_onceOf) = true := by decide +kernel
theorem xk_X12_layerOf : xokQ 12 (RX12, yX12_layerOf, cX12_layerOf, 6, (some .int), xt_X12_layerOf) = true := by decide +kernel
theorem xk_X12_told : xokQ 12 (RX12, yX12_told, cX12_told, 2, (some .int), xt_X12_told) = true := by decide +kernel
theorem xk_X12_dish : xokQ 12 (RX12, yX12_dish, cX12_dish, 3, (some .int), xt_X12_dish) = true := by decide +kernel
theorem xk_X12_pot : xokQ 12 (RX12, yX12_pot, cX12_pot, 2, (some .int), xt_X12_pot) = true := by decide +kernel
theorem xk_X12_counts : xokQ 12 (RX12, yX12_counts, cX12_counts, 5, none, xt_X12_counts) = true := by decide +kernel
theorem xk_X12_fitsIn : xokQ 12 (RX12, yX12_fitsIn, cX12_fitsIn, 5, (some .boolean), xt_X12_fitsIn) = true := by decide +kernel
theorem xk_X12_laysFits : xokQ 12 (RX12, yX12_laysFits, cX12_laysFits, 4, none, xt_X12_laysFits) = true := by decide +kernel
theorem xk_X12_fits : xokQ 12 (RX12, yX12_fits, cX12_fits, 2, (some .int), xt_X12_fits) = true := by decide +kernel
theorem xk_X12_neededFor : xokQ 12 (RX12, yX12_neededFor, cX12_neededFor, 5, (some .int), xt_X12_neededFor) = true := by decide +kernel
theorem xk_X12_needed : xokQ 12 (RX12, yX12_needed, cX12_needed, 2, (some .int), xt_X12_needed) = true := by decide +kernel
theorem xk_X12_makes : xokQ 12 (RX12, yX12_makes, cX12_makes, 5, (some .int), xt_X12_makes) = true := by decide +kernel
theorem xk_X12_pours : xokQ 12 (RX12, yX12_pours, cX12_pours, 7, (some .int), xt_X12_pours) = true := by decide +kernel
theorem xk_X12_ages : xokQ 12 (RX12, yX12_ages, cX12_ages, 4, (some .int), xt_X12_ages) = true := by decide +kernel
theorem xk_X12_stands : xokQ 12 (RX12, yX12_stands, cX12_stands, 4, none, xt_X12_stands) = true := by decide +kernel
theorem xk_X12_doneBy : xokQ 12 (RX12, yX12_doneBy, cX12_doneBy, 3, (some .int), xt_X12_doneBy) = true := by decide +kernel
theorem xk_X12_makesNow : xokQ 12 (RX12, yX12_makesNow, cX12_makesNow, 3, (some .boolean), xt_X12_makesNow) = true := by decide +kernel
theorem xk_X12_poursNow : xokQ 12 (RX12, yX12_poursNow, cX12_poursNow, 4, (some .boolean), xt_X12_poursNow) = true := by decide +kernel
theorem xk_X12_washesNow : xokQ 12 (RX12, yX12_washesNow, cX12_washesNow, 2, (some .boolean), xt_X12_washesNow) = true := by decide +kernel
theorem xk_X12_trustsNow : xokQ 12 (RX12, yX12_trustsNow, cX12_trustsNow, 2, (some .boolean), xt_X12_trustsNow) = true := by decide +kernel
theorem xk_X12_showsNow : xokQ 12 (RX12, yX12_showsNow, cX12_showsNow, 2, (some .boolean), xt_X12_showsNow) = true := by decide +kernel
theorem xk_X12_make : xokQ 12 (RX12, yX12_make, cX12_make, 3, (some .int), xt_X12_make) = true := by decide +kernel
theorem xk_X12_pourOver : xokQ 12 (RX12, yX12_pourOver, cX12_pourOver, 4, (some .int), xt_X12_pourOver) = true := by decide +kernel
theorem xk_X12_wash : xokQ 12 (RX12, yX12_wash, cX12_wash, 3, (some .int), xt_X12_wash) = true := by decide +kernel
theorem xk_X12_trust : xokQ 12 (RX12, yX12_trust, cX12_trust, 3, (some .int), xt_X12_trust) = true := by decide +kernel
theorem xk_X12_show : xokQ 12 (RX12, yX12_show, cX12_show, 3, (some .int), xt_X12_show) = true := by decide +kernel
theorem xk_X12_keeps : xokQ 12 (RX12, yX12_keeps, cX12_keeps, 2, (some .int), xt_X12_keeps) = true := by decide +kernel
theorem xk_X12_empty : xokQ 12 (RX12, yX12_empty, cX12_empty, 2, (some .boolean), xt_X12_empty) = true := by decide +kernel
theorem xk_X12_reckons : xokQ 12 (RX12, yX12_reckons, cX12_reckons, 5, none, xt_X12_reckons) = true := by decide +kernel
theorem xk_X12_takesLess : xokQ 12 (RX12, yX12_takesLess, cX12_takesLess, 4, (some .boolean), xt_X12_takesLess) = true := by decide +kernel
theorem xk_X12_betters : xokQ 12 (RX12, yX12_betters, cX12_betters, 6, (some .boolean), xt_X12_betters) = true := by decide +kernel
theorem xk_X12_leastWork : xokQ 12 (RX12, yX12_leastWork, cX12_leastWork, 2, (some .int), xt_X12_leastWork) = true := by decide +kernel
theorem xk_X12_orNone : xokQ 12 (RX12, yX12_orNone, cX12_orNone, 2, (some .int), xt_X12_orNone) = true := by decide +kernel
theorem xk_X12_work : xokQ 12 (RX12, yX12_work, cX12_work, 2, (some .int), xt_X12_work) = true := by decide +kernel
theorem xk_X12_steps : xokQ 12 (RX12, yX12_steps, cX12_steps, 2, (some .int), xt_X12_steps) = true := by decide +kernel
theorem xk_X12_isOnWay : xokQ 12 (RX12, yX12_isOnWay, cX12_isOnWay, 4, (some .boolean), xt_X12_isOnWay) = true := by decide +kernel
theorem xk_X12_walks : xokQ 12 (RX12, yX12_walks, cX12_walks, 6, (some .int), xt_X12_walks) = true := by decide +kernel
theorem xk_X12_first : xokQ 12 (RX12, yX12_first, cX12_first, 3, (some .int), xt_X12_first) = true := by decide +kernel
theorem xk_X12_firstAt : xokQ 12 (RX12, yX12_firstAt, cX12_firstAt, 3, (some .int), xt_X12_firstAt) = true := by decide +kernel
theorem xk_X12_comes : xokQ 12 (RX12, yX12_comes, cX12_comes, 2, none, xt_X12_comes) = true := by decide +kernel
theorem xk_X12_canCome : xokQ 12 (RX12, yX12_canCome, cX12_canCome, 6, (some .boolean), xt_X12_canCome) = true := by decide +kernel
theorem xk_X12_fewest : xokQ 12 (RX12, yX12_fewest, cX12_fewest, 3, (some .int), xt_X12_fewest) = true := by decide +kernel
theorem xk_X12_curve : xokQ 12 (RX12, yX12_curve, cX12_curve, 3, (some .int), xt_X12_curve) = true := by decide +kernel
theorem xk_X12_stateOf : xokQ 12 (RX12, yX12_stateOf, cX12_stateOf, 5, (some .int), xt_X12_stateOf) = true := by decide +kernel
theorem xk_X12_ofState : xokQ 12 (RX12, yX12_ofState, cX12_ofState, 6, (some .int), xt_X12_ofState) = true := by decide +kernel
theorem xk_X12_trustsOn : xokQ 12 (RX12, yX12_trustsOn, cX12_trustsOn, 12, none, xt_X12_trustsOn) = true := by decide +kernel
theorem xk_X12_canTrust : xokQ 12 (RX12, yX12_canTrust, cX12_canTrust, 6, (some .boolean), xt_X12_canTrust) = true := by decide +kernel
theorem xk_X12_trustful : xokQ 12 (RX12, yX12_trustful, cX12_trustful, 4, (some .int), xt_X12_trustful) = true := by decide +kernel
theorem xk_X12_needsOf : xokQ 12 (RX12, yX12_needsOf, cX12_needsOf, 2, (some .int), xt_X12_needsOf) = true := by decide +kernel
theorem xk_X12_bound : xokQ 12 (RX12, yX12_bound, cX12_bound, 5, (some .int), xt_X12_bound) = true := by decide +kernel
theorem xk_X12_ruleOf : xokQ 12 (RX12, yX12_ruleOf, cX12_ruleOf, 5, (some .int), xt_X12_ruleOf) = true := by decide +kernel
theorem xk_X12_treeRule : xokQ 12 (RX12, yX12_treeRule, cX12_treeRule, 6, (some .int), xt_X12_treeRule) = true := by decide +kernel
theorem xk_X12_doesRounds : xokQ 12 (RX12, yX12_doesRounds, cX12_doesRounds, 9, (some .boolean), xt_X12_doesRounds) = true := by decide +kernel
theorem xk_X12_rounds : xokQ 12 (RX12, yX12_rounds, cX12_rounds, 7, (some .int), xt_X12_rounds) = true := by decide +kernel
theorem xk_X12_spared : xokQ 12 (RX12, yX12_spared, cX12_spared, 4, (some .int), xt_X12_spared) = true := by decide +kernel
theorem xk_X12_again : xokQ 12 (RX12, yX12_again, cX12_again, 5, (some .boolean), xt_X12_again) = true := by decide +kernel
theorem xk_X12_burns : xokQ 12 (RX12, yX12_burns, cX12_burns, 2, (some .boolean), xt_X12_burns) = true := by decide +kernel
theorem xk_X12_mayBurn : xokQ 12 (RX12, yX12_mayBurn, cX12_mayBurn, 2, none, xt_X12_mayBurn) = true := by decide +kernel
theorem xk_X12_acts : xokQ 12 (RX12, yX12_acts, cX12_acts, 7, (some .boolean), xt_X12_acts) = true := by decide +kernel
theorem xk_X12_actsAt : xokQ 12 (RX12, yX12_actsAt, cX12_actsAt, 3, none, xt_X12_actsAt) = true := by decide +kernel
theorem xk_X12_holds : xokQ 12 (RX12, yX12_holds, cX12_holds, 4, (some .boolean), xt_X12_holds) = true := by decide +kernel
theorem xk_X12_behindEnds : xokQ 12 (RX12, yX12_behindEnds, cX12_behindEnds, 5, (some .int), xt_X12_behindEnds) = true := by decide +kernel
theorem xk_X12_cooks : xokQ 12 (RX12, yX12_cooks, cX12_cooks, 9, none, xt_X12_cooks) = true := by decide +kernel
theorem xk_X12_cook : xokQ 12 (RX12, yX12_cook, cX12_cook, 2, (some .int), xt_X12_cook) = true := by decide +kernel
theorem xk_X12_cooked : xokQ 12 (RX12, yX12_cooked, cX12_cooked, 2, (some .int), xt_X12_cooked) = true := by decide +kernel
theorem xk_X12_judged : xokQ 12 (RX12, yX12_judged, cX12_judged, 1, (some .int), xt_X12_judged) = true := by decide +kernel
theorem xk_X12_odds : xokQ 12 (RX12, yX12_odds, cX12_odds, 6, (some .boolean), xt_X12_odds) = true := by decide +kernel
theorem xk_X12_copies : xokQ 12 (RX12, yX12_copies, cX12_copies, 4, none, xt_X12_copies) = true := by decide +kernel
theorem xk_X12_mark : xokQ 12 (RX12, yX12_mark, cX12_mark, 1, (some .int), xt_X12_mark) = true := by decide +kernel
theorem xk_X12_back : xokQ 12 (RX12, yX12_back, cX12_back, 1, (some .int), xt_X12_back) = true := by decide +kernel
theorem xk_J6_numberOfTrailingZeros_0f7a4 : xokQ 14 (RJ6, yJ6_numberOfTrailingZeros_0f7a4, cJ6_numberOfTrailingZeros_0f7a4, 2, (some .int), xt_J6_numberOfTrailingZeros_0f7a4) = true := by decide +kernel
theorem xk_J6_bitCount_0f7a4 : xokQ 14 (RJ6, yJ6_bitCount_0f7a4, cJ6_bitCount_0f7a4, 1, (some .int), xt_J6_bitCount_0f7a4) = true := by decide +kernel
theorem xk_J7_fill_d0a16 : xokQ 15 (RJ7, yJ7_fill_d0a16, cJ7_fill_d0a16, 5, none, xt_J7_fill_d0a16) = true := by decide +kernel
theorem xk_J7_fill_53178 : xokQ 15 (RJ7, yJ7_fill_53178, cJ7_fill_53178, 4, none, xt_J7_fill_53178) = true := by decide +kernel
