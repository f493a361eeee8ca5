theorem xk_X0_init : xokQ 0 (RX0, yX0_init, cX0_init, 2, none, xt_X0_init) = true := by decide +kernel
theorem xk_X0_use : xokQ 0 (RX0, yX0_use, cX0_use, 5, none, xt_X0_use) = true := by decide +kernel
theorem xk_X0_weigh : xokQ 0 (RX0, yX0_weigh, cX0_weigh, 3, none, xt_X0_weigh) = true := by decide +kernel
theorem xk_X0_weighHalf : xokQ 0 (RX0, yX0_weighHalf, cX0_weighHalf, 5, none, xt_X0_weighHalf) = true := by decide +kernel
theorem xk_X0_weightOf : xokQ 0 (RX0, yX0_weightOf, cX0_weightOf, 2, (some .int), xt_X0_weightOf) = true := by decide +kernel
theorem xk_X0_seekPots : xokQ 0 (RX0, yX0_seekPots, cX0_seekPots, 3, (some .int), xt_X0_seekPots) = true := by decide +kernel
theorem xk_X0_searchOn : xokQ 0 (RX0, yX0_searchOn, cX0_searchOn, 3, (some .boolean), xt_X0_searchOn) = true := by decide +kernel
theorem xk_X0_goOnFrom : xokQ 0 (RX0, yX0_goOnFrom, cX0_goOnFrom, 7, none, xt_X0_goOnFrom) = true := by decide +kernel
theorem xk_X0_tryShow : xokQ 0 (RX0, yX0_tryShow, cX0_tryShow, 4, none, xt_X0_tryShow) = true := by decide +kernel
theorem xk_X0_tryMake : xokQ 0 (RX0, yX0_tryMake, cX0_tryMake, 8, none, xt_X0_tryMake) = true := by decide +kernel
theorem xk_X0_tryPours : xokQ 0 (RX0, yX0_tryPours, cX0_tryPours, 7, none, xt_X0_tryPours) = true := by decide +kernel
theorem xk_X0_tryTrust : xokQ 0 (RX0, yX0_tryTrust, cX0_tryTrust, 5, none, xt_X0_tryTrust) = true := by decide +kernel
theorem xk_X0_add : xokQ 0 (RX0, yX0_add, cX0_add, 4, none, xt_X0_add) = true := by decide +kernel
theorem xk_X1_init : xokQ 1 (RX1, yX1_init, cX1_init, 1, none, xt_X1_init) = true := by decide +kernel
theorem xk_X1_clear : xokQ 1 (RX1, yX1_clear, cX1_clear, 1, none, xt_X1_clear) = true := by decide +kernel
theorem xk_X1_copyFrom : xokQ 1 (RX1, yX1_copyFrom, cX1_copyFrom, 2, none, xt_X1_copyFrom) = true := by decide +kernel
theorem xk_X1_beginCooking : xokQ 1 (RX1, yX1_beginCooking, cX1_beginCooking, 2, none, xt_X1_beginCooking) = true := by decide +kernel
theorem xk_X1_madeOnes : xokQ 1 (RX1, yX1_madeOnes, cX1_madeOnes, 1, (some .int), xt_X1_madeOnes) = true := by decide +kernel
theorem xk_X1_doMake : xokQ 1 (RX1, yX1_doMake, cX1_doMake, 6, (some .boolean), xt_X1_doMake) = true := by decide +kernel
theorem xk_X1_doPour : xokQ 1 (RX1, yX1_doPour, cX1_doPour, 7, (some .boolean), xt_X1_doPour) = true := by decide +kernel
theorem xk_X1_doWash : xokQ 1 (RX1, yX1_doWash, cX1_doWash, 2, (some .boolean), xt_X1_doWash) = true := by decide +kernel
theorem xk_X1_doTrust : xokQ 1 (RX1, yX1_doTrust, cX1_doTrust, 4, (some .boolean), xt_X1_doTrust) = true := by decide +kernel
theorem xk_X1_doShow : xokQ 1 (RX1, yX1_doShow, cX1_doShow, 3, (some .boolean), xt_X1_doShow) = true := by decide +kernel
theorem xk_X1_leave : xokQ 1 (RX1, yX1_leave, cX1_leave, 2, none, xt_X1_leave) = true := by decide +kernel
theorem xk_X1_arrive : xokQ 1 (RX1, yX1_arrive, cX1_arrive, 3, none, xt_X1_arrive) = true := by decide +kernel
theorem xk_X1_nextDraw : xokQ 1 (RX1, yX1_nextDraw, cX1_nextDraw, 1, (some .int), xt_X1_nextDraw) = true := by decide +kernel
theorem xk_X1_endStep : xokQ 1 (RX1, yX1_endStep, cX1_endStep, 4, none, xt_X1_endStep) = true := by decide +kernel
theorem xk_X1_countMissed : xokQ 1 (RX1, yX1_countMissed, cX1_countMissed, 2, none, xt_X1_countMissed) = true := by decide +kernel
theorem xk_X1_stepsLeft : xokQ 1 (RX1, yX1_stepsLeft, cX1_stepsLeft, 4, (some .int), xt_X1_stepsLeft) = true := by decide +kernel
theorem xk_X1_tellCooked : xokQ 1 (RX1, yX1_tellCooked, cX1_tellCooked, 2, (some .int), xt_X1_tellCooked) = true := by decide +kernel
theorem xk_X2_init : xokQ 2 (RX2, yX2_init, cX2_init, 2, none, xt_X2_init) = true := by decide +kernel
theorem xk_X2_useKitchen : xokQ 2 (RX2, yX2_useKitchen, cX2_useKitchen, 3, none, xt_X2_useKitchen) = true := by decide +kernel
theorem xk_X2_useBigPots : xokQ 2 (RX2, yX2_useBigPots, cX2_useBigPots, 3, none, xt_X2_useBigPots) = true := by decide +kernel
theorem xk_X2_isOther : xokQ 2 (RX2, yX2_isOther, cX2_isOther, 4, (some .boolean), xt_X2_isOther) = true := by decide +kernel
theorem xk_X2_restart : xokQ 2 (RX2, yX2_restart, cX2_restart, 2, none, xt_X2_restart) = true := by decide +kernel
theorem xk_X2_seekWork : xokQ 2 (RX2, yX2_seekWork, cX2_seekWork, 3, (some .int), xt_X2_seekWork) = true := by decide +kernel
theorem xk_X2_seekKey : xokQ 2 (RX2, yX2_seekKey, cX2_seekKey, 3, (some .int), xt_X2_seekKey) = true := by decide +kernel
theorem xk_X2_settleNext : xokQ 2 (RX2, yX2_settleNext, cX2_settleNext, 3, (some .boolean), xt_X2_settleNext) = true := by decide +kernel
theorem xk_X2_offer : xokQ 2 (RX2, yX2_offer, cX2_offer, 3, none, xt_X2_offer) = true := by decide +kernel
theorem xk_X2_rise : xokQ 2 (RX2, yX2_rise, cX2_rise, 5, none, xt_X2_rise) = true := by decide +kernel
theorem xk_X2_sink : xokQ 2 (RX2, yX2_sink, cX2_sink, 5, none, xt_X2_sink) = true := by decide +kernel
theorem xk_X2_listMoves : xokQ 2 (RX2, yX2_listMoves, cX2_listMoves, 3, none, xt_X2_listMoves) = true := by decide +kernel
theorem xk_X2_listMake : xokQ 2 (RX2, yX2_listMake, cX2_listMake, 5, none, xt_X2_listMake) = true := by decide +kernel
theorem xk_X2_listPours : xokQ 2 (RX2, yX2_listPours, cX2_listPours, 8, none, xt_X2_listPours) = true := by decide +kernel
theorem xk_X2_priceOf : xokQ 2 (RX2, yX2_priceOf, cX2_priceOf, 2, (some .int), xt_X2_priceOf) = true := by decide +kernel
theorem xk_X2_addMove : xokQ 2 (RX2, yX2_addMove, cX2_addMove, 4, none, xt_X2_addMove) = true := by decide +kernel
theorem xk_X2_tellMove : xokQ 2 (RX2, yX2_tellMove, cX2_tellMove, 3, (some .int), xt_X2_tellMove) = true := by decide +kernel
theorem xk_X2_findPath : xokQ 2 (RX2, yX2_findPath, cX2_findPath, 4, (some .int), xt_X2_findPath) = true := by decide +kernel
theorem xk_X2_markPaths : xokQ 2 (RX2, yX2_markPaths, cX2_markPaths, 5, none, xt_X2_markPaths) = true := by decide +kernel
theorem xk_X2_firstOnPath : xokQ 2 (RX2, yX2_firstOnPath, cX2_firstOnPath, 5, (some .int), xt_X2_firstOnPath) = true := by decide +kernel
theorem xk_X2_walkPath : xokQ 2 (RX2, yX2_walkPath, cX2_walkPath, 6, none, xt_X2_walkPath) = true := by decide +kernel
theorem xk_X3_init : xokQ 3 (RX3, yX3_init, cX3_init, 1, none, xt_X3_init) = true := by decide +kernel
theorem xk_X3_clear : xokQ 3 (RX3, yX3_clear, cX3_clear, 1, none, xt_X3_clear) = true := by decide +kernel
theorem xk_X3_copyFrom : xokQ 3 (RX3, yX3_copyFrom, cX3_copyFrom, 2, none, xt_X3_copyFrom) = true := by decide +kernel
theorem xk_X3_derive : xokQ 3 (RX3, yX3_derive, cX3_derive, 4, none, xt_X3_derive) = true := by decide +kernel
theorem xk_X3_has : xokQ 3 (RX3, yX3_has, cX3_has, 2, (some .boolean), xt_X3_has) = true := by decide +kernel
theorem xk_X3_hasSet : xokQ 3 (RX3, yX3_hasSet, cX3_hasSet, 2, (some .boolean), xt_X3_hasSet) = true := by decide +kernel
theorem xk_X3_allDishes : xokQ 3 (RX3, yX3_allDishes, cX3_allDishes, 1, (some .int), xt_X3_allDishes) = true := by decide +kernel
theorem xk_X3_dishesFrom : xokQ 3 (RX3, yX3_dishesFrom, cX3_dishesFrom, 4, (some .int), xt_X3_dishesFrom) = true := by decide +kernel
theorem xk_X3_dishNamed : xokQ 3 (RX3, yX3_dishNamed, cX3_dishNamed, 4, (some .int), xt_X3_dishNamed) = true := by decide +kernel
theorem xk_X3_isPoured : xokQ 3 (RX3, yX3_isPoured, cX3_isPoured, 2, (some .boolean), xt_X3_isPoured) = true := by decide +kernel
theorem xk_X3_isAlone : xokQ 3 (RX3, yX3_isAlone, cX3_isAlone, 2, (some .boolean), xt_X3_isAlone) = true := by decide +kernel
theorem xk_X3_leadsGroup : xokQ 3 (RX3, yX3_leadsGroup, cX3_leadsGroup, 2, (some .boolean), xt_X3_leadsGroup) = true := by decide +kernel
theorem xk_X3_goneWith : xokQ 3 (RX3, yX3_goneWith, cX3_goneWith, 2, (some .int), xt_X3_goneWith) = true := by decide +kernel
theorem xk_X3_tellDish : xokQ 3 (RX3, yX3_tellDish, cX3_tellDish, 3, (some .int), xt_X3_tellDish) = true := by decide +kernel
theorem xk_X3_layerOf : xokQ 3 (RX3, yX3_layerOf, cX3_layerOf, 5, (some .int), xt_X3_layerOf) = true := by decide +kernel
theorem xk_X3_deepNeeds : xokQ 3 (RX3, yX3_deepNeeds, cX3_deepNeeds, 4, (some .int), xt_X3_deepNeeds) = true := by decide +kernel
theorem xk_X3_allNeeded : xokQ 3 (RX3, yX3_allNeeded, cX3_allNeeded, 6, (some .int), xt_X3_allNeeded) = true := by decide +kernel
theorem xk_X3_workOnce : xokQ 3 (RX3, yX3_workOnce, cX3_workOnce, 5, (some .int), xt_X3_workOnce) = true := by decide +kernel
theorem xk_X3_leastBound : xokQ 3 (RX3, yX3_leastBound, cX3_leastBound, 5, (some .int), xt_X3_leastBound) = true := by decide +kernel
theorem xk_X3_ownBound : xokQ 3 (RX3, yX3_ownBound, cX3_ownBound, 2, (some .int), xt_X3_ownBound) = true := by decide +kernel
theorem xk_X3_treeNumber : xokQ 3 (RX3, yX3_treeNumber, cX3_treeNumber, 5, (some .int), xt_X3_treeNumber) = true := by decide +kernel
theorem xk_X3_isTree : xokQ 3 (RX3, yX3_isTree, cX3_isTree, 4, (some .boolean), xt_X3_isTree) = true := by decide +kernel
theorem xk_X3_numberAbove : xokQ 3 (RX3, yX3_numberAbove, cX3_numberAbove, 7, (some .int), xt_X3_numberAbove) = true := by decide +kernel
theorem xk_X3_greatestOf : xokQ 3 (RX3, yX3_greatestOf, cX3_greatestOf, 4, (some .int), xt_X3_greatestOf) = true := by decide +kernel
theorem xk_X4_init : xokQ 4 (RX4, yX4_init, cX4_init, 2, none, xt_X4_init) = true := by decide +kernel
theorem xk_X4_readMenu : xokQ 4 (RX4, yX4_readMenu, cX4_readMenu, 4, (some .boolean), xt_X4_readMenu) = true := by decide +kernel
theorem xk_X4_readDish : xokQ 4 (RX4, yX4_readDish, cX4_readDish, 2, (some .boolean), xt_X4_readDish) = true := by decide +kernel
theorem xk_X4_readNewName : xokQ 4 (RX4, yX4_readNewName, cX4_readNewName, 2, (some .boolean), xt_X4_readNewName) = true := by decide +kernel
theorem xk_X4_readAmounts : xokQ 4 (RX4, yX4_readAmounts, cX4_readAmounts, 2, (some .boolean), xt_X4_readAmounts) = true := by decide +kernel
theorem xk_X4_readAmount : xokQ 4 (RX4, yX4_readAmount, cX4_readAmount, 5, (some .int), xt_X4_readAmount) = true := by decide +kernel
theorem xk_X4_readNeeds : xokQ 4 (RX4, yX4_readNeeds, cX4_readNeeds, 4, (some .boolean), xt_X4_readNeeds) = true := by decide +kernel
theorem xk_X4_readKinds : xokQ 4 (RX4, yX4_readKinds, cX4_readKinds, 2, (some .boolean), xt_X4_readKinds) = true := by decide +kernel
