theorem xk_X4_readPair : xokQ 4 (RX4, yX4_readPair, cX4_readPair, 3, (some .boolean), xt_X4_readPair) = true := by decide +kernel
theorem xk_X4_readPartner : xokQ 4 (RX4, yX4_readPartner, cX4_readPartner, 3, (some .int), xt_X4_readPartner) = true := by decide +kernel
theorem xk_X4_canPair : xokQ 4 (RX4, yX4_canPair, cX4_canPair, 3, (some .boolean), xt_X4_canPair) = true := by decide +kernel
theorem xk_X4_readPots : xokQ 4 (RX4, yX4_readPots, cX4_readPots, 3, (some .boolean), xt_X4_readPots) = true := by decide +kernel
theorem xk_X5_init : xokQ 5 (RX5, yX5_init, cX5_init, 1, none, xt_X5_init) = true := by decide +kernel
theorem xk_X5_clear : xokQ 5 (RX5, yX5_clear, cX5_clear, 1, none, xt_X5_clear) = true := by decide +kernel
theorem xk_X5_copyFrom : xokQ 5 (RX5, yX5_copyFrom, cX5_copyFrom, 2, none, xt_X5_copyFrom) = true := by decide +kernel
theorem xk_X5_addStep : xokQ 5 (RX5, yX5_addStep, cX5_addStep, 5, (some .int), xt_X5_addStep) = true := by decide +kernel
theorem xk_X5_runWith : xokQ 5 (RX5, yX5_runWith, cX5_runWith, 6, none, xt_X5_runWith) = true := by decide +kernel
theorem xk_X5_isDone : xokQ 5 (RX5, yX5_isDone, cX5_isDone, 1, (some .boolean), xt_X5_isDone) = true := by decide +kernel
theorem xk_X5_atEndOfOpen : xokQ 5 (RX5, yX5_atEndOfOpen, cX5_atEndOfOpen, 1, (some .boolean), xt_X5_atEndOfOpen) = true := by decide +kernel
theorem xk_X5_closeOrRepeat : xokQ 5 (RX5, yX5_closeOrRepeat, cX5_closeOrRepeat, 1, none, xt_X5_closeOrRepeat) = true := by decide +kernel
theorem xk_X5_meet : xokQ 5 (RX5, yX5_meet, cX5_meet, 3, none, xt_X5_meet) = true := by decide +kernel
theorem xk_X5_enter : xokQ 5 (RX5, yX5_enter, cX5_enter, 2, none, xt_X5_enter) = true := by decide +kernel
theorem xk_X5_testHolds : xokQ 5 (RX5, yX5_testHolds, cX5_testHolds, 2, (some .boolean), xt_X5_testHolds) = true := by decide +kernel
theorem xk_X5_attempt : xokQ 5 (RX5, yX5_attempt, cX5_attempt, 4, (some .boolean), xt_X5_attempt) = true := by decide +kernel
theorem xk_X6_init : xokQ 6 (RX6, yX6_init, cX6_init, 2, none, xt_X6_init) = true := by decide +kernel
theorem xk_X6_readPlan : xokQ 6 (RX6, yX6_readPlan, cX6_readPlan, 5, (some .boolean), xt_X6_readPlan) = true := by decide +kernel
theorem xk_X6_readEnd : xokQ 6 (RX6, yX6_readEnd, cX6_readEnd, 1, (some .boolean), xt_X6_readEnd) = true := by decide +kernel
theorem xk_X6_readStep : xokQ 6 (RX6, yX6_readStep, cX6_readStep, 5, (some .boolean), xt_X6_readStep) = true := by decide +kernel
theorem xk_X6_isPlainStep : xokQ 6 (RX6, yX6_isPlainStep, cX6_isPlainStep, 1, (some .boolean), xt_X6_isPlainStep) = true := by decide +kernel
theorem xk_X6_readRest : xokQ 6 (RX6, yX6_readRest, cX6_readRest, 3, (some .boolean), xt_X6_readRest) = true := by decide +kernel
theorem xk_X6_readTest : xokQ 6 (RX6, yX6_readTest, cX6_readTest, 4, (some .boolean), xt_X6_readTest) = true := by decide +kernel
theorem xk_X6_readDish : xokQ 6 (RX6, yX6_readDish, cX6_readDish, 3, (some .int), xt_X6_readDish) = true := by decide +kernel
theorem xk_X7_init : xokQ 7 (RX7, yX7_init, cX7_init, 1, none, xt_X7_init) = true := by decide +kernel
theorem xk_X7_copyFrom : xokQ 7 (RX7, yX7_copyFrom, cX7_copyFrom, 2, none, xt_X7_copyFrom) = true := by decide +kernel
theorem xk_X7_usePots : xokQ 7 (RX7, yX7_usePots, cX7_usePots, 6, none, xt_X7_usePots) = true := by decide +kernel
theorem xk_X7_useBigPots : xokQ 7 (RX7, yX7_useBigPots, cX7_useBigPots, 3, none, xt_X7_useBigPots) = true := by decide +kernel
theorem xk_X7_addRule : xokQ 7 (RX7, yX7_addRule, cX7_addRule, 3, none, xt_X7_addRule) = true := by decide +kernel
theorem xk_X7_holds : xokQ 7 (RX7, yX7_holds, cX7_holds, 3, (some .boolean), xt_X7_holds) = true := by decide +kernel
theorem xk_X8_init : xokQ 8 (RX8, yX8_init, cX8_init, 1, none, xt_X8_init) = true := by decide +kernel
theorem xk_X8_countRounds : xokQ 8 (RX8, yX8_countRounds, cX8_countRounds, 8, (some .int), xt_X8_countRounds) = true := by decide +kernel
theorem xk_X8_allCanBeMade : xokQ 8 (RX8, yX8_allCanBeMade, cX8_allCanBeMade, 3, (some .boolean), xt_X8_allCanBeMade) = true := by decide +kernel
theorem xk_X8_restart : xokQ 8 (RX8, yX8_restart, cX8_restart, 3, none, xt_X8_restart) = true := by decide +kernel
theorem xk_X8_add : xokQ 8 (RX8, yX8_add, cX8_add, 2, none, xt_X8_add) = true := by decide +kernel
theorem xk_X8_washFrom : xokQ 8 (RX8, yX8_washFrom, cX8_washFrom, 4, none, xt_X8_washFrom) = true := by decide +kernel
theorem xk_X8_readyAt : xokQ 8 (RX8, yX8_readyAt, cX8_readyAt, 4, (some .int), xt_X8_readyAt) = true := by decide +kernel
theorem xk_X8_cookMore : xokQ 8 (RX8, yX8_cookMore, cX8_cookMore, 10, none, xt_X8_cookMore) = true := by decide +kernel
theorem xk_X9_init : xokQ 9 (RX9, yX9_init, cX9_init, 6, none, xt_X9_init) = true := by decide +kernel
theorem xk_X9_withLetter : xokQ 9 (RX9, yX9_withLetter, cX9_withLetter, 3, (some .long), xt_X9_withLetter) = true := by decide +kernel
theorem xk_X9_hasRoom : xokQ 9 (RX9, yX9_hasRoom, cX9_hasRoom, 1, (some .boolean), xt_X9_hasRoom) = true := by decide +kernel
theorem xk_X9_append : xokQ 9 (RX9, yX9_append, cX9_append, 3, none, xt_X9_append) = true := by decide +kernel
theorem xk_X9_emptyTape : xokQ 9 (RX9, yX9_emptyTape, cX9_emptyTape, 1, none, xt_X9_emptyTape) = true := by decide +kernel
theorem xk_X9_begin : xokQ 9 (RX9, yX9_begin, cX9_begin, 4, none, xt_X9_begin) = true := by decide +kernel
theorem xk_X9_skipBlanks : xokQ 9 (RX9, yX9_skipBlanks, cX9_skipBlanks, 2, none, xt_X9_skipBlanks) = true := by decide +kernel
theorem xk_X9_cutToken : xokQ 9 (RX9, yX9_cutToken, cX9_cutToken, 2, (some .int), xt_X9_cutToken) = true := by decide +kernel
theorem xk_X9_isLetter : xokQ 9 (RX9, yX9_isLetter, cX9_isLetter, 1, (some .boolean), xt_X9_isLetter) = true := by decide +kernel
theorem xk_X9_isDigit : xokQ 9 (RX9, yX9_isDigit, cX9_isDigit, 1, (some .boolean), xt_X9_isDigit) = true := by decide +kernel
theorem xk_X9_cutWord : xokQ 9 (RX9, yX9_cutWord, cX9_cutWord, 5, (some .int), xt_X9_cutWord) = true := by decide +kernel
theorem xk_X9_cutNumber : xokQ 9 (RX9, yX9_cutNumber, cX9_cutNumber, 5, (some .int), xt_X9_cutNumber) = true := by decide +kernel
theorem xk_X9_advance : xokQ 9 (RX9, yX9_advance, cX9_advance, 1, none, xt_X9_advance) = true := by decide +kernel
theorem xk_X9_value : xokQ 9 (RX9, yX9_value, cX9_value, 1, (some .long), xt_X9_value) = true := by decide +kernel
theorem xk_X9_blame : xokQ 9 (RX9, yX9_blame, cX9_blame, 2, (some .boolean), xt_X9_blame) = true := by decide +kernel
theorem xk_X9_misplaced : xokQ 9 (RX9, yX9_misplaced, cX9_misplaced, 1, (some .boolean), xt_X9_misplaced) = true := by decide +kernel
theorem xk_X9_takeToken : xokQ 9 (RX9, yX9_takeToken, cX9_takeToken, 2, (some .boolean), xt_X9_takeToken) = true := by decide +kernel
theorem xk_X9_takeNumber : xokQ 9 (RX9, yX9_takeNumber, cX9_takeNumber, 5, (some .int), xt_X9_takeNumber) = true := by decide +kernel
theorem xk_X10_init : xokQ 10 (RX10, yX10_init, cX10_init, 1, none, xt_X10_init) = true := by decide +kernel
theorem xk_X10_isTray : xokQ 10 (RX10, yX10_isTray, cX10_isTray, 2, (some .boolean), xt_X10_isTray) = true := by decide +kernel
theorem xk_X10_isSort : xokQ 10 (RX10, yX10_isSort, cX10_isSort, 2, (some .boolean), xt_X10_isSort) = true := by decide +kernel
theorem xk_X10_isThere : xokQ 10 (RX10, yX10_isThere, cX10_isThere, 2, (some .boolean), xt_X10_isThere) = true := by decide +kernel
theorem xk_X10_areAlike : xokQ 10 (RX10, yX10_areAlike, cX10_areAlike, 3, (some .boolean), xt_X10_areAlike) = true := by decide +kernel
theorem xk_X10_hasRun : xokQ 10 (RX10, yX10_hasRun, cX10_hasRun, 4, (some .boolean), xt_X10_hasRun) = true := by decide +kernel
theorem xk_X10_lay : xokQ 10 (RX10, yX10_lay, cX10_lay, 4, none, xt_X10_lay) = true := by decide +kernel
theorem xk_X10_whyNot : xokQ 10 (RX10, yX10_whyNot, cX10_whyNot, 3, (some .int), xt_X10_whyNot) = true := by decide +kernel
theorem xk_X10_put : xokQ 10 (RX10, yX10_put, cX10_put, 5, none, xt_X10_put) = true := by decide +kernel
theorem xk_X10_numberAt : xokQ 10 (RX10, yX10_numberAt, cX10_numberAt, 3, (some .long), xt_X10_numberAt) = true := by decide +kernel
theorem xk_X10_carry : xokQ 10 (RX10, yX10_carry, cX10_carry, 6, none, xt_X10_carry) = true := by decide +kernel
theorem xk_X11_init : xokQ 11 (RX11, yX11_init, cX11_init, 2, none, xt_X11_init) = true := by decide +kernel
theorem xk_X11_status : xokQ 11 (RX11, yX11_status, cX11_status, 1, (some .int), xt_X11_status) = true := by decide +kernel
theorem xk_X11_top : xokQ 11 (RX11, yX11_top, cX11_top, 1, (some .long), xt_X11_top) = true := by decide +kernel
theorem xk_X11_bottom : xokQ 11 (RX11, yX11_bottom, cX11_bottom, 1, (some .long), xt_X11_bottom) = true := by decide +kernel
theorem xk_X11_tray : xokQ 11 (RX11, yX11_tray, cX11_tray, 5, (some .boolean), xt_X11_tray) = true := by decide +kernel
theorem xk_X11_write : xokQ 11 (RX11, yX11_write, cX11_write, 6, (some .boolean), xt_X11_write) = true := by decide +kernel
theorem xk_X11_read : xokQ 11 (RX11, yX11_read, cX11_read, 3, (some .long), xt_X11_read) = true := by decide +kernel
theorem xk_X11_pour : xokQ 11 (RX11, yX11_pour, cX11_pour, 7, (some .boolean), xt_X11_pour) = true := by decide +kernel
theorem xk_X11_feed : xokQ 11 (RX11, yX11_feed, cX11_feed, 6, (some .int), xt_X11_feed) = true := by decide +kernel
theorem xk_X11_menu : xokQ 11 (RX11, yX11_menu, cX11_menu, 3, (some .int), xt_X11_menu) = true := by decide +kernel
theorem xk_X11_plan : xokQ 11 (RX11, yX11_plan, cX11_plan, 3, (some .int), xt_X11_plan) = true := by decide +kernel
theorem xk_X11_fault : xokQ 11 (RX11, yX11_fault, cX11_fault, 2, (some .int), xt_X11_fault) = true := by decide +kernel
theorem xk_X11_told : xokQ 11 (RX11, yX11_told, cX11_told, 3, (some .int), xt_X11_told) = true := by decide +kernel
theorem xk_X11_dish : xokQ 11 (RX11, yX11_dish, cX11_dish, 4, (some .int), xt_X11_dish) = true := by decide +kernel
theorem xk_X11_pot : xokQ 11 (RX11, yX11_pot, cX11_pot, 3, (some .int), xt_X11_pot) = true := by decide +kernel
theorem xk_X11_fits : xokQ 11 (RX11, yX11_fits, cX11_fits, 2, (some .int), xt_X11_fits) = true := by decide +kernel
