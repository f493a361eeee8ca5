set_option maxRecDepth 100000 in
theorem xpQ1_0 : (xms_0.zip xmh_0).map (fun z => lw_tbl[z.2.1]?) = (xms_0.zip xmh_0).map (fun z => some (Cond.code z.1.2.1 z.1.2.2.1 z.1.2.2.2.1 z.1.2.2.2.2.1)) := by rfl
set_option maxRecDepth 100000 in
theorem xpQ2_0 : (xms_0.zip xmh_0).map (fun z => lw_tbl[z.2.2.1]?) = (xms_0.zip xmh_0).map (fun z => some (Cond.initialized z.1.2.1.cls)) := by rfl
set_option maxRecDepth 100000 in
theorem xpQ3_0 : (xms_0.zip xmh_0).map (fun z => lw_tbl[z.2.2.2.2.1]?) = (xms_0.zip xmh_0).map (fun z => some (xwdS z)) := by rfl
set_option maxRecDepth 100000 in
theorem xpQ4_0 : (xms_0.zip xmh_0).map (fun z => lw_tbl[xplV z]?) = (xms_0.zip xmh_0).map (fun z => some (xwdV z)) := by rfl
theorem xqQ_0 : (xms_0).all xsdQ = true := by decide +kernel
set_option maxRecDepth 100000 in
theorem xpQ1_1 : (xms_1.zip xmh_1).map (fun z => lw_tbl[z.2.1]?) = (xms_1.zip xmh_1).map (fun z => some (Cond.code z.1.2.1 z.1.2.2.1 z.1.2.2.2.1 z.1.2.2.2.2.1)) := by rfl
set_option maxRecDepth 100000 in
theorem xpQ2_1 : (xms_1.zip xmh_1).map (fun z => lw_tbl[z.2.2.1]?) = (xms_1.zip xmh_1).map (fun z => some (Cond.initialized z.1.2.1.cls)) := by rfl
set_option maxRecDepth 100000 in
theorem xpQ3_1 : (xms_1.zip xmh_1).map (fun z => lw_tbl[z.2.2.2.2.1]?) = (xms_1.zip xmh_1).map (fun z => some (xwdS z)) := by rfl
set_option maxRecDepth 100000 in
theorem xpQ4_1 : (xms_1.zip xmh_1).map (fun z => lw_tbl[xplV z]?) = (xms_1.zip xmh_1).map (fun z => some (xwdV z)) := by rfl
theorem xqQ_1 : (xms_1).all xsdQ = true := by decide +kernel
set_option maxRecDepth 100000 in
theorem xpQ1_2 : (xms_2.zip xmh_2).map (fun z => lw_tbl[z.2.1]?) = (xms_2.zip xmh_2).map (fun z => some (Cond.code z.1.2.1 z.1.2.2.1 z.1.2.2.2.1 z.1.2.2.2.2.1)) := by rfl
set_option maxRecDepth 100000 in
theorem xpQ2_2 : (xms_2.zip xmh_2).map (fun z => lw_tbl[z.2.2.1]?) = (xms_2.zip xmh_2).map (fun z => some (Cond.initialized z.1.2.1.cls)) := by rfl
set_option maxRecDepth 100000 in
theorem xpQ3_2 : (xms_2.zip xmh_2).map (fun z => lw_tbl[z.2.2.2.2.1]?) = (xms_2.zip xmh_2).map (fun z => some (xwdS z)) := by rfl
set_option maxRecDepth 100000 in
theorem xpQ4_2 : (xms_2.zip xmh_2).map (fun z => lw_tbl[xplV z]?) = (xms_2.zip xmh_2).map (fun z => some (xwdV z)) := by rfl
theorem xqQ_2 : (xms_2).all xsdQ = true := by decide +kernel
set_option maxRecDepth 100000 in
theorem xpQ1_3 : (xms_3.zip xmh_3).map (fun z => lw_tbl[z.2.1]?) = (xms_3.zip xmh_3).map (fun z => some (Cond.code z.1.2.1 z.1.2.2.1 z.1.2.2.2.1 z.1.2.2.2.2.1)) := by rfl
set_option maxRecDepth 100000 in
theorem xpQ2_3 : (xms_3.zip xmh_3).map (fun z => lw_tbl[z.2.2.1]?) = (xms_3.zip xmh_3).map (fun z => some (Cond.initialized z.1.2.1.cls)) := by rfl
set_option maxRecDepth 100000 in
theorem xpQ3_3 : (xms_3.zip xmh_3).map (fun z => lw_tbl[z.2.2.2.2.1]?) = (xms_3.zip xmh_3).map (fun z => some (xwdS z)) := by rfl
set_option maxRecDepth 100000 in
theorem xpQ4_3 : (xms_3.zip xmh_3).map (fun z => lw_tbl[xplV z]?) = (xms_3.zip xmh_3).map (fun z => some (xwdV z)) := by rfl
theorem xqQ_3 : (xms_3).all xsdQ = true := by decide +kernel
set_option maxRecDepth 100000 in
theorem xpQ1_4 : (xms_4.zip xmh_4).map (fun z => lw_tbl[z.2.1]?) = (xms_4.zip xmh_4).map (fun z => some (Cond.code z.1.2.1 z.1.2.2.1 z.1.2.2.2.1 z.1.2.2.2.2.1)) := by rfl
set_option maxRecDepth 100000 in
theorem xpQ2_4 : (xms_4.zip xmh_4).map (fun z => lw_tbl[z.2.2.1]?) = (xms_4.zip xmh_4).map (fun z => some (Cond.initialized z.1.2.1.cls)) := by rfl
set_option maxRecDepth 100000 in
theorem xpQ3_4 : (xms_4.zip xmh_4).map (fun z => lw_tbl[z.2.2.2.2.1]?) = (xms_4.zip xmh_4).map (fun z => some (xwdS z)) := by rfl
set_option maxRecDepth 100000 in
theorem xpQ4_4 : (xms_4.zip xmh_4).map (fun z => lw_tbl[xplV z]?) = (xms_4.zip xmh_4).map (fun z => some (xwdV z)) := by rfl
theorem xqQ_4 : (xms_4).all xsdQ = true := by decide +kernel
set_option maxRecDepth 100000 in
theorem xpQ1_5 : (xms_5.zip xmh_5).map (fun z => lw_tbl[z.2.1]?) = (xms_5.zip xmh_5).map (fun z => some (Cond.code z.1.2.1 z.1.2.2.1 z.1.2.2.2.1 z.1.2.2.2.2.1)) := by rfl
set_option maxRecDepth 100000 in
theorem xpQ2_5 : (xms_5.zip xmh_5).map (fun z => lw_tbl[z.2.2.1]?) = (xms_5.zip xmh_5).map (fun z => some (Cond.initialized z.1.2.1.cls)) := by rfl
set_option maxRecDepth 100000 in
theorem xpQ3_5 : (xms_5.zip xmh_5).map (fun z => lw_tbl[z.2.2.2.2.1]?) = (xms_5.zip xmh_5).map (fun z => some (xwdS z)) := by rfl
set_option maxRecDepth 100000 in
theorem xpQ4_5 : (xms_5.zip xmh_5).map (fun z => lw_tbl[xplV z]?) = (xms_5.zip xmh_5).map (fun z => some (xwdV z)) := by rfl
theorem xqQ_5 : (xms_5).all xsdQ = true := by decide +kernel
set_option maxRecDepth 100000 in
theorem xpQ1_6 : (xms_6.zip xmh_6).map (fun z => lw_tbl[z.2.1]?) = (xms_6.zip xmh_6).map (fun z => some (Cond.code z.1.2.1 z.1.2.2.1 z.1.2.2.2.1 z.1.2.2.2.2.1)) := by rfl
set_option maxRecDepth 100000 in
theorem xpQ2_6 : (xms_6.zip xmh_6).map (fun z => lw_tbl[z.2.2.1]?) = (xms_6.zip xmh_6).map (fun z => some (Cond.initialized z.1.2.1.cls)) := by rfl
set_option maxRecDepth 100000 in
theorem xpQ3_6 : (xms_6.zip xmh_6).map (fun z => lw_tbl[z.2.2.2.2.1]?) = (xms_6.zip xmh_6).map (fun z => some (xwdS z)) := by rfl
set_option maxRecDepth 100000 in
theorem xpQ4_6 : (xms_6.zip xmh_6).map (fun z => lw_tbl[xplV z]?) = (xms_6.zip xmh_6).map (fun z => some (xwdV z)) := by rfl
theorem xqQ_6 : (xms_6).all xsdQ = true := by decide +kernel
set_option maxRecDepth 100000 in
theorem xpQ1_7 : (xms_7.zip xmh_7).map (fun z => lw_tbl[z.2.1]?) = (xms_7.zip xmh_7).map (fun z => some (Cond.code z.1.2.1 z.1.2.2.1 z.1.2.2.2.1 z.1.2.2.2.2.1)) := by rfl
set_option maxRecDepth 100000 in
theorem xpQ2_7 : (xms_7.zip xmh_7).map (fun z => lw_tbl[z.2.2.1]?) = (xms_7.zip xmh_7).map (fun z => some (Cond.initialized z.1.2.1.cls)) := by rfl
set_option maxRecDepth 100000 in
theorem xpQ3_7 : (xms_7.zip xmh_7).map (fun z => lw_tbl[z.2.2.2.2.1]?) = (xms_7.zip xmh_7).map (fun z => some (xwdS z)) := by rfl
set_option maxRecDepth 100000 in
theorem xpQ4_7 : (xms_7.zip xmh_7).map (fun z => lw_tbl[xplV z]?) = (xms_7.zip xmh_7).map (fun z => some (xwdV z)) := by rfl
theorem xqQ_7 : (xms_7).all xsdQ = true := by decide +kernel
set_option maxRecDepth 100000 in
theorem xpQ1_8 : (xms_8.zip xmh_8).map (fun z => lw_tbl[z.2.1]?) = (xms_8.zip xmh_8).map (fun z => some (Cond.code z.1.2.1 z.1.2.2.1 z.1.2.2.2.1 z.1.2.2.2.2.1)) := by rfl
set_option maxRecDepth 100000 in
theorem xpQ2_8 : (xms_8.zip xmh_8).map (fun z => lw_tbl[z.2.2.1]?) = (xms_8.zip xmh_8).map (fun z => some (Cond.initialized z.1.2.1.cls)) := by rfl
set_option maxRecDepth 100000 in
theorem xpQ3_8 : (xms_8.zip xmh_8).map (fun z => lw_tbl[z.2.2.2.2.1]?) = (xms_8.zip xmh_8).map (fun z => some (xwdS z)) := by rfl
set_option maxRecDepth 100000 in
theorem xpQ4_8 : (xms_8.zip xmh_8).map (fun z => lw_tbl[xplV z]?) = (xms_8.zip xmh_8).map (fun z => some (xwdV z)) := by rfl
theorem xqQ_8 : (xms_8).all xsdQ = true := by decide +kernel
set_option maxRecDepth 100000 in
theorem xpQ1_9 : (xms_9.zip xmh_9).map (fun z => lw_tbl[z.2.1]?) = (xms_9.zip xmh_9).map (fun z => some (Cond.code z.1.2.1 z.1.2.2.1 z.1.2.2.2.1 z.1.2.2.2.2.1)) := by rfl
set_option maxRecDepth 100000 in
theorem xpQ2_9 : (xms_9.zip xmh_9).map (fun z => lw_tbl[z.2.2.1]?) = (xms_9.zip xmh_9).map (fun z => some (Cond.initialized z.1.2.1.cls)) := by rfl
set_option maxRecDepth 100000 in
theorem xpQ3_9 : (xms_9.zip xmh_9).map (fun z => lw_tbl[z.2.2.2.2.1]?) = (xms_9.zip xmh_9).map (fun z => some (xwdS z)) := by rfl
set_option maxRecDepth 100000 in
theorem xpQ4_9 : (xms_9.zip xmh_9).map (fun z => lw_tbl[xplV z]?) = (xms_9.zip xmh_9).map (fun z => some (xwdV z)) := by rfl
theorem xqQ_9 : (xms_9).all xsdQ = true := by decide +kernel
set_option maxRecDepth 100000 in
theorem xpQ1_10 : (xms_10.zip xmh_10).map (fun z => lw_tbl[z.2.1]?) = (xms_10.zip xmh_10).map (fun z => some (Cond.code z.1.2.1 z.1.2.2.1 z.1.2.2.2.1 z.1.2.2.2.2.1)) := by rfl
set_option maxRecDepth 100000 in
theorem xpQ2_10 : (xms_10.zip xmh_10).map (fun z => lw_tbl[z.2.2.1]?) = (xms_10.zip xmh_10).map (fun z => some (Cond.initialized z.1.2.1.cls)) := by rfl
set_option maxRecDepth 100000 in
theorem xpQ3_10 : (xms_10.zip xmh_10).map (fun z => lw_tbl[z.2.2.2.2.1]?) = (xms_10.zip xmh_10).map (fun z => some (xwdS z)) := by rfl
set_option maxRecDepth 100000 in
theorem xpQ4_10 : (xms_10.zip xmh_10).map (fun z => lw_tbl[xplV z]?) = (xms_10.zip xmh_10).map (fun z => some (xwdV z)) := by rfl
theorem xqQ_10 : (xms_10).all xsdQ = true := by decide +kernel
set_option maxRecDepth 100000 in
theorem xpQ1_11 : (xms_11.zip xmh_11).map (fun z => lw_tbl[z.2.1]?) = (xms_11.zip xmh_11).map (fun z => some (Cond.code z.1.2.1 z.1.2.2.1 z.1.2.2.2.1 z.1.2.2.2.2.1)) := by rfl
set_option maxRecDepth 100000 in
theorem xpQ2_11 : (xms_11.zip xmh_11).map (fun z => lw_tbl[z.2.2.1]?) = (xms_11.zip xmh_11).map (fun z => some (Cond.initialized z.1.2.1.cls)) := by rfl
set_option maxRecDepth 100000 in
theorem xpQ3_11 : (xms_11.zip xmh_11).map (fun z => lw_tbl[z.2.2.2.2.1]?) = (xms_11.zip xmh_11).map (fun z => some (xwdS z)) := by rfl
set_option maxRecDepth 100000 in
theorem xpQ4_11 : (xms_11.zip xmh_11).map (fun z => lw_tbl[xplV z]?) = (xms_11.zip xmh_11).map (fun z => some (xwdV z)) := by rfl
theorem xqQ_11 : (xms_11).all xsdQ = true := by decide +kernel
set_option maxRecDepth 100000 in
theorem xpQ1_12 : (xms_12.zip xmh_12).map (fun z => lw_tbl[z.2.1]?) = (xms_12.zip xmh_12).map (fun z => some (Cond.code z.1.2.1 z.1.2.2.1 z.1.2.2.2.1 z.1.2.2.2.2.1)) := by rfl
set_option maxRecDepth 100000 in
theorem xpQ2_12 : (xms_12.zip xmh_12).map (fun z => lw_tbl[z.2.2.1]?) = (xms_12.zip xmh_12).map (fun z => some (Cond.initialized z.1.2.1.cls)) := by rfl
set_option maxRecDepth 100000 in
theorem xpQ3_12 : (xms_12.zip xmh_12).map (fun z => lw_tbl[z.2.2.2.2.1]?) = (xms_12.zip xmh_12).map (fun z => some (xwdS z)) := by rfl
set_option maxRecDepth 100000 in
theorem xpQ4_12 : (xms_12.zip xmh_12).map (fun z => lw_tbl[xplV z]?) = (xms_12.zip xmh_12).map (fun z => some (xwdV z)) := by rfl
theorem xqQ_12 : (xms_12).all xsdQ = true := by decide +kernel
set_option maxRecDepth 100000 in
theorem xpQ1_13 : (xms_13.zip xmh_13).map (fun z => lw_tbl[z.2.1]?) = (xms_13.zip xmh_13).map (fun z => some (Cond.code z.1.2.1 z.1.2.2.1 z.1.2.2.2.1 z.1.2.2.2.2.1)) := by rfl
set_option maxRecDepth 100000 in
theorem xpQ2_13 : (xms_13.zip xmh_13).map (fun z => lw_tbl[z.2.2.1]?) = (xms_13.zip xmh_13).map (fun z => some (Cond.initialized z.1.2.1.cls)) := by rfl
set_option maxRecDepth 100000 in
theorem xpQ3_13 : (xms_13.zip xmh_13).map (fun z => lw_tbl[z.2.2.2.2.1]?) = (xms_13.zip xmh_13).map (fun z => some (xwdS z)) := by rfl
set_option maxRecDepth 100000 in
theorem xpQ4_13 : (xms_13.zip xmh_13).map (fun z => lw_tbl[xplV z]?) = (xms_13.zip xmh_13).map (fun z => some (xwdV z)) := by rfl
theorem xqQ_13 : (xms_13).all xsdQ = true := by decide +kernel
set_option maxRecDepth 100000 in
theorem xpQ1_14 : (xms_14.zip xmh_14).map (fun z => lw_tbl[z.2.1]?) = (xms_14.zip xmh_14).map (fun z => some (Cond.code z.1.2.1 z.1.2.2.1 z.1.2.2.2.1 z.1.2.2.2.2.1)) := by rfl
set_option maxRecDepth 100000 in
theorem xpQ2_14 : (xms_14.zip xmh_14).map (fun z => lw_tbl[z.2.2.1]?) = (xms_14.zip xmh_14).map (fun z => some (Cond.initialized z.1.2.1.cls)) := by rfl
set_option maxRecDepth 100000 in
theorem xpQ3_14 : (xms_14.zip xmh_14).map (fun z => lw_tbl[z.2.2.2.2.1]?) = (xms_14.zip xmh_14).map (fun z => some (xwdS z)) := by rfl
set_option maxRecDepth 100000 in
theorem xpQ4_14 : (xms_14.zip xmh_14).map (fun z => lw_tbl[xplV z]?) = (xms_14.zip xmh_14).map (fun z => some (xwdV z)) := by rfl
theorem xqQ_14 : (xms_14).all xsdQ = true := by decide +kernel
set_option maxRecDepth 100000 in
theorem xpQ1_15 : (xms_15.zip xmh_15).map (fun z => lw_tbl[z.2.1]?) = (xms_15.zip xmh_15).map (fun z => some (Cond.code z.1.2.1 z.1.2.2.1 z.1.2.2.2.1 z.1.2.2.2.2.1)) := by rfl
set_option maxRecDepth 100000 in
theorem xpQ2_15 : (xms_15.zip xmh_15).map (fun z => lw_tbl[z.2.2.1]?) = (xms_15.zip xmh_15).map (fun z => some (Cond.initialized z.1.2.1.cls)) := by rfl
set_option maxRecDepth 100000 in
theorem xpQ3_15 : (xms_15.zip xmh_15).map (fun z => lw_tbl[z.2.2.2.2.1]?) = (xms_15.zip xmh_15).map (fun z => some (xwdS z)) := by rfl
set_option maxRecDepth 100000 in
theorem xpQ4_15 : (xms_15.zip xmh_15).map (fun z => lw_tbl[xplV z]?) = (xms_15.zip xmh_15).map (fun z => some (xwdV z)) := by rfl
theorem xqQ_15 : (xms_15).all xsdQ = true := by decide +kernel
set_option maxRecDepth 100000 in
theorem xpQ1_16 : ((xms_16.zip xmh_16).take 10).map (fun z => lw_tbl[z.2.1]?) = ((xms_16.zip xmh_16).take 10).map (fun z => some (Cond.code z.1.2.1 z.1.2.2.1 z.1.2.2.2.1 z.1.2.2.2.2.1)) := by rfl
set_option maxRecDepth 100000 in
theorem xpQ2_16 : ((xms_16.zip xmh_16).take 10).map (fun z => lw_tbl[z.2.2.1]?) = ((xms_16.zip xmh_16).take 10).map (fun z => some (Cond.initialized z.1.2.1.cls)) := by rfl
set_option maxRecDepth 100000 in
theorem xpQ3_16 : ((xms_16.zip xmh_16).take 10).map (fun z => lw_tbl[z.2.2.2.2.1]?) = ((xms_16.zip xmh_16).take 10).map (fun z => some (xwdS z)) := by rfl
set_option maxRecDepth 100000 in
theorem xpQ4_16 : ((xms_16.zip xmh_16).take 10).map (fun z => lw_tbl[xplV z]?) = ((xms_16.zip xmh_16).take 10).map (fun z => some (xwdV z)) := by rfl
theorem xqQ_16 : (xms_16.take 10).all xsdQ = true := by decide +kernel
