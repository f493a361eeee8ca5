set_option maxRecDepth 100000 in
theorem xpF_0 : xcpF_0.map (fun c => lw_tbl[c.2.1]?) = xcpF_0.map (fun c => some (xwdF RX0 c)) := by rfl
set_option maxRecDepth 100000 in
theorem xpF_1 : xcpF_1.map (fun c => lw_tbl[c.2.1]?) = xcpF_1.map (fun c => some (xwdF RX1 c)) := by rfl
set_option maxRecDepth 100000 in
theorem xpF_2 : xcpF_2.map (fun c => lw_tbl[c.2.1]?) = xcpF_2.map (fun c => some (xwdF RX2 c)) := by rfl
set_option maxRecDepth 100000 in
theorem xpF_3 : xcpF_3.map (fun c => lw_tbl[c.2.1]?) = xcpF_3.map (fun c => some (xwdF RX3 c)) := by rfl
set_option maxRecDepth 100000 in
theorem xpF_4 : xcpF_4.map (fun c => lw_tbl[c.2.1]?) = xcpF_4.map (fun c => some (xwdF RX4 c)) := by rfl
set_option maxRecDepth 100000 in
theorem xpF_5 : xcpF_5.map (fun c => lw_tbl[c.2.1]?) = xcpF_5.map (fun c => some (xwdF RX5 c)) := by rfl
set_option maxRecDepth 100000 in
theorem xpF_6 : xcpF_6.map (fun c => lw_tbl[c.2.1]?) = xcpF_6.map (fun c => some (xwdF RX6 c)) := by rfl
set_option maxRecDepth 100000 in
theorem xpF_7 : xcpF_7.map (fun c => lw_tbl[c.2.1]?) = xcpF_7.map (fun c => some (xwdF RX7 c)) := by rfl
set_option maxRecDepth 100000 in
theorem xpF_8 : xcpF_8.map (fun c => lw_tbl[c.2.1]?) = xcpF_8.map (fun c => some (xwdF RX8 c)) := by rfl
set_option maxRecDepth 100000 in
theorem xpF_9 : xcpF_9.map (fun c => lw_tbl[c.2.1]?) = xcpF_9.map (fun c => some (xwdF RX9 c)) := by rfl
set_option maxRecDepth 100000 in
theorem xpF_10 : xcpF_10.map (fun c => lw_tbl[c.2.1]?) = xcpF_10.map (fun c => some (xwdF RX10 c)) := by rfl
set_option maxRecDepth 100000 in
theorem xpF_11 : xcpF_11.map (fun c => lw_tbl[c.2.1]?) = xcpF_11.map (fun c => some (xwdF RX11 c)) := by rfl
set_option maxRecDepth 100000 in
theorem xpF_12 : xcpF_12.map (fun c => lw_tbl[c.2.1]?) = xcpF_12.map (fun c => some (xwdF RX12 c)) := by rfl
set_option maxRecDepth 100000 in
theorem xpF_13 : xcpF_13.map (fun c => lw_tbl[c.2.1]?) = xcpF_13.map (fun c => some (xwdF RL c)) := by rfl
set_option maxRecDepth 100000 in
theorem xpF_14 : xcpF_14.map (fun c => lw_tbl[c.2.1]?) = xcpF_14.map (fun c => some (xwdF RJ6 c)) := by rfl
set_option maxRecDepth 100000 in
theorem xpF_15 : xcpF_15.map (fun c => lw_tbl[c.2.1]?) = xcpF_15.map (fun c => some (xwdF RJ7 c)) := by rfl
set_option maxRecDepth 100000 in
theorem xpM_0 : xcpM_0.map (fun c => lw_tbl[c.2.1]?) = xcpM_0.map (fun c => some (xwdM RX0 c)) := by rfl
set_option maxRecDepth 100000 in
theorem xpM_1 : xcpM_1.map (fun c => lw_tbl[c.2.1]?) = xcpM_1.map (fun c => some (xwdM RX1 c)) := by rfl
set_option maxRecDepth 100000 in
theorem xpM_2 : xcpM_2.map (fun c => lw_tbl[c.2.1]?) = xcpM_2.map (fun c => some (xwdM RX2 c)) := by rfl
set_option maxRecDepth 100000 in
theorem xpM_3 : xcpM_3.map (fun c => lw_tbl[c.2.1]?) = xcpM_3.map (fun c => some (xwdM RX3 c)) := by rfl
set_option maxRecDepth 100000 in
theorem xpM_4 : xcpM_4.map (fun c => lw_tbl[c.2.1]?) = xcpM_4.map (fun c => some (xwdM RX4 c)) := by rfl
set_option maxRecDepth 100000 in
theorem xpM_5 : xcpM_5.map (fun c => lw_tbl[c.2.1]?) = xcpM_5.map (fun c => some (xwdM RX5 c)) := by rfl
set_option maxRecDepth 100000 in
theorem xpM_6 : xcpM_6.map (fun c => lw_tbl[c.2.1]?) = xcpM_6.map (fun c => some (xwdM RX6 c)) := by rfl
set_option maxRecDepth 100000 in
theorem xpM_7 : xcpM_7.map (fun c => lw_tbl[c.2.1]?) = xcpM_7.map (fun c => some (xwdM RX7 c)) := by rfl
set_option maxRecDepth 100000 in
theorem xpM_8 : xcpM_8.map (fun c => lw_tbl[c.2.1]?) = xcpM_8.map (fun c => some (xwdM RX8 c)) := by rfl
set_option maxRecDepth 100000 in
theorem xpM_9 : xcpM_9.map (fun c => lw_tbl[c.2.1]?) = xcpM_9.map (fun c => some (xwdM RX9 c)) := by rfl
set_option maxRecDepth 100000 in
theorem xpM_10 : xcpM_10.map (fun c => lw_tbl[c.2.1]?) = xcpM_10.map (fun c => some (xwdM RX10 c)) := by rfl
set_option maxRecDepth 100000 in
theorem xpM_11 : xcpM_11.map (fun c => lw_tbl[c.2.1]?) = xcpM_11.map (fun c => some (xwdM RX11 c)) := by rfl
set_option maxRecDepth 100000 in
theorem xpM_12 : xcpM_12.map (fun c => lw_tbl[c.2.1]?) = xcpM_12.map (fun c => some (xwdM RX12 c)) := by rfl
set_option maxRecDepth 100000 in
theorem xpM_13 : xcpM_13.map (fun c => lw_tbl[c.2.1]?) = xcpM_13.map (fun c => some (xwdM RL c)) := by rfl
set_option maxRecDepth 100000 in
theorem xpM_14 : xcpM_14.map (fun c => lw_tbl[c.2.1]?) = xcpM_14.map (fun c => some (xwdM RJ6 c)) := by rfl
set_option maxRecDepth 100000 in
theorem xpM_15 : xcpM_15.map (fun c => lw_tbl[c.2.1]?) = xcpM_15.map (fun c => some (xwdM RJ7 c)) := by rfl
set_option maxRecDepth 100000 in
theorem xpC_0 : xcpC_0.map (fun c => lw_tbl[c.2.1]?) = xcpC_0.map (fun c => some (xwdC RX0 c)) := by rfl
set_option maxRecDepth 100000 in
theorem xpC_1 : xcpC_1.map (fun c => lw_tbl[c.2.1]?) = xcpC_1.map (fun c => some (xwdC RX1 c)) := by rfl
set_option maxRecDepth 100000 in
theorem xpC_2 : xcpC_2.map (fun c => lw_tbl[c.2.1]?) = xcpC_2.map (fun c => some (xwdC RX2 c)) := by rfl
set_option maxRecDepth 100000 in
theorem xpC_3 : xcpC_3.map (fun c => lw_tbl[c.2.1]?) = xcpC_3.map (fun c => some (xwdC RX3 c)) := by rfl
set_option maxRecDepth 100000 in
theorem xpC_4 : xcpC_4.map (fun c => lw_tbl[c.2.1]?) = xcpC_4.map (fun c => some (xwdC RX4 c)) := by rfl
set_option maxRecDepth 100000 in
theorem xpC_5 : xcpC_5.map (fun c => lw_tbl[c.2.1]?) = xcpC_5.map (fun c => some (xwdC RX5 c)) := by rfl
set_option maxRecDepth 100000 in
theorem xpC_6 : xcpC_6.map (fun c => lw_tbl[c.2.1]?) = xcpC_6.map (fun c => some (xwdC RX6 c)) := by rfl
set_option maxRecDepth 100000 in
theorem xpC_7 : xcpC_7.map (fun c => lw_tbl[c.2.1]?) = xcpC_7.map (fun c => some (xwdC RX7 c)) := by rfl
set_option maxRecDepth 100000 in
theorem xpC_8 : xcpC_8.map (fun c => lw_tbl[c.2.1]?) = xcpC_8.map (fun c => some (xwdC RX8 c)) := by rfl
set_option maxRecDepth 100000 in
theorem xpC_9 : xcpC_9.map (fun c => lw_tbl[c.2.1]?) = xcpC_9.map (fun c => some (xwdC RX9 c)) := by rfl
set_option maxRecDepth 100000 in
theorem xpC_10 : xcpC_10.map (fun c => lw_tbl[c.2.1]?) = xcpC_10.map (fun c => some (xwdC RX10 c)) := by rfl
set_option maxRecDepth 100000 in
theorem xpC_11 : xcpC_11.map (fun c => lw_tbl[c.2.1]?) = xcpC_11.map (fun c => some (xwdC RX11 c)) := by rfl
set_option maxRecDepth 100000 in
theorem xpC_12 : xcpC_12.map (fun c => lw_tbl[c.2.1]?) = xcpC_12.map (fun c => some (xwdC RX12 c)) := by rfl
set_option maxRecDepth 100000 in
theorem xpC_13 : xcpC_13.map (fun c => lw_tbl[c.2.1]?) = xcpC_13.map (fun c => some (xwdC RL c)) := by rfl
set_option maxRecDepth 100000 in
theorem xpC_14 : xcpC_14.map (fun c => lw_tbl[c.2.1]?) = xcpC_14.map (fun c => some (xwdC RJ6 c)) := by rfl
set_option maxRecDepth 100000 in
theorem xpC_15 : xcpC_15.map (fun c => lw_tbl[c.2.1]?) = xcpC_15.map (fun c => some (xwdC RJ7 c)) := by rfl
set_option maxRecDepth 100000 in
theorem xpK_0 : xcpK_0.map (fun c => lw_tbl[c.2.1]?) = xcpK_0.map (fun c => some (xwdK RX0 c)) := by rfl
set_option maxRecDepth 100000 in
theorem xpK_1 : xcpK_1.map (fun c => lw_tbl[c.2.1]?) = xcpK_1.map (fun c => some (xwdK RX1 c)) := by rfl
set_option maxRecDepth 100000 in
theorem xpK_2 : xcpK_2.map (fun c => lw_tbl[c.2.1]?) = xcpK_2.map (fun c => some (xwdK RX2 c)) := by rfl
set_option maxRecDepth 100000 in
theorem xpK_3 : xcpK_3.map (fun c => lw_tbl[c.2.1]?) = xcpK_3.map (fun c => some (xwdK RX3 c)) := by rfl
set_option maxRecDepth 100000 in
theorem xpK_4 : xcpK_4.map (fun c => lw_tbl[c.2.1]?) = xcpK_4.map (fun c => some (xwdK RX4 c)) := by rfl
set_option maxRecDepth 100000 in
theorem xpK_5 : xcpK_5.map (fun c => lw_tbl[c.2.1]?) = xcpK_5.map (fun c => some (xwdK RX5 c)) := by rfl
set_option maxRecDepth 100000 in
theorem xpK_6 : xcpK_6.map (fun c => lw_tbl[c.2.1]?) = xcpK_6.map (fun c => some (xwdK RX6 c)) := by rfl
set_option maxRecDepth 100000 in
theorem xpK_7 : xcpK_7.map (fun c => lw_tbl[c.2.1]?) = xcpK_7.map (fun c => some (xwdK RX7 c)) := by rfl
set_option maxRecDepth 100000 in
theorem xpK_8 : xcpK_8.map (fun c => lw_tbl[c.2.1]?) = xcpK_8.map (fun c => some (xwdK RX8 c)) := by rfl
set_option maxRecDepth 100000 in
theorem xpK_9 : xcpK_9.map (fun c => lw_tbl[c.2.1]?) = xcpK_9.map (fun c => some (xwdK RX9 c)) := by rfl
set_option maxRecDepth 100000 in
theorem xpK_10 : xcpK_10.map (fun c => lw_tbl[c.2.1]?) = xcpK_10.map (fun c => some (xwdK RX10 c)) := by rfl
set_option maxRecDepth 100000 in
theorem xpK_11 : xcpK_11.map (fun c => lw_tbl[c.2.1]?) = xcpK_11.map (fun c => some (xwdK RX11 c)) := by rfl
set_option maxRecDepth 100000 in
theorem xpK_12 : xcpK_12.map (fun c => lw_tbl[c.2.1]?) = xcpK_12.map (fun c => some (xwdK RX12 c)) := by rfl
set_option maxRecDepth 100000 in
theorem xpK_13 : xcpK_13.map (fun c => lw_tbl[c.2.1]?) = xcpK_13.map (fun c => some (xwdK RL c)) := by rfl
set_option maxRecDepth 100000 in
theorem xpK_14 : xcpK_14.map (fun c => lw_tbl[c.2.1]?) = xcpK_14.map (fun c => some (xwdK RJ6 c)) := by rfl
set_option maxRecDepth 100000 in
theorem xpK_15 : xcpK_15.map (fun c => lw_tbl[c.2.1]?) = xcpK_15.map (fun c => some (xwdK RJ7 c)) := by rfl
theorem xqF_0 : xcpF_0.all xsdF = true := by decide +kernel
theorem xqF_1 : xcpF_1.all xsdF = true := by decide +kernel
theorem xqF_2 : xcpF_2.all xsdF = true := by decide +kernel
theorem xqF_3 : xcpF_3.all xsdF = true := by decide +kernel
theorem xqF_4 : xcpF_4.all xsdF = true := by decide +kernel
theorem xqF_5 : xcpF_5.all xsdF = true := by decide +kernel
theorem xqF_6 : xcpF_6.all xsdF = true := by decide +kernel
theorem xqF_7 : xcpF_7.all xsdF = true := by decide +kernel
theorem xqF_8 : xcpF_8.all xsdF = true := by decide +kernel
theorem xqF_9 : xcpF_9.all xsdF = true := by decide +kernel
theorem xqF_10 : xcpF_10.all xsdF = true := by decide +kernel
theorem xqF_11 : xcpF_11.all xsdF = true := by decide +kernel
theorem xqF_12 : xcpF_12.all xsdF = true := by decide +kernel
theorem xqF_13 : xcpF_13.all xsdF = true := by decide +kernel
theorem xqF_14 : xcpF_14.all xsdF = true := by decide +kernel
theorem xqF_15 : xcpF_15.all xsdF = true := by decide +kernel
theorem xqM_0 : xcpM_0.all xsdM = true := by decide +kernel
theorem xqM_1 : xcpM_1.all xsdM = true := by decide +kernel
theorem xqM_2 : xcpM_2.all xsdM = true := by decide +kernel
theorem xqM_3 : xcpM_3.all xsdM = true := by decide +kernel
theorem xqM_4 : xcpM_4.all xsdM = true := by decide +kernel
theorem xqM_5 : xcpM_5.all xsdM = true := by decide +kernel
theorem xqM_6 : xcpM_6.all xsdM = true := by decide +kernel
theorem xqM_7 : xcpM_7.all xsdM = true := by decide +kernel
theorem xqM_8 : xcpM_8.all xsdM = true := by decide +kernel
theorem xqM_9 : xcpM_9.all xsdM = true := by decide +kernel
theorem xqM_10 : xcpM_10.all xsdM = true := by decide +kernel
theorem xqM_11 : xcpM_11.all xsdM = true := by decide +kernel
theorem xqM_12 : xcpM_12.all xsdM = true := by decide +kernel
theorem xqM_13 : xcpM_13.all xsdM = true := by decide +kernel
theorem xqM_14 : xcpM_14.all xsdM = true := by decide +kernel
theorem xqM_15 : xcpM_15.all xsdM = true := by decide +kernel
theorem xqC_0 : xcpC_0.all xsdC = true := by decide +kernel
theorem xqC_1 : xcpC_1.all xsdC = true := by decide +kernel
theorem xqC_2 : xcpC_2.all xsdC = true := by decide +kernel
theorem xqC_3 : xcpC_3.all xsdC = true := by decide +kernel
theorem xqC_4 : xcpC_4.all xsdC = true := by decide +kernel
theorem xqC_5 : xcpC_5.all xsdC = true := by decide +kernel
theorem xqC_6 : xcpC_6.all xsdC = true := by decide +kernel
theorem xqC_7 : xcpC_7.all xsdC = true := by decide +kernel
theorem xqC_8 : xcpC_8.all xsdC = true := by decide +kernel
theorem xqC_9 : xcpC_9.all xsdC = true := by decide +kernel
theorem xqC_10 : xcpC_10.all xsdC = true := by decide +kernel
theorem xqC_11 : xcpC_11.all xsdC = true := by decide +kernel
theorem xqC_12 : xcpC_12.all xsdC = true := by decide +kernel
theorem xqC_13 : xcpC_13.all xsdC = true := by decide +kernel
theorem xqC_14 : xcpC_14.all xsdC = true := by decide +kernel
theorem xqC_15 : xcpC_15.all xsdC = true := by decide +kernel
set_option maxRecDepth 100000 in
theorem xpH1 : (vwCl.zip xch).map (fun z => lw_tbl[z.2.1]?) = (vwCl.zip xch).map (fun z => some (Cond.instantiable z.1.1 z.1.2.2)) := by rfl
set_option maxRecDepth 100000 in
theorem xpH2 : (vwCl.zip xch).map (fun z => lw_tbl[z.2.2]?) = (vwCl.zip xch).map (fun z => some (Cond.initialized z.1.1)) := by rfl
