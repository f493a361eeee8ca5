abbrev xqL : xMI := (RL, yL_law, cL_law, 4, (some .boolean), xt_L_law)
theorem xkl_0 : ((xt_L_law.drop 0).take 40).all (fun z => xokE 13 xqL z.1 z.2) = true := by decide +kernel
theorem xkl_1 : ((xt_L_law.drop 40).take 40).all (fun z => xokE 13 xqL z.1 z.2) = true := by decide +kernel
theorem xkl_2 : ((xt_L_law.drop 80).take 40).all (fun z => xokE 13 xqL z.1 z.2) = true := by decide +kernel
theorem xkl_3 : ((xt_L_law.drop 120).take 40).all (fun z => xokE 13 xqL z.1 z.2) = true := by decide +kernel
theorem xkl_4 : ((xt_L_law.drop 160).take 40).all (fun z => xokE 13 xqL z.1 z.2) = true := by decide +kernel
theorem xkl_5 : ((xt_L_law.drop 200).take 40).all (fun z => xokE 13 xqL z.1 z.2) = true := by decide +kernel
theorem xkl_6 : ((xt_L_law.drop 240).take 40).all (fun z => xokE 13 xqL z.1 z.2) = true := by decide +kernel
theorem xkl_7 : ((xt_L_law.drop 280).take 40).all (fun z => xokE 13 xqL z.1 z.2) = true := by decide +kernel
theorem xkl_8 : ((xt_L_law.drop 320).take 40).all (fun z => xokE 13 xqL z.1 z.2) = true := by decide +kernel
theorem xkl_9 : ((xt_L_law.drop 360).take 40).all (fun z => xokE 13 xqL z.1 z.2) = true := by decide +kernel
theorem xkl_10 : ((xt_L_law.drop 400).take 40).all (fun z => xokE 13 xqL z.1 z.2) = true := by decide +kernel
theorem xkl_11 : ((xt_L_law.drop 440).take 40).all (fun z => xokE 13 xqL z.1 z.2) = true := by decide +kernel
theorem xkl_12 : ((xt_L_law.drop 480).take 40).all (fun z => xokE 13 xqL z.1 z.2) = true := by decide +kernel
theorem xkl_13 : ((xt_L_law.drop 520).take 40).all (fun z => xokE 13 xqL z.1 z.2) = true := by decide +kernel
theorem xkl_14 : ((xt_L_law.drop 560).take 40).all (fun z => xokE 13 xqL z.1 z.2) = true := by decide +kernel
theorem xkl_15 : ((xt_L_law.drop 600).take 40).all (fun z => xokE 13 xqL z.1 z.2) = true := by decide +kernel
theorem xkl_16 : ((xt_L_law.drop 640).take 40).all (fun z => xokE 13 xqL z.1 z.2) = true := by decide +kernel
theorem xkl_17 : ((xt_L_law.drop 680).take 40).all (fun z => xokE 13 xqL z.1 z.2) = true := by decide +kernel
theorem xkl_18 : ((xt_L_law.drop 720).take 40).all (fun z => xokE 13 xqL z.1 z.2) = true := by decide +kernel
theorem xkl_19 : ((xt_L_law.drop 760).take 40).all (fun z => xokE 13 xqL z.1 z.2) = true := by decide +kernel
theorem xkl_20 : ((xt_L_law.drop 800).take 40).all (fun z => xokE 13 xqL z.1 z.2) = true := by decide +kernel
theorem xkl_21 : ((xt_L_law.drop 840).take 40).all (fun z => xokE 13 xqL z.1 z.2) = true := by decide +kernel
theorem xkl_22 : ((xt_L_law.drop 880).take 40).all (fun z => xokE 13 xqL z.1 z.2) = true := by decide +kernel
theorem xall_cut {α : Type} {p : α → Bool} {t : List α} {n k : Nat} (h1 : ((t.drop n).take k).all p = true) (h2 : (t.drop (n + k)).all p = true) : (t.drop n).all p = true := by
  rw [← List.take_append_drop k (t.drop n), List.all_append, h1, List.drop_drop, h2]
  rfl
set_option maxRecDepth 100000 in
theorem xk_L_law : xokQ 13 xqL = true := by
  unfold xokQ
  rw [show decide (xqL.1 = xown 13) = true from rfl, Bool.true_and]
  have h := (xall_cut (n := 0) (k := 40) xkl_0 (xall_cut (n := 40) (k := 40) xkl_1 (xall_cut (n := 80) (k := 40) xkl_2 (xall_cut (n := 120) (k := 40) xkl_3 (xall_cut (n := 160) (k := 40) xkl_4 (xall_cut (n := 200) (k := 40) xkl_5 (xall_cut (n := 240) (k := 40) xkl_6 (xall_cut (n := 280) (k := 40) xkl_7 (xall_cut (n := 320) (k := 40) xkl_8 (xall_cut (n := 360) (k := 40) xkl_9 (xall_cut (n := 400) (k := 40) xkl_10 (xall_cut (n := 440) (k := 40) xkl_11 (xall_cut (n := 480) (k := 40) xkl_12 (xall_cut (n := 520) (k := 40) xkl_13 (xall_cut (n := 560) (k := 40) xkl_14 (xall_cut (n := 600) (k := 40) xkl_15 (xall_cut (n := 640) (k := 40) xkl_16 (xall_cut (n := 680) (k := 40) xkl_17 (xall_cut (n := 720) (k := 40) xkl_18 (xall_cut (n := 760) (k := 40) xkl_19 (xall_cut (n := 800) (k := 40) xkl_20 (xall_cut (n := 840) (k := 40) xkl_21 (xall_cut (n := 880) (k := 40) xkl_22 (by rfl))))))))))))))))))))))))
  rw [List.drop_zero] at h
  exact h
