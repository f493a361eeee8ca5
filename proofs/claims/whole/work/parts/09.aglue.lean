theorem xF_place (cn : Nat) : ∀ c ∈ xcpF cn, xwdF (xown cn) c ∈ lw_tbl := by
  intro c hc
  unfold xcpF at hc
  split at hc
  · exact xplace xpF_0 c hc
  · exact xplace xpF_1 c hc
  · exact xplace xpF_2 c hc
  · exact xplace xpF_3 c hc
  · exact xplace xpF_4 c hc
  · exact xplace xpF_5 c hc
  · exact xplace xpF_6 c hc
  · exact xplace xpF_7 c hc
  · exact xplace xpF_8 c hc
  · exact xplace xpF_9 c hc
  · exact xplace xpF_10 c hc
  · exact xplace xpF_11 c hc
  · exact xplace xpF_12 c hc
  · exact xplace xpF_13 c hc
  · exact xplace xpF_14 c hc
  · exact xplace xpF_15 c hc
  · cases hc
theorem xM_place (cn : Nat) : ∀ c ∈ xcpM cn, xwdM (xown cn) c ∈ lw_tbl := by
  intro c hc
  unfold xcpM at hc
  split at hc
  · exact xplace xpM_0 c hc
  · exact xplace xpM_1 c hc
  · exact xplace xpM_2 c hc
  · exact xplace xpM_3 c hc
  · exact xplace xpM_4 c hc
  · exact xplace xpM_5 c hc
  · exact xplace xpM_6 c hc
  · exact xplace xpM_7 c hc
  · exact xplace xpM_8 c hc
  · exact xplace xpM_9 c hc
  · exact xplace xpM_10 c hc
  · exact xplace xpM_11 c hc
  · exact xplace xpM_12 c hc
  · exact xplace xpM_13 c hc
  · exact xplace xpM_14 c hc
  · exact xplace xpM_15 c hc
  · cases hc
theorem xC_place (cn : Nat) : ∀ c ∈ xcpC cn, xwdC (xown cn) c ∈ lw_tbl := by
  intro c hc
  unfold xcpC at hc
  split at hc
  · exact xplace xpC_0 c hc
  · exact xplace xpC_1 c hc
  · exact xplace xpC_2 c hc
  · exact xplace xpC_3 c hc
  · exact xplace xpC_4 c hc
  · exact xplace xpC_5 c hc
  · exact xplace xpC_6 c hc
  · exact xplace xpC_7 c hc
  · exact xplace xpC_8 c hc
  · exact xplace xpC_9 c hc
  · exact xplace xpC_10 c hc
  · exact xplace xpC_11 c hc
  · exact xplace xpC_12 c hc
  · exact xplace xpC_13 c hc
  · exact xplace xpC_14 c hc
  · exact xplace xpC_15 c hc
  · cases hc
theorem xK_place (cn : Nat) : ∀ c ∈ xcpK cn, xwdK (xown cn) c ∈ lw_tbl := by
  intro c hc
  unfold xcpK at hc
  split at hc
  · exact xplace xpK_0 c hc
  · exact xplace xpK_1 c hc
  · exact xplace xpK_2 c hc
  · exact xplace xpK_3 c hc
  · exact xplace xpK_4 c hc
  · exact xplace xpK_5 c hc
  · exact xplace xpK_6 c hc
  · exact xplace xpK_7 c hc
  · exact xplace xpK_8 c hc
  · exact xplace xpK_9 c hc
  · exact xplace xpK_10 c hc
  · exact xplace xpK_11 c hc
  · exact xplace xpK_12 c hc
  · exact xplace xpK_13 c hc
  · exact xplace xpK_14 c hc
  · exact xplace xpK_15 c hc
  · cases hc
theorem xF_side (cn : Nat) : ∀ c ∈ xcpF cn, xsdF c = true := by
  intro c hc
  unfold xcpF at hc
  split at hc
  · exact List.all_eq_true.mp xqF_0 c hc
  · exact List.all_eq_true.mp xqF_1 c hc
  · exact List.all_eq_true.mp xqF_2 c hc
  · exact List.all_eq_true.mp xqF_3 c hc
  · exact List.all_eq_true.mp xqF_4 c hc
  · exact List.all_eq_true.mp xqF_5 c hc
  · exact List.all_eq_true.mp xqF_6 c hc
  · exact List.all_eq_true.mp xqF_7 c hc
  · exact List.all_eq_true.mp xqF_8 c hc
  · exact List.all_eq_true.mp xqF_9 c hc
  · exact List.all_eq_true.mp xqF_10 c hc
  · exact List.all_eq_true.mp xqF_11 c hc
  · exact List.all_eq_true.mp xqF_12 c hc
  · exact List.all_eq_true.mp xqF_13 c hc
  · exact List.all_eq_true.mp xqF_14 c hc
  · exact List.all_eq_true.mp xqF_15 c hc
  · cases hc
theorem xM_side (cn : Nat) : ∀ c ∈ xcpM cn, xsdM c = true := by
  intro c hc
  unfold xcpM at hc
  split at hc
  · exact List.all_eq_true.mp xqM_0 c hc
  · exact List.all_eq_true.mp xqM_1 c hc
  · exact List.all_eq_true.mp xqM_2 c hc
  · exact List.all_eq_true.mp xqM_3 c hc
  · exact List.all_eq_true.mp xqM_4 c hc
  · exact List.all_eq_true.mp xqM_5 c hc
  · exact List.all_eq_true.mp xqM_6 c hc
  · exact List.all_eq_true.mp xqM_7 c hc
  · exact List.all_eq_true.mp xqM_8 c hc
  · exact List.all_eq_true.mp xqM_9 c hc
  · exact List.all_eq_true.mp xqM_10 c hc
  · exact List.all_eq_true.mp xqM_11 c hc
  · exact List.all_eq_true.mp xqM_12 c hc
  · exact List.all_eq_true.mp xqM_13 c hc
  · exact List.all_eq_true.mp xqM_14 c hc
  · exact List.all_eq_true.mp xqM_15 c hc
  · cases hc
theorem xC_side (cn : Nat) : ∀ c ∈ xcpC cn, xsdC c = true := by
  intro c hc
  unfold xcpC at hc
  split at hc
  · exact List.all_eq_true.mp xqC_0 c hc
  · exact List.all_eq_true.mp xqC_1 c hc
  · exact List.all_eq_true.mp xqC_2 c hc
  · exact List.all_eq_true.mp xqC_3 c hc
  · exact List.all_eq_true.mp xqC_4 c hc
  · exact List.all_eq_true.mp xqC_5 c hc
  · exact List.all_eq_true.mp xqC_6 c hc
  · exact List.all_eq_true.mp xqC_7 c hc
  · exact List.all_eq_true.mp xqC_8 c hc
  · exact List.all_eq_true.mp xqC_9 c hc
  · exact List.all_eq_true.mp xqC_10 c hc
  · exact List.all_eq_true.mp xqC_11 c hc
  · exact List.all_eq_true.mp xqC_12 c hc
  · exact List.all_eq_true.mp xqC_13 c hc
  · exact List.all_eq_true.mp xqC_14 c hc
  · exact List.all_eq_true.mp xqC_15 c hc
  · cases hc
theorem xzip_get {α β : Type} {l : List α} {r : List β} {i : Nat} {a : α} {b : β} (h1 : l[i]? = some a) (h2 : r[i]? = some b) : (a, b) ∈ l.zip r := by
  refine List.mem_of_getElem? (i := i) ?_
  rw [List.getElem?_zip_eq_some]
  exact ⟨h1, h2⟩
theorem xH_place {ci : Nat} {C : String} {T : u_T} {N : Nat} (h : vwCl[ci]? = some (C, T, N)) : Cond.instantiable C N ∈ lw_tbl ∧ Cond.initialized C ∈ lw_tbl := by
  have hl : ci < 13 := (List.getElem?_eq_some_iff.mp h).1
  obtain ⟨b, hb⟩ : ∃ b, xch[ci]? = some b := ⟨_, List.getElem?_eq_getElem (show ci < xch.length from hl)⟩
  have hm := xzip_get h hb
  exact ⟨xplace xpH1 _ hm, xplace xpH2 _ hm⟩
/-- the methods' words by chunks -/
def xQw (t : xMI) (c : xCE) : Prop := Cond.code t.2.1 t.2.2.1 t.2.2.2.1 t.2.2.2.2.1 ∈ lw_tbl ∧ Cond.initialized t.2.1.cls ∈ lw_tbl ∧ xwdS (t, c) ∈ lw_tbl ∧ xwdV (t, c) ∈ lw_tbl ∧ xsdQ t = true
theorem xQc_0 {i : Nat} {t : xMI} {b : xCE} (h1 : xms_0[i]? = some t) (h2 : xmh_0[i]? = some b) : xQw t b := by
  have hm := xzip_get h1 h2
  exact ⟨xplace xpQ1_0 _ hm, xplace xpQ2_0 _ hm, xplace xpQ3_0 _ hm, xplace xpQ4_0 _ hm, List.all_eq_true.mp xqQ_0 _ (List.mem_of_getElem? h1)⟩
theorem xQc_1 {i : Nat} {t : xMI} {b : xCE} (h1 : xms_1[i]? = some t) (h2 : xmh_1[i]? = some b) : xQw t b := by
  have hm := xzip_get h1 h2
  exact ⟨xplace xpQ1_1 _ hm, xplace xpQ2_1 _ hm, xplace xpQ3_1 _ hm, xplace xpQ4_1 _ hm, List.all_eq_true.mp xqQ_1 _ (List.mem_of_getElem? h1)⟩
theorem xQc_2 {i : Nat} {t : xMI} {b : xCE} (h1 : xms_2[i]? = some t) (h2 : xmh_2[i]? = some b) : xQw t b := by
  have hm := xzip_get h1 h2
  exact ⟨xplace xpQ1_2 _ hm, xplace xpQ2_2 _ hm, xplace xpQ3_2 _ hm, xplace xpQ4_2 _ hm, List.all_eq_true.mp xqQ_2 _ (List.mem_of_getElem? h1)⟩
theorem xQc_3 {i : Nat} {t : xMI} {b : xCE} (h1 : xms_3[i]? = some t) (h2 : xmh_3[i]? = some b) : xQw t b := by
  have hm := xzip_get h1 h2
  exact ⟨xplace xpQ1_3 _ hm, xplace xpQ2_3 _ hm, xplace xpQ3_3 _ hm, xplace xpQ4_3 _ hm, List.all_eq_true.mp xqQ_3 _ (List.mem_of_getElem? h1)⟩
theorem xQc_4 {i : Nat} {t : xMI} {b : xCE} (h1 : xms_4[i]? = some t) (h2 : xmh_4[i]? = some b) : xQw t b := by
  have hm := xzip_get h1 h2
  exact ⟨xplace xpQ1_4 _ hm, xplace xpQ2_4 _ hm, xplace xpQ3_4 _ hm, xplace xpQ4_4 _ hm, List.all_eq_true.mp xqQ_4 _ (List.mem_of_getElem? h1)⟩
theorem xQc_5 {i : Nat} {t : xMI} {b : xCE} (h1 : xms_5[i]? = some t) (h2 : xmh_5[i]? = some b) : xQw t b := by
  have hm := xzip_get h1 h2
  exact ⟨xplace xpQ1_5 _ hm, xplace xpQ2_5 _ hm, xplace xpQ3_5 _ hm, xplace xpQ4_5 _ hm, List.all_eq_true.mp xqQ_5 _ (List.mem_of_getElem? h1)⟩
theorem xQc_6 {i : Nat} {t : xMI} {b : xCE} (h1 : xms_6[i]? = some t) (h2 : xmh_6[i]? = some b) : xQw t b := by
  have hm := xzip_get h1 h2
  exact ⟨xplace xpQ1_6 _ hm, xplace xpQ2_6 _ hm, xplace xpQ3_6 _ hm, xplace xpQ4_6 _ hm, List.all_eq_true.mp xqQ_6 _ (List.mem_of_getElem? h1)⟩
theorem xQc_7 {i : Nat} {t : xMI} {b : xCE} (h1 : xms_7[i]? = some t) (h2 : xmh_7[i]? = some b) : xQw t b := by
  have hm := xzip_get h1 h2
  exact ⟨xplace xpQ1_7 _ hm, xplace xpQ2_7 _ hm, xplace xpQ3_7 _ hm, xplace xpQ4_7 _ hm, List.all_eq_true.mp xqQ_7 _ (List.mem_of_getElem? h1)⟩
theorem xQc_8 {i : Nat} {t : xMI} {b : xCE} (h1 : xms_8[i]? = some t) (h2 : xmh_8[i]? = some b) : xQw t b := by
  have hm := xzip_get h1 h2
  exact ⟨xplace xpQ1_8 _ hm, xplace xpQ2_8 _ hm, xplace xpQ3_8 _ hm, xplace xpQ4_8 _ hm, List.all_eq_true.mp xqQ_8 _ (List.mem_of_getElem? h1)⟩
theorem xQc_9 {i : Nat} {t : xMI} {b : xCE} (h1 : xms_9[i]? = some t) (h2 : xmh_9[i]? = some b) : xQw t b := by
  have hm := xzip_get h1 h2
  exact ⟨xplace xpQ1_9 _ hm, xplace xpQ2_9 _ hm, xplace xpQ3_9 _ hm, xplace xpQ4_9 _ hm, List.all_eq_true.mp xqQ_9 _ (List.mem_of_getElem? h1)⟩
theorem xQc_10 {i : Nat} {t : xMI} {b : xCE} (h1 : xms_10[i]? = some t) (h2 : xmh_10[i]? = some b) : xQw t b := by
  have hm := xzip_get h1 h2
  exact ⟨xplace xpQ1_10 _ hm, xplace xpQ2_10 _ hm, xplace xpQ3_10 _ hm, xplace xpQ4_10 _ hm, List.all_eq_true.mp xqQ_10 _ (List.mem_of_getElem? h1)⟩
theorem xQc_11 {i : Nat} {t : xMI} {b : xCE} (h1 : xms_11[i]? = some t) (h2 : xmh_11[i]? = some b) : xQw t b := by
  have hm := xzip_get h1 h2
  exact ⟨xplace xpQ1_11 _ hm, xplace xpQ2_11 _ hm, xplace xpQ3_11 _ hm, xplace xpQ4_11 _ hm, List.all_eq_true.mp xqQ_11 _ (List.mem_of_getElem? h1)⟩
theorem xQc_12 {i : Nat} {t : xMI} {b : xCE} (h1 : xms_12[i]? = some t) (h2 : xmh_12[i]? = some b) : xQw t b := by
  have hm := xzip_get h1 h2
  exact ⟨xplace xpQ1_12 _ hm, xplace xpQ2_12 _ hm, xplace xpQ3_12 _ hm, xplace xpQ4_12 _ hm, List.all_eq_true.mp xqQ_12 _ (List.mem_of_getElem? h1)⟩
theorem xQc_13 {i : Nat} {t : xMI} {b : xCE} (h1 : xms_13[i]? = some t) (h2 : xmh_13[i]? = some b) : xQw t b := by
  have hm := xzip_get h1 h2
  exact ⟨xplace xpQ1_13 _ hm, xplace xpQ2_13 _ hm, xplace xpQ3_13 _ hm, xplace xpQ4_13 _ hm, List.all_eq_true.mp xqQ_13 _ (List.mem_of_getElem? h1)⟩
theorem xQc_14 {i : Nat} {t : xMI} {b : xCE} (h1 : xms_14[i]? = some t) (h2 : xmh_14[i]? = some b) : xQw t b := by
  have hm := xzip_get h1 h2
  exact ⟨xplace xpQ1_14 _ hm, xplace xpQ2_14 _ hm, xplace xpQ3_14 _ hm, xplace xpQ4_14 _ hm, List.all_eq_true.mp xqQ_14 _ (List.mem_of_getElem? h1)⟩
theorem xQc_15 {i : Nat} {t : xMI} {b : xCE} (h1 : xms_15[i]? = some t) (h2 : xmh_15[i]? = some b) : xQw t b := by
  have hm := xzip_get h1 h2
  exact ⟨xplace xpQ1_15 _ hm, xplace xpQ2_15 _ hm, xplace xpQ3_15 _ hm, xplace xpQ4_15 _ hm, List.all_eq_true.mp xqQ_15 _ (List.mem_of_getElem? h1)⟩
theorem xQc_16 {i : Nat} (hi : i < 10) {t : xMI} {b : xCE} (h1 : xms_16[i]? = some t) (h2 : xmh_16[i]? = some b) : xQw t b := by
  have hm : (t, b) ∈ (xms_16.zip xmh_16).take 10 := by
    refine List.mem_of_getElem? (i := i) ?_
    rw [List.getElem?_take, if_pos hi, List.getElem?_zip_eq_some]
    exact ⟨h1, h2⟩
  have hm1 : t ∈ xms_16.take 10 := by
    refine List.mem_of_getElem? (i := i) ?_
    rw [List.getElem?_take, if_pos hi]
    exact h1
  exact ⟨xplace xpQ1_16 _ hm, xplace xpQ2_16 _ hm, xplace xpQ3_16 _ hm, xplace xpQ4_16 _ hm, List.all_eq_true.mp xqQ_16 _ hm1⟩
set_option maxRecDepth 100000 in
theorem xQ_all {m : Nat} (hm : m < 330) {t : xMI} {b : xCE} (h1 : xms[m]? = some t) (h2 : xmh[m]? = some b) : xQw t b := by
  unfold xms at h1
  unfold xmh at h2
  by_cases c0 : m < 20
  · rw [List.getElem?_append_left (show m < xms_0.length by show _ < 20; omega)] at h1
    rw [List.getElem?_append_left (show m < xmh_0.length by show _ < 20; omega)] at h2
    exact xQc_0 h1 h2
  rw [List.getElem?_append_right (show xms_0.length ≤ m by show 20 ≤ _; omega)] at h1
  rw [List.getElem?_append_right (show xmh_0.length ≤ m by show 20 ≤ _; omega)] at h2
  rw [show xms_0.length = 20 from rfl] at h1
  rw [show xmh_0.length = 20 from rfl] at h2
  by_cases c1 : m < 40
  · rw [List.getElem?_append_left (show m - 20 < xms_1.length by show _ < 20; omega)] at h1
    rw [List.getElem?_append_left (show m - 20 < xmh_1.length by show _ < 20; omega)] at h2
    exact xQc_1 h1 h2
  rw [List.getElem?_append_right (show xms_1.length ≤ m - 20 by show 20 ≤ _; omega)] at h1
  rw [List.getElem?_append_right (show xmh_1.length ≤ m - 20 by show 20 ≤ _; omega)] at h2
  rw [show xms_1.length = 20 from rfl] at h1
  rw [show xmh_1.length = 20 from rfl] at h2
  by_cases c2 : m < 60
  · rw [List.getElem?_append_left (show m - 20 - 20 < xms_2.length by show _ < 20; omega)] at h1
    rw [List.getElem?_append_left (show m - 20 - 20 < xmh_2.length by show _ < 20; omega)] at h2
    exact xQc_2 h1 h2
  rw [List.getElem?_append_right (show xms_2.length ≤ m - 20 - 20 by show 20 ≤ _; omega)] at h1
  rw [List.getElem?_append_right (show xmh_2.length ≤ m - 20 - 20 by show 20 ≤ _; omega)] at h2
  rw [show xms_2.length = 20 from rfl] at h1
  rw [show xmh_2.length = 20 from rfl] at h2
  by_cases c3 : m < 80
  · rw [List.getElem?_append_left (show m - 20 - 20 - 20 < xms_3.length by show _ < 20; omega)] at h1
    rw [List.getElem?_append_left (show m - 20 - 20 - 20 < xmh_3.length by show _ < 20; omega)] at h2
    exact xQc_3 h1 h2
  rw [List.getElem?_append_right (show xms_3.length ≤ m - 20 - 20 - 20 by show 20 ≤ _; omega)] at h1
  rw [List.getElem?_append_right (show xmh_3.length ≤ m - 20 - 20 - 20 by show 20 ≤ _; omega)] at h2
  rw [show xms_3.length = 20 from rfl] at h1
  rw [show xmh_3.length = 20 from rfl] at h2
  by_cases c4 : m < 100
  · rw [List.getElem?_append_left (show m - 20 - 20 - 20 - 20 < xms_4.length by show _ < 20; omega)] at h1
    rw [List.getElem?_append_left (show m - 20 - 20 - 20 - 20 < xmh_4.length by show _ < 20; omega)] at h2
    exact xQc_4 h1 h2
  rw [List.getElem?_append_right (show xms_4.length ≤ m - 20 - 20 - 20 - 20 by show 20 ≤ _; omega)] at h1
  rw [List.getElem?_append_right (show xmh_4.length ≤ m - 20 - 20 - 20 - 20 by show 20 ≤ _; omega)] at h2
  rw [show xms_4.length = 20 from rfl] at h1
  rw [show xmh_4.length = 20 from rfl] at h2
  by_cases c5 : m < 120
  · rw [List.getElem?_append_left (show m - 20 - 20 - 20 - 20 - 20 < xms_5.length by show _ < 20; omega)] at h1
    rw [List.getElem?_append_left (show m - 20 - 20 - 20 - 20 - 20 < xmh_5.length by show _ < 20; omega)] at h2
    exact xQc_5 h1 h2
  rw [List.getElem?_append_right (show xms_5.length ≤ m - 20 - 20 - 20 - 20 - 20 by show 20 ≤ _; omega)] at h1
  rw [List.getElem?_append_right (show xmh_5.length ≤ m - 20 - 20 - 20 - 20 - 20 by show 20 ≤ _; omega)] at h2
  rw [show xms_5.length = 20 from rfl] at h1
  rw [show xmh_5.length = 20 from rfl] at h2
  by_cases c6 : m < 140
  · rw [List.getElem?_append_left (show m - 20 - 20 - 20 - 20 - 20 - 20 < xms_6.length by show _ < 20; omega)] at h1
    rw [List.getElem?_append_left (show m - 20 - 20 - 20 - 20 - 20 - 20 < xmh_6.length by show _ < 20; omega)] at h2
    exact xQc_6 h1 h2
  rw [List.getElem?_append_right (show xms_6.length ≤ m - 20 - 20 - 20 - 20 - 20 - 20 by show 20 ≤ _; omega)] at h1
  rw [List.getElem?_append_right (show xmh_6.length ≤ m - 20 - 20 - 20 - 20 - 20 - 20 by show 20 ≤ _; omega)] at h2
  rw [show xms_6.length = 20 from rfl] at h1
  rw [show xmh_6.length = 20 from rfl] at h2
  by_cases c7 : m < 160
  · rw [List.getElem?_append_left (show m - 20 - 20 - 20 - 20 - 20 - 20 - 20 < xms_7.length by show _ < 20; omega)] at h1
    rw [List.getElem?_append_left (show m - 20 - 20 - 20 - 20 - 20 - 20 - 20 < xmh_7.length by show _ < 20; omega)] at h2
    exact xQc_7 h1 h2
  rw [List.getElem?_append_right (show xms_7.length ≤ m - 20 - 20 - 20 - 20 - 20 - 20 - 20 by show 20 ≤ _; omega)] at h1
  rw [List.getElem?_append_right (show xmh_7.length ≤ m - 20 - 20 - 20 - 20 - 20 - 20 - 20 by show 20 ≤ _; omega)] at h2
  rw [show xms_7.length = 20 from rfl] at h1
  rw [show xmh_7.length = 20 from rfl] at h2
  by_cases c8 : m < 180
  · rw [List.getElem?_append_left (show m - 20 - 20 - 20 - 20 - 20 - 20 - 20 - 20 < xms_8.length by show _ < 20; omega)] at h1
    rw [List.getElem?_append_left (show m - 20 - 20 - 20 - 20 - 20 - 20 - 20 - 20 < xmh_8.length by show _ < 20; omega)] at h2
    exact xQc_8 h1 h2
  rw [List.getElem?_append_right (show xms_8.length ≤ m - 20 - 20 - 20 - 20 - 20 - 20 - 20 - 20 by show 20 ≤ _; omega)] at h1
  rw [List.getElem?_append_right (show xmh_8.length ≤ m - 20 - 20 - 20 - 20 - 20 - 20 - 20 - 20 by show 20 ≤ _; omega)] at h2
  rw [show xms_8.length = 20 from rfl] at h1
  rw [show xmh_8.length = 20 from rfl] at h2
  by_cases c9 : m < 200
  · rw [List.getElem?_append_left (show m - 20 - 20 - 20 - 20 - 20 - 20 - 20 - 20 - 20 < xms_9.length by show _ < 20; omega)] at h1
    rw [List.getElem?_append_left (show m - 20 - 20 - 20 - 20 - 20 - 20 - 20 - 20 - 20 < xmh_9.length by show _ < 20; omega)] at h2
    exact xQc_9 h1 h2
  rw [List.getElem?_append_right (show xms_9.length ≤ m - 20 - 20 - 20 - 20 - 20 - 20 - 20 - 20 - 20 by show 20 ≤ _; omega)] at h1
  rw [List.getElem?_append_right (show xmh_9.length ≤ m - 20 - 20 - 20 - 20 - 20 - 20 - 20 - 20 - 20 by show 20 ≤ _; omega)] at h2
  rw [show xms_9.length = 20 from rfl] at h1
  rw [show xmh_9.length = 20 from rfl] at h2
  by_cases c10 : m < 220
  · rw [List.getElem?_append_left (show m - 20 - 20 - 20 - 20 - 20 - 20 - 20 - 20 - 20 - 20 < xms_10.length by show _ < 20; omega)] at h1
    rw [List.getElem?_append_left (show m - 20 - 20 - 20 - 20 - 20 - 20 - 20 - 20 - 20 - 20 < xmh_10.length by show _ < 20; omega)] at h2
    exact xQc_10 h1 h2
  rw [List.getElem?_append_right (show xms_10.length ≤ m - 20 - 20 - 20 - 20 - 20 - 20 - 20 - 20 - 20 - 20 by show 20 ≤ _; omega)] at h1
  rw [List.getElem?_append_right (show xmh_10.length ≤ m - 20 - 20 - 20 - 20 - 20 - 20 - 20 - 20 - 20 - 20 by show 20 ≤ _; omega)] at h2
  rw [show xms_10.length = 20 from rfl] at h1
  rw [show xmh_10.length = 20 from rfl] at h2
  by_cases c11 : m < 240
  · rw [List.getElem?_append_left (show m - 20 - 20 - 20 - 20 - 20 - 20 - 20 - 20 - 20 - 20 - 20 < xms_11.length by show _ < 20; omega)] at h1
    rw [List.getElem?_append_left (show m - 20 - 20 - 20 - 20 - 20 - 20 - 20 - 20 - 20 - 20 - 20 < xmh_11.length by show _ < 20; omega)] at h2
    exact xQc_11 h1 h2
  rw [List.getElem?_append_right (show xms_11.length ≤ m - 20 - 20 - 20 - 20 - 20 - 20 - 20 - 20 - 20 - 20 - 20 by show 20 ≤ _; omega)] at h1
  rw [List.getElem?_append_right (show xmh_11.length ≤ m - 20 - 20 - 20 - 20 - 20 - 20 - 20 - 20 - 20 - 20 - 20 by show 20 ≤ _; omega)] at h2
  rw [show xms_11.length = 20 from rfl] at h1
  rw [show xmh_11.length = 20 from rfl] at h2
  by_cases c12 : m < 260
  · rw [List.getElem?_append_left (show m - 20 - 20 - 20 - 20 - 20 - 20 - 20 - 20 - 20 - 20 - 20 - 20 < xms_12.length by show _ < 20; omega)] at h1
    rw [List.getElem?_append_left (show m - 20 - 20 - 20 - 20 - 20 - 20 - 20 - 20 - 20 - 20 - 20 - 20 < xmh_12.length by show _ < 20; omega)] at h2
    exact xQc_12 h1 h2
  rw [List.getElem?_append_right (show xms_12.length ≤ m - 20 - 20 - 20 - 20 - 20 - 20 - 20 - 20 - 20 - 20 - 20 - 20 by show 20 ≤ _; omega)] at h1
  rw [List.getElem?_append_right (show xmh_12.length ≤ m - 20 - 20 - 20 - 20 - 20 - 20 - 20 - 20 - 20 - 20 - 20 - 20 by show 20 ≤ _; omega)] at h2
  rw [show xms_12.length = 20 from rfl] at h1
  rw [show xmh_12.length = 20 from rfl] at h2
  by_cases c13 : m < 280
  · rw [List.getElem?_append_left (show m - 20 - 20 - 20 - 20 - 20 - 20 - 20 - 20 - 20 - 20 - 20 - 20 - 20 < xms_13.length by show _ < 20; omega)] at h1
    rw [List.getElem?_append_left (show m - 20 - 20 - 20 - 20 - 20 - 20 - 20 - 20 - 20 - 20 - 20 - 20 - 20 < xmh_13.length by show _ < 20; omega)] at h2
    exact xQc_13 h1 h2
  rw [List.getElem?_append_right (show xms_13.length ≤ m - 20 - 20 - 20 - 20 - 20 - 20 - 20 - 20 - 20 - 20 - 20 - 20 - 20 by show 20 ≤ _; omega)] at h1
  rw [List.getElem?_append_right (show xmh_13.length ≤ m - 20 - 20 - 20 - 20 - 20 - 20 - 20 - 20 - 20 - 20 - 20 - 20 - 20 by show 20 ≤ _; omega)] at h2
  rw [show xms_13.length = 20 from rfl] at h1
  rw [show xmh_13.length = 20 from rfl] at h2
  by_cases c14 : m < 300
  · rw [List.getElem?_append_left (show m - 20 - 20 - 20 - 20 - 20 - 20 - 20 - 20 - 20 - 20 - 20 - 20 - 20 - 20 < xms_14.length by show _ < 20; omega)] at h1
    rw [List.getElem?_append_left (show m - 20 - 20 - 20 - 20 - 20 - 20 - 20 - 20 - 20 - 20 - 20 - 20 - 20 - 20 < xmh_14.length by show _ < 20; omega)] at h2
    exact xQc_14 h1 h2
  rw [List.getElem?_append_right (show xms_14.length ≤ m - 20 - 20 - 20 - 20 - 20 - 20 - 20 - 20 - 20 - 20 - 20 - 20 - 20 - 20 by show 20 ≤ _; omega)] at h1
  rw [List.getElem?_append_right (show xmh_14.length ≤ m - 20 - 20 - 20 - 20 - 20 - 20 - 20 - 20 - 20 - 20 - 20 - 20 - 20 - 20 by show 20 ≤ _; omega)] at h2
  rw [show xms_14.length = 20 from rfl] at h1
  rw [show xmh_14.length = 20 from rfl] at h2
  by_cases c15 : m < 320
  · rw [List.getElem?_append_left (show m - 20 - 20 - 20 - 20 - 20 - 20 - 20 - 20 - 20 - 20 - 20 - 20 - 20 - 20 - 20 < xms_15.length by show _ < 20; omega)] at h1
    rw [List.getElem?_append_left (show m - 20 - 20 - 20 - 20 - 20 - 20 - 20 - 20 - 20 - 20 - 20 - 20 - 20 - 20 - 20 < xmh_15.length by show _ < 20; omega)] at h2
    exact xQc_15 h1 h2
  rw [List.getElem?_append_right (show xms_15.length ≤ m - 20 - 20 - 20 - 20 - 20 - 20 - 20 - 20 - 20 - 20 - 20 - 20 - 20 - 20 - 20 by show 20 ≤ _; omega)] at h1
  rw [List.getElem?_append_right (show xmh_15.length ≤ m - 20 - 20 - 20 - 20 - 20 - 20 - 20 - 20 - 20 - 20 - 20 - 20 - 20 - 20 - 20 by show 20 ≤ _; omega)] at h2
  rw [show xms_15.length = 20 from rfl] at h1
  rw [show xmh_15.length = 20 from rfl] at h2
  exact xQc_16 (by omega) h1 h2
theorem xkc_0 : ∀ t ∈ xms_0, ∃ cn, xokQ cn t = true := by
  intro t ht
  simp only [xms_0, List.mem_cons, List.not_mem_nil, or_false] at ht
  rcases ht with rfl | rfl | rfl | rfl | rfl | rfl | rfl | rfl | rfl | rfl | rfl | rfl | rfl | rfl | rfl | rfl | rfl | rfl | rfl | rfl
  · exact ⟨_, xk_X0_init⟩
  · exact ⟨_, xk_X0_use⟩
  · exact ⟨_, xk_X0_weigh⟩
  · exact ⟨_, xk_X0_weighHalf⟩
  · exact ⟨_, xk_X0_weightOf⟩
  · exact ⟨_, xk_X0_seekPots⟩
  · exact ⟨_, xk_X0_searchOn⟩
  · exact ⟨_, xk_X0_goOnFrom⟩
  · exact ⟨_, xk_X0_tryShow⟩
  · exact ⟨_, xk_X0_tryMake⟩
  · exact ⟨_, xk_X0_tryPours⟩
  · exact ⟨_, xk_X0_tryTrust⟩
  · exact ⟨_, xk_X0_add⟩
  · exact ⟨_, xk_X1_init⟩
  · exact ⟨_, xk_X1_clear⟩
  · exact ⟨_, xk_X1_copyFrom⟩
  · exact ⟨_, xk_X1_beginCooking⟩
  · exact ⟨_, xk_X1_madeOnes⟩
  · exact ⟨_, xk_X1_doMake⟩
  · exact ⟨_, xk_X1_doPour⟩
theorem xkc_1 : ∀ t ∈ xms_1, ∃ cn, xokQ cn t = true := by
  intro t ht
  simp only [xms_1, List.mem_cons, List.not_mem_nil, or_false] at ht
  rcases ht with rfl | rfl | rfl | rfl | rfl | rfl | rfl | rfl | rfl | rfl | rfl | rfl | rfl | rfl | rfl | rfl | rfl | rfl | rfl | rfl
  · exact ⟨_, xk_X1_doWash⟩
  · exact ⟨_, xk_X1_doTrust⟩
  · exact ⟨_, xk_X1_doShow⟩
  · exact ⟨_, xk_X1_leave⟩
  · exact ⟨_, xk_X1_arrive⟩
  · exact ⟨_, xk_X1_nextDraw⟩
  · exact ⟨_, xk_X1_endStep⟩
  · exact ⟨_, xk_X1_countMissed⟩
  · exact ⟨_, xk_X1_stepsLeft⟩
  · exact ⟨_, xk_X1_tellCooked⟩
  · exact ⟨_, xk_X2_init⟩
  · exact ⟨_, xk_X2_useKitchen⟩
  · exact ⟨_, xk_X2_useBigPots⟩
  · exact ⟨_, xk_X2_isOther⟩
  · exact ⟨_, xk_X2_restart⟩
  · exact ⟨_, xk_X2_seekWork⟩
  · exact ⟨_, xk_X2_seekKey⟩
  · exact ⟨_, xk_X2_settleNext⟩
  · exact ⟨_, xk_X2_offer⟩
  · exact ⟨_, xk_X2_rise⟩
theorem xkc_2 : ∀ t ∈ xms_2, ∃ cn, xokQ cn t = true := by
  intro t ht
  simp only [xms_2, List.mem_cons, List.not_mem_nil, or_false] at ht
  rcases ht with rfl | rfl | rfl | rfl | rfl | rfl | rfl | rfl | rfl | rfl | rfl | rfl | rfl | rfl | rfl | rfl | rfl | rfl | rfl | rfl
  · exact ⟨_, xk_X2_sink⟩
  · exact ⟨_, xk_X2_listMoves⟩
  · exact ⟨_, xk_X2_listMake⟩
  · exact ⟨_, xk_X2_listPours⟩
  · exact ⟨_, xk_X2_priceOf⟩
  · exact ⟨_, xk_X2_addMove⟩
  · exact ⟨_, xk_X2_tellMove⟩
  · exact ⟨_, xk_X2_findPath⟩
  · exact ⟨_, xk_X2_markPaths⟩
  · exact ⟨_, xk_X2_firstOnPath⟩
  · exact ⟨_, xk_X2_walkPath⟩
  · exact ⟨_, xk_X3_init⟩
  · exact ⟨_, xk_X3_clear⟩
  · exact ⟨_, xk_X3_copyFrom⟩
  · exact ⟨_, xk_X3_derive⟩
  · exact ⟨_, xk_X3_has⟩
  · exact ⟨_, xk_X3_hasSet⟩
  · exact ⟨_, xk_X3_allDishes⟩
  · exact ⟨_, xk_X3_dishesFrom⟩
  · exact ⟨_, xk_X3_dishNamed⟩
theorem xkc_3 : ∀ t ∈ xms_3, ∃ cn, xokQ cn t = true := by
  intro t ht
  simp only [xms_3, List.mem_cons, List.not_mem_nil, or_false] at ht
  rcases ht with rfl | rfl | rfl | rfl | rfl | rfl | rfl | rfl | rfl | rfl | rfl | rfl | rfl | rfl | rfl | rfl | rfl | rfl | rfl | rfl
  · exact ⟨_, xk_X3_isPoured⟩
  · exact ⟨_, xk_X3_isAlone⟩
  · exact ⟨_, xk_X3_leadsGroup⟩
  · exact ⟨_, xk_X3_goneWith⟩
  · exact ⟨_, xk_X3_tellDish⟩
  · exact ⟨_, xk_X3_layerOf⟩
  · exact ⟨_, xk_X3_deepNeeds⟩
  · exact ⟨_, xk_X3_allNeeded⟩
  · exact ⟨_, xk_X3_workOnce⟩
  · exact ⟨_, xk_X3_leastBound⟩
  · exact ⟨_, xk_X3_ownBound⟩
  · exact ⟨_, xk_X3_treeNumber⟩
  · exact ⟨_, xk_X3_isTree⟩
  · exact ⟨_, xk_X3_numberAbove⟩
  · exact ⟨_, xk_X3_greatestOf⟩
  · exact ⟨_, xk_X4_init⟩
  · exact ⟨_, xk_X4_readMenu⟩
  · exact ⟨_, xk_X4_readDish⟩
  · exact ⟨_, xk_X4_readNewName⟩
  · exact ⟨_, xk_X4_readAmounts⟩
theorem xkc_4 : ∀ t ∈ xms_4, ∃ cn, xokQ cn t = true := by
  intro t ht
  simp only [xms_4, List.mem_cons, List.not_mem_nil, or_false] at ht
  rcases ht with rfl | rfl | rfl | rfl | rfl | rfl | rfl | rfl | rfl | rfl | rfl | rfl | rfl | rfl | rfl | rfl | rfl | rfl | rfl | rfl
  · exact ⟨_, xk_X4_readAmount⟩
  · exact ⟨_, xk_X4_readNeeds⟩
  · exact ⟨_, xk_X4_readKinds⟩
  · exact ⟨_, xk_X4_readPair⟩
  · exact ⟨_, xk_X4_readPartner⟩
  · exact ⟨_, xk_X4_canPair⟩
  · exact ⟨_, xk_X4_readPots⟩
  · exact ⟨_, xk_X5_init⟩
  · exact ⟨_, xk_X5_clear⟩
  · exact ⟨_, xk_X5_copyFrom⟩
  · exact ⟨_, xk_X5_addStep⟩
  · exact ⟨_, xk_X5_runWith⟩
  · exact ⟨_, xk_X5_isDone⟩
  · exact ⟨_, xk_X5_atEndOfOpen⟩
  · exact ⟨_, xk_X5_closeOrRepeat⟩
  · exact ⟨_, xk_X5_meet⟩
  · exact ⟨_, xk_X5_enter⟩
  · exact ⟨_, xk_X5_testHolds⟩
  · exact ⟨_, xk_X5_attempt⟩
  · exact ⟨_, xk_X6_init⟩
theorem xkc_5 : ∀ t ∈ xms_5, ∃ cn, xokQ cn t = true := by
  intro t ht
  simp only [xms_5, List.mem_cons, List.not_mem_nil, or_false] at ht
  rcases ht with rfl | rfl | rfl | rfl | rfl | rfl | rfl | rfl | rfl | rfl | rfl | rfl | rfl | rfl | rfl | rfl | rfl | rfl | rfl | rfl
  · exact ⟨_, xk_X6_readPlan⟩
  · exact ⟨_, xk_X6_readEnd⟩
  · exact ⟨_, xk_X6_readStep⟩
  · exact ⟨_, xk_X6_isPlainStep⟩
  · exact ⟨_, xk_X6_readRest⟩
  · exact ⟨_, xk_X6_readTest⟩
  · exact ⟨_, xk_X6_readDish⟩
  · exact ⟨_, xk_X7_init⟩
  · exact ⟨_, xk_X7_copyFrom⟩
  · exact ⟨_, xk_X7_usePots⟩
  · exact ⟨_, xk_X7_useBigPots⟩
  · exact ⟨_, xk_X7_addRule⟩
  · exact ⟨_, xk_X7_holds⟩
  · exact ⟨_, xk_X8_init⟩
  · exact ⟨_, xk_X8_countRounds⟩
  · exact ⟨_, xk_X8_allCanBeMade⟩
  · exact ⟨_, xk_X8_restart⟩
  · exact ⟨_, xk_X8_add⟩
  · exact ⟨_, xk_X8_washFrom⟩
  · exact ⟨_, xk_X8_readyAt⟩
theorem xkc_6 : ∀ t ∈ xms_6, ∃ cn, xokQ cn t = true := by
  intro t ht
  simp only [xms_6, List.mem_cons, List.not_mem_nil, or_false] at ht
  rcases ht with rfl | rfl | rfl | rfl | rfl | rfl | rfl | rfl | rfl | rfl | rfl | rfl | rfl | rfl | rfl | rfl | rfl | rfl | rfl | rfl
  · exact ⟨_, xk_X8_cookMore⟩
  · exact ⟨_, xk_X9_init⟩
  · exact ⟨_, xk_X9_withLetter⟩
  · exact ⟨_, xk_X9_hasRoom⟩
  · exact ⟨_, xk_X9_append⟩
  · exact ⟨_, xk_X9_emptyTape⟩
  · exact ⟨_, xk_X9_begin⟩
  · exact ⟨_, xk_X9_skipBlanks⟩
  · exact ⟨_, xk_X9_cutToken⟩
  · exact ⟨_, xk_X9_isLetter⟩
  · exact ⟨_, xk_X9_isDigit⟩
  · exact ⟨_, xk_X9_cutWord⟩
  · exact ⟨_, xk_X9_cutNumber⟩
  · exact ⟨_, xk_X9_advance⟩
  · exact ⟨_, xk_X9_value⟩
  · exact ⟨_, xk_X9_blame⟩
  · exact ⟨_, xk_X9_misplaced⟩
  · exact ⟨_, xk_X9_takeToken⟩
  · exact ⟨_, xk_X9_takeNumber⟩
  · exact ⟨_, xk_X10_init⟩
theorem xkc_7 : ∀ t ∈ xms_7, ∃ cn, xokQ cn t = true := by
  intro t ht
  simp only [xms_7, List.mem_cons, List.not_mem_nil, or_false] at ht
  rcases ht with rfl | rfl | rfl | rfl | rfl | rfl | rfl | rfl | rfl | rfl | rfl | rfl | rfl | rfl | rfl | rfl | rfl | rfl | rfl | rfl
  · exact ⟨_, xk_X10_isTray⟩
  · exact ⟨_, xk_X10_isSort⟩
  · exact ⟨_, xk_X10_isThere⟩
  · exact ⟨_, xk_X10_areAlike⟩
  · exact ⟨_, xk_X10_hasRun⟩
  · exact ⟨_, xk_X10_lay⟩
  · exact ⟨_, xk_X10_whyNot⟩
  · exact ⟨_, xk_X10_put⟩
  · exact ⟨_, xk_X10_numberAt⟩
  · exact ⟨_, xk_X10_carry⟩
  · exact ⟨_, xk_X11_init⟩
  · exact ⟨_, xk_X11_status⟩
  · exact ⟨_, xk_X11_top⟩
  · exact ⟨_, xk_X11_bottom⟩
  · exact ⟨_, xk_X11_tray⟩
  · exact ⟨_, xk_X11_write⟩
  · exact ⟨_, xk_X11_read⟩
  · exact ⟨_, xk_X11_pour⟩
  · exact ⟨_, xk_X11_feed⟩
  · exact ⟨_, xk_X11_menu⟩
theorem xkc_8 : ∀ t ∈ xms_8, ∃ cn, xokQ cn t = true := by
  intro t ht
  simp only [xms_8, List.mem_cons, List.not_mem_nil, or_false] at ht
  rcases ht with rfl | rfl | rfl | rfl | rfl | rfl | rfl | rfl | rfl | rfl | rfl | rfl | rfl | rfl | rfl | rfl | rfl | rfl | rfl | rfl
  · exact ⟨_, xk_X11_plan⟩
  · exact ⟨_, xk_X11_fault⟩
  · exact ⟨_, xk_X11_told⟩
  · exact ⟨_, xk_X11_dish⟩
  · exact ⟨_, xk_X11_pot⟩
  · exact ⟨_, xk_X11_fits⟩
  · exact ⟨_, xk_X11_needed⟩
  · exact ⟨_, xk_X11_make⟩
  · exact ⟨_, xk_X11_pourOver⟩
  · exact ⟨_, xk_X11_wash⟩
  · exact ⟨_, xk_X11_trust⟩
  · exact ⟨_, xk_X11_show⟩
  · exact ⟨_, xk_X11_keeps⟩
  · exact ⟨_, xk_X11_empty⟩
  · exact ⟨_, xk_X11_work⟩
  · exact ⟨_, xk_X11_steps⟩
  · exact ⟨_, xk_X11_first⟩
  · exact ⟨_, xk_X11_firstAt⟩
  · exact ⟨_, xk_X11_fewest⟩
  · exact ⟨_, xk_X11_curve⟩
theorem xkc_9 : ∀ t ∈ xms_9, ∃ cn, xokQ cn t = true := by
  intro t ht
  simp only [xms_9, List.mem_cons, List.not_mem_nil, or_false] at ht
  rcases ht with rfl | rfl | rfl | rfl | rfl | rfl | rfl | rfl | rfl | rfl | rfl | rfl | rfl | rfl | rfl | rfl | rfl | rfl | rfl | rfl
  · exact ⟨_, xk_X11_trustful⟩
  · exact ⟨_, xk_X11_bound⟩
  · exact ⟨_, xk_X11_treeRule⟩
  · exact ⟨_, xk_X11_rounds⟩
  · exact ⟨_, xk_X11_spared⟩
  · exact ⟨_, xk_X11_again⟩
  · exact ⟨_, xk_X11_cook⟩
  · exact ⟨_, xk_X11_cooked⟩
  · exact ⟨_, xk_X11_judged⟩
  · exact ⟨_, xk_X11_odds⟩
  · exact ⟨_, xk_X11_mark⟩
  · exact ⟨_, xk_X11_back⟩
  · exact ⟨_, xk_X11_here⟩
  · exact ⟨_, xk_X11_answer⟩
  · exact ⟨_, xk_X11_refuse⟩
  · exact ⟨_, xk_X11_found⟩
  · exact ⟨_, xk_X11_granted⟩
  · exact ⟨_, xk_X11_denied⟩
  · exact ⟨_, xk_X11_afterStep⟩
  · exact ⟨_, xk_X11_tellFraction⟩
theorem xkc_10 : ∀ t ∈ xms_10, ∃ cn, xokQ cn t = true := by
  intro t ht
  simp only [xms_10, List.mem_cons, List.not_mem_nil, or_false] at ht
  rcases ht with rfl | rfl | rfl | rfl | rfl | rfl | rfl | rfl | rfl | rfl | rfl | rfl | rfl | rfl | rfl | rfl | rfl | rfl | rfl | rfl
  · exact ⟨_, xk_X12_init⟩
  · exact ⟨_, xk_X12_status⟩
  · exact ⟨_, xk_X12_top⟩
  · exact ⟨_, xk_X12_bottom⟩
  · exact ⟨_, xk_X12_is⟩
  · exact ⟨_, xk_X12_refuse⟩
  · exact ⟨_, xk_X12_gives⟩
  · exact ⟨_, xk_X12_tellsBy⟩
  · exact ⟨_, xk_X12_isTray⟩
  · exact ⟨_, xk_X12_cut⟩
  · exact ⟨_, xk_X12_tray⟩
  · exact ⟨_, xk_X12_wrongPlace⟩
  · exact ⟨_, xk_X12_write⟩
  · exact ⟨_, xk_X12_read⟩
  · exact ⟨_, xk_X12_pour⟩
  · exact ⟨_, xk_X12_isFrom⟩
  · exact ⟨_, xk_X12_feed⟩
  · exact ⟨_, xk_X12_four⟩
  · exact ⟨_, xk_X12_byteAt⟩
  · exact ⟨_, xk_X12_isSmall⟩
theorem xkc_11 : ∀ t ∈ xms_11, ∃ cn, xokQ cn t = true := by
  intro t ht
  simp only [xms_11, List.mem_cons, List.not_mem_nil, or_false] at ht
  rcases ht with rfl | rfl | rfl | rfl | rfl | rfl | rfl | rfl | rfl | rfl | rfl | rfl | rfl | rfl | rfl | rfl | rfl | rfl | rfl | rfl
  · exact ⟨_, xk_X12_isDigit⟩
  · exact ⟨_, xk_X12_ahead⟩
  · exact ⟨_, xk_X12_isSign⟩
  · exact ⟨_, xk_X12_inWords⟩
  · exact ⟨_, xk_X12_fails⟩
  · exact ⟨_, xk_X12_begins⟩
  · exact ⟨_, xk_X12_wantSign⟩
  · exact ⟨_, xk_X12_wantWord⟩
  · exact ⟨_, xk_X12_number⟩
  · exact ⟨_, xk_X12_isName⟩
  · exact ⟨_, xk_X12_nameHere⟩
  · exact ⟨_, xk_X12_findHere⟩
  · exact ⟨_, xk_X12_fault⟩
  · exact ⟨_, xk_X12_taken⟩
  · exact ⟨_, xk_X12_bits⟩
  · exact ⟨_, xk_X12_ofNew⟩
  · exact ⟨_, xk_X12_dishHere⟩
  · exact ⟨_, xk_X12_aDish⟩
  · exact ⟨_, xk_X12_behindNew⟩
  · exact ⟨_, xk_X12_aPair⟩
theorem xkc_12 : ∀ t ∈ xms_12, ∃ cn, xokQ cn t = true := by
  intro t ht
  simp only [xms_12, List.mem_cons, List.not_mem_nil, or_false] at ht
  rcases ht with rfl | rfl | rfl | rfl | rfl | rfl | rfl | rfl | rfl | rfl | rfl | rfl | rfl | rfl | rfl | rfl | rfl | rfl | rfl | rfl
  · exact ⟨_, xk_X12_thePots⟩
  · exact ⟨_, xk_X12_menuPart⟩
  · exact ⟨_, xk_X12_menu⟩
  · exact ⟨_, xk_X12_planName⟩
  · exact ⟨_, xk_X12_aTest⟩
  · exact ⟨_, xk_X12_step⟩
  · exact ⟨_, xk_X12_plan⟩
  · exact ⟨_, xk_X12_isDish⟩
  · exact ⟨_, xk_X12_sets⟩
  · exact ⟨_, xk_X12_isSet⟩
  · exact ⟨_, xk_X12_has⟩
  · exact ⟨_, xk_X12_of⟩
  · exact ⟨_, xk_X12_partner⟩
  · exact ⟨_, xk_X12_withPartner⟩
  · exact ⟨_, xk_X12_toMake⟩
  · exact ⟨_, xk_X12_workOf⟩
  · exact ⟨_, xk_X12_onceOf⟩
  · exact ⟨_, xk_X12_layerOf⟩
  · exact ⟨_, xk_X12_told⟩
  · exact ⟨_, xk_X12_dish⟩
theorem xkc_13 : ∀ t ∈ xms_13, ∃ cn, xokQ cn t = true := by
  intro t ht
  simp only [xms_13, List.mem_cons, List.not_mem_nil, or_false] at ht
  rcases ht with rfl | rfl | rfl | rfl | rfl | rfl | rfl | rfl | rfl | rfl | rfl | rfl | rfl | rfl | rfl | rfl | rfl | rfl | rfl | rfl
  · exact ⟨_, xk_X12_pot⟩
  · exact ⟨_, xk_X12_counts⟩
  · exact ⟨_, xk_X12_fitsIn⟩
  · exact ⟨_, xk_X12_laysFits⟩
  · exact ⟨_, xk_X12_fits⟩
  · exact ⟨_, xk_X12_neededFor⟩
  · exact ⟨_, xk_X12_needed⟩
  · exact ⟨_, xk_X12_makes⟩
  · exact ⟨_, xk_X12_pours⟩
  · exact ⟨_, xk_X12_ages⟩
  · exact ⟨_, xk_X12_stands⟩
  · exact ⟨_, xk_X12_doneBy⟩
  · exact ⟨_, xk_X12_makesNow⟩
  · exact ⟨_, xk_X12_poursNow⟩
  · exact ⟨_, xk_X12_washesNow⟩
  · exact ⟨_, xk_X12_trustsNow⟩
  · exact ⟨_, xk_X12_showsNow⟩
  · exact ⟨_, xk_X12_make⟩
  · exact ⟨_, xk_X12_pourOver⟩
  · exact ⟨_, xk_X12_wash⟩
theorem xkc_14 : ∀ t ∈ xms_14, ∃ cn, xokQ cn t = true := by
  intro t ht
  simp only [xms_14, List.mem_cons, List.not_mem_nil, or_false] at ht
  rcases ht with rfl | rfl | rfl | rfl | rfl | rfl | rfl | rfl | rfl | rfl | rfl | rfl | rfl | rfl | rfl | rfl | rfl | rfl | rfl | rfl
  · exact ⟨_, xk_X12_trust⟩
  · exact ⟨_, xk_X12_show⟩
  · exact ⟨_, xk_X12_keeps⟩
  · exact ⟨_, xk_X12_empty⟩
  · exact ⟨_, xk_X12_reckons⟩
  · exact ⟨_, xk_X12_takesLess⟩
  · exact ⟨_, xk_X12_betters⟩
  · exact ⟨_, xk_X12_leastWork⟩
  · exact ⟨_, xk_X12_orNone⟩
  · exact ⟨_, xk_X12_work⟩
  · exact ⟨_, xk_X12_steps⟩
  · exact ⟨_, xk_X12_isOnWay⟩
  · exact ⟨_, xk_X12_walks⟩
  · exact ⟨_, xk_X12_first⟩
  · exact ⟨_, xk_X12_firstAt⟩
  · exact ⟨_, xk_X12_comes⟩
  · exact ⟨_, xk_X12_canCome⟩
  · exact ⟨_, xk_X12_fewest⟩
  · exact ⟨_, xk_X12_curve⟩
  · exact ⟨_, xk_X12_stateOf⟩
theorem xkc_15 : ∀ t ∈ xms_15, ∃ cn, xokQ cn t = true := by
  intro t ht
  simp only [xms_15, List.mem_cons, List.not_mem_nil, or_false] at ht
  rcases ht with rfl | rfl | rfl | rfl | rfl | rfl | rfl | rfl | rfl | rfl | rfl | rfl | rfl | rfl | rfl | rfl | rfl | rfl | rfl | rfl
  · exact ⟨_, xk_X12_ofState⟩
  · exact ⟨_, xk_X12_trustsOn⟩
  · exact ⟨_, xk_X12_canTrust⟩
  · exact ⟨_, xk_X12_trustful⟩
  · exact ⟨_, xk_X12_needsOf⟩
  · exact ⟨_, xk_X12_bound⟩
  · exact ⟨_, xk_X12_ruleOf⟩
  · exact ⟨_, xk_X12_treeRule⟩
  · exact ⟨_, xk_X12_doesRounds⟩
  · exact ⟨_, xk_X12_rounds⟩
  · exact ⟨_, xk_X12_spared⟩
  · exact ⟨_, xk_X12_again⟩
  · exact ⟨_, xk_X12_burns⟩
  · exact ⟨_, xk_X12_mayBurn⟩
  · exact ⟨_, xk_X12_acts⟩
  · exact ⟨_, xk_X12_actsAt⟩
  · exact ⟨_, xk_X12_holds⟩
  · exact ⟨_, xk_X12_behindEnds⟩
  · exact ⟨_, xk_X12_cooks⟩
  · exact ⟨_, xk_X12_cook⟩
theorem xkc_16 : ∀ t ∈ xms_16, ∃ cn, xokQ cn t = true := by
  intro t ht
  simp only [xms_16, List.mem_cons, List.not_mem_nil, or_false] at ht
  rcases ht with rfl | rfl | rfl | rfl | rfl | rfl | rfl | rfl | rfl | rfl | rfl
  · exact ⟨_, xk_X12_cooked⟩
  · exact ⟨_, xk_X12_judged⟩
  · exact ⟨_, xk_X12_odds⟩
  · exact ⟨_, xk_X12_copies⟩
  · exact ⟨_, xk_X12_mark⟩
  · exact ⟨_, xk_X12_back⟩
  · exact ⟨_, xk_J6_numberOfTrailingZeros_0f7a4⟩
  · exact ⟨_, xk_J6_bitCount_0f7a4⟩
  · exact ⟨_, xk_J7_fill_d0a16⟩
  · exact ⟨_, xk_J7_fill_53178⟩
  · exact ⟨_, xk_L_law⟩
theorem xk_all {t : xMI} (h : t ∈ xms) : ∃ cn, xokQ cn t = true := by
  unfold xms at h
  simp only [List.mem_append] at h
  rcases h with h | h | h | h | h | h | h | h | h | h | h | h | h | h | h | h | h
  · exact xkc_0 t h
  · exact xkc_1 t h
  · exact xkc_2 t h
  · exact xkc_3 t h
  · exact xkc_4 t h
  · exact xkc_5 t h
  · exact xkc_6 t h
  · exact xkc_7 t h
  · exact xkc_8 t h
  · exact xkc_9 t h
  · exact xkc_10 t h
  · exact xkc_11 t h
  · exact xkc_12 t h
  · exact xkc_13 t h
  · exact xkc_14 t h
  · exact xkc_15 t h
  · exact xkc_16 t h
theorem xnolaw (cn : Nat) : ∀ c ∈ xcpM cn, c.2.2.1 ≠ 330 := by
  intro c hc
  unfold xcpM at hc
  split at hc
  · have h : xcpM_0.all (fun c => !(c.2.2.1 == 330)) = true := by decide +kernel
    simpa using List.all_eq_true.mp h c hc
  · have h : xcpM_1.all (fun c => !(c.2.2.1 == 330)) = true := by decide +kernel
    simpa using List.all_eq_true.mp h c hc
  · have h : xcpM_2.all (fun c => !(c.2.2.1 == 330)) = true := by decide +kernel
    simpa using List.all_eq_true.mp h c hc
  · have h : xcpM_3.all (fun c => !(c.2.2.1 == 330)) = true := by decide +kernel
    simpa using List.all_eq_true.mp h c hc
  · have h : xcpM_4.all (fun c => !(c.2.2.1 == 330)) = true := by decide +kernel
    simpa using List.all_eq_true.mp h c hc
  · have h : xcpM_5.all (fun c => !(c.2.2.1 == 330)) = true := by decide +kernel
    simpa using List.all_eq_true.mp h c hc
  · have h : xcpM_6.all (fun c => !(c.2.2.1 == 330)) = true := by decide +kernel
    simpa using List.all_eq_true.mp h c hc
  · have h : xcpM_7.all (fun c => !(c.2.2.1 == 330)) = true := by decide +kernel
    simpa using List.all_eq_true.mp h c hc
  · have h : xcpM_8.all (fun c => !(c.2.2.1 == 330)) = true := by decide +kernel
    simpa using List.all_eq_true.mp h c hc
  · have h : xcpM_9.all (fun c => !(c.2.2.1 == 330)) = true := by decide +kernel
    simpa using List.all_eq_true.mp h c hc
  · have h : xcpM_10.all (fun c => !(c.2.2.1 == 330)) = true := by decide +kernel
    simpa using List.all_eq_true.mp h c hc
  · have h : xcpM_11.all (fun c => !(c.2.2.1 == 330)) = true := by decide +kernel
    simpa using List.all_eq_true.mp h c hc
  · have h : xcpM_12.all (fun c => !(c.2.2.1 == 330)) = true := by decide +kernel
    simpa using List.all_eq_true.mp h c hc
  · have h : xcpM_13.all (fun c => !(c.2.2.1 == 330)) = true := by decide +kernel
    simpa using List.all_eq_true.mp h c hc
  · have h : xcpM_14.all (fun c => !(c.2.2.1 == 330)) = true := by decide +kernel
    simpa using List.all_eq_true.mp h c hc
  · have h : xcpM_15.all (fun c => !(c.2.2.1 == 330)) = true := by decide +kernel
    simpa using List.all_eq_true.mp h c hc
  · cases hc
