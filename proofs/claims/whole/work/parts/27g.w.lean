/-! WHAT EACH METHOD NEEDS: W: the condition; R: the small machine keeps it (printed by wgen.py) -/
/-- 222: FourPotsModel isSign -/
def W222 (a1 : Int32) (h : TH) (C : Int32 → Prop) : Prop :=
  if ¬ (h.I 197 12) = 4 then (C 0) else (if ¬ (h.I 197 15) = a1 then (C 0) else (C 1))

theorem R222 {d : Nat} {a1 : Int32} {h : TH} {C : Int32 → Prop} (hL : Lay h) (hW : W222 a1 h C) : xPk d 222 [.ref 197, .int a1] h.X (qostI h C) := by
  unfold W222 at hW
  refine kin (Nat.le_of_ble_eq_true rfl) ?_
  refine kst rfl rfl ?_
  refine wgetI rfl (oK12 hL rfl) rfl ?_
  refine kst rfl rfl ?_
  refine wcm_ne rfl hW (fun hW => ?_) (fun hW => ?_)
  · refine kst rfl rfl ?_
    refine kre rfl rfl ?_
    exact ⟨_, rfl, hW⟩
  · refine kst rfl rfl ?_
    refine wgetI rfl (oK12 hL rfl) rfl ?_
    refine kst rfl rfl ?_
    refine wcm_ne rfl hW (fun hW => ?_) (fun hW => ?_)
    · refine kst rfl rfl ?_
      refine kre rfl rfl ?_
      exact ⟨_, rfl, hW⟩
    · iterate 2 (refine kst rfl rfl ?_)
      refine kre rfl rfl ?_
      exact ⟨_, rfl, hW⟩
/-- 223: FourPotsModel inWords -/
def B223_115 (x2 : Int32) (x4 : Int32) (x5 : Int32) (h : TH) (C : Int32 → Prop) (X14 : Int32 × Int32 → Prop) : Prop :=
  if x5 = 0 then (X14 ((x2 + 1), (x4 + 1))) else (C x2)
def F223_68 (x2 : Int32) (x3 : Int32) (x4 : Int32) (h : TH) (C : Int32 → Prop) (X14 : Int32 × Int32 → Prop) (X68 : Int32 × Int32 → Prop) : Int32 × Int32 → Prop := fun
  | (x5, x6) =>
    if x4 ≤ x6 then (B223_115 x2 x4 x5 h C X14) else (if x5 = 0 then (B223_115 x2 x4 x5 h C X14) else (inb x6 125 ∧ W218 (((h.I 197 13) + x6) - x3) h (fun v1 => if ¬ (tx (ix x6)) = v1 then (X68 (0, (x6 + 1))) else (X68 (1, (x6 + 1))))))
def B223_68 (x2 : Int32) (x3 : Int32) (x4 : Int32) (x5 : Int32) (x6 : Int32) (h : TH) (C : Int32 → Prop) (X14 : Int32 × Int32 → Prop) : Prop := LFP (F223_68 x2 x3 x4 h C X14) (x5, x6)
def F223_25 (x2 : Int32) (x3 : Int32) (h : TH) (C : Int32 → Prop) (X14 : Int32 × Int32 → Prop) (X25 : Int32 → Prop) : Int32 → Prop := fun
  | x4 =>
    inb x4 125 ∧ if (tx (ix x4)) = 32 then (if ¬ (x4 - x3) = ((h.I 197 14) - (h.I 197 13)) then (B223_68 x2 x3 x4 0 x3 h C X14) else (B223_68 x2 x3 x4 1 x3 h C X14)) else (X25 (x4 + 1))
def B223_25 (x2 : Int32) (x3 : Int32) (x4 : Int32) (h : TH) (C : Int32 → Prop) (X14 : Int32 × Int32 → Prop) : Prop := LFP (F223_25 x2 x3 h C X14) x4
def F223_14 (h : TH) (C : Int32 → Prop) (X14 : Int32 × Int32 → Prop) : Int32 × Int32 → Prop := fun
  | (x2, x3) =>
    if 125 ≤ x3 then (C (-1)) else (B223_25 x2 x3 x3 h C X14)
def B223_14 (x2 : Int32) (x3 : Int32) (h : TH) (C : Int32 → Prop) : Prop := LFP (F223_14 h C) (x2, x3)
def W223 (h : TH) (C : Int32 → Prop) : Prop :=
  if (h.I 197 12) = 2 then (B223_14 0 1 h C) else (C (-1))

theorem R223_115 {d : Nat} {x2 : Int32} {x4 : Int32} {x5 : Int32} {h : TH} {C : Int32 → Prop} {X14 : Int32 × Int32 → Prop} (k14 : ∀ s : Int32 × Int32, X14 s → xEk (d + 1) 223 (14, [(0, .ref 197), (1, .ref 1000002), (2, .int (s.1)), (3, .int (s.2))], [], (TH.X (h))) (qostI h C)) (hL : Lay h) (hW : B223_115 x2 x4 x5 h C X14) : xEk (d + 1) 223 (115, [(0, .ref 197), (1, .ref 1000002), (2, .int x2), (4, .int x4), (5, .int x5)], [], h.X) (qostI h C) := by
  unfold B223_115 at hW
  refine kst rfl rfl ?_
  refine wif_eq rfl hW (fun hW => ?_) (fun hW => ?_)
  · iterate 6 (refine kst rfl rfl ?_)
    have z9 := k14 ((x2 + 1), (x4 + 1)) hW
    refine wjp ?_ z9
    exact ⟨rfl, rfl, rfl, rfl, trivial⟩
  · refine kst rfl rfl ?_
    refine kre rfl rfl ?_
    exact ⟨_, rfl, hW⟩
theorem R223_68 {d : Nat} {x2 : Int32} {x3 : Int32} {x4 : Int32} {x5 : Int32} {x6 : Int32} {h : TH} {C : Int32 → Prop} {X14 : Int32 × Int32 → Prop} (k14 : ∀ s : Int32 × Int32, X14 s → xEk (d + 1) 223 (14, [(0, .ref 197), (1, .ref 1000002), (2, .int (s.1)), (3, .int (s.2))], [], (TH.X (h))) (qostI h C)) (hL : Lay h) (hW : B223_68 x2 x3 x4 x5 x6 h C X14) : xEk (d + 1) 223 (68, [(0, .ref 197), (1, .ref 1000002), (2, .int x2), (3, .int x3), (4, .int x4), (5, .int x5), (6, .int x6)], [], h.X) (qostI h C) := by
  refine hW (fun s => xEk (d + 1) 223 (68, [(0, .ref 197), (1, .ref 1000002), (2, .int x2), (3, .int x3), (4, .int x4), (5, .int (s.1)), (6, .int (s.2))], [], (TH.X (h))) (qostI h C)) ?_
  rintro ⟨x5, x6⟩ hW 
  have k68 : ∀ s : Int32 × Int32, (fun s => xEk (d + 1) 223 (68, [(0, .ref 197), (1, .ref 1000002), (2, .int x2), (3, .int x3), (4, .int x4), (5, .int (s.1)), (6, .int (s.2))], [], (TH.X (h))) (qostI h C)) s → xEk (d + 1) 223 (68, [(0, .ref 197), (1, .ref 1000002), (2, .int x2), (3, .int x3), (4, .int x4), (5, .int (s.1)), (6, .int (s.2))], [], (TH.X (h))) (qostI h C) := fun s hs => hs
  unfold F223_68 at hW
  dsimp only at hW
  iterate 2 (refine kst rfl rfl ?_)
  refine wcm_ge rfl hW (fun hW => ?_) (fun hW => ?_)
  · refine wjp ?_ (R223_115 (h := h) k14 hL hW)
    exact ⟨rfl, rfl, rfl, rfl, rfl, trivial⟩
  · refine kst rfl rfl ?_
    refine wif_eq rfl hW (fun hW => ?_) (fun hW => ?_)
    · refine wjp ?_ (R223_115 (h := h) k14 hL hW)
      exact ⟨rfl, rfl, rfl, rfl, rfl, trivial⟩
    · iterate 2 (refine kst rfl rfl ?_)
      obtain ⟨q2, hW⟩ := hW
      refine wchr2 rfl (Nat.le_of_ble_eq_true rfl) q2 ?_
      iterate 2 (refine kst rfl rfl ?_)
      refine wgetI rfl (oK12 hL rfl) rfl ?_
      iterate 4 (refine kst rfl rfl ?_)
      refine qcvI rfl (oK12 hL rfl) rfl rfl (R218 (d := d + 0) (h := h) hL hW) (fun v1 hW => ?_)
      refine wcm_ne rfl hW (fun hW => ?_) (fun hW => ?_)
      · iterate 4 (refine kst rfl rfl ?_)
        have z9 := k68 (0, (x6 + 1)) hW
        refine wjp ?_ z9
        exact ⟨rfl, rfl, rfl, rfl, rfl, rfl, rfl, trivial⟩
      · iterate 5 (refine kst rfl rfl ?_)
        have z9 := k68 (1, (x6 + 1)) hW
        refine wjp ?_ z9
        exact ⟨rfl, rfl, rfl, rfl, rfl, rfl, rfl, trivial⟩
theorem R223_25 {d : Nat} {x2 : Int32} {x3 : Int32} {x4 : Int32} {h : TH} {C : Int32 → Prop} {X14 : Int32 × Int32 → Prop} (k14 : ∀ s : Int32 × Int32, X14 s → xEk (d + 1) 223 (14, [(0, .ref 197), (1, .ref 1000002), (2, .int (s.1)), (3, .int (s.2))], [], (TH.X (h))) (qostI h C)) (hL : Lay h) (hW : B223_25 x2 x3 x4 h C X14) : xEk (d + 1) 223 (25, [(0, .ref 197), (1, .ref 1000002), (2, .int x2), (3, .int x3), (4, .int x4)], [], h.X) (qostI h C) := by
  refine hW (fun s => xEk (d + 1) 223 (25, [(0, .ref 197), (1, .ref 1000002), (2, .int x2), (3, .int x3), (4, .int s)], [], (TH.X (h))) (qostI h C)) ?_
  rintro x4 hW 
  have k25 : ∀ s : Int32, (fun s => xEk (d + 1) 223 (25, [(0, .ref 197), (1, .ref 1000002), (2, .int x2), (3, .int x3), (4, .int s)], [], (TH.X (h))) (qostI h C)) s → xEk (d + 1) 223 (25, [(0, .ref 197), (1, .ref 1000002), (2, .int x2), (3, .int x3), (4, .int s)], [], (TH.X (h))) (qostI h C) := fun s hs => hs
  unfold F223_25 at hW
  dsimp only at hW
  iterate 2 (refine kst rfl rfl ?_)
  obtain ⟨q1, hW⟩ := hW
  refine wchr2 rfl (Nat.le_of_ble_eq_true rfl) q1 ?_
  refine kst rfl rfl ?_
  refine wcm_eq rfl hW (fun hW => ?_) (fun hW => ?_)
  · iterate 4 (refine kst rfl rfl ?_)
    refine wgetI rfl (oK12 hL rfl) rfl ?_
    refine kst rfl rfl ?_
    refine wgetI rfl (oK12 hL rfl) rfl ?_
    refine kst rfl rfl ?_
    refine wcm_ne rfl hW (fun hW => ?_) (fun hW => ?_)
    · iterate 4 (refine kst rfl rfl ?_)
      refine wjp ?_ (R223_68 (h := h) k14 hL hW)
      exact ⟨rfl, rfl, rfl, rfl, rfl, rfl, rfl, trivial⟩
    · iterate 5 (refine kst rfl rfl ?_)
      refine wjp ?_ (R223_68 (h := h) k14 hL hW)
      exact ⟨rfl, rfl, rfl, rfl, rfl, rfl, rfl, trivial⟩
  · iterate 2 (refine kst rfl rfl ?_)
    have z9 := k25 (x4 + 1) hW
    refine wjp ?_ z9
    exact ⟨rfl, rfl, rfl, rfl, rfl, trivial⟩
theorem R223_14 {d : Nat} {x2 : Int32} {x3 : Int32} {h : TH} {C : Int32 → Prop} (hL : Lay h) (hW : B223_14 x2 x3 h C) : xEk (d + 1) 223 (14, [(0, .ref 197), (1, .ref 1000002), (2, .int x2), (3, .int x3)], [], h.X) (qostI h C) := by
  refine hW (fun s => xEk (d + 1) 223 (14, [(0, .ref 197), (1, .ref 1000002), (2, .int (s.1)), (3, .int (s.2))], [], (TH.X (h))) (qostI h C)) ?_
  rintro ⟨x2, x3⟩ hW 
  have k14 : ∀ s : Int32 × Int32, (fun s => xEk (d + 1) 223 (14, [(0, .ref 197), (1, .ref 1000002), (2, .int (s.1)), (3, .int (s.2))], [], (TH.X (h))) (qostI h C)) s → xEk (d + 1) 223 (14, [(0, .ref 197), (1, .ref 1000002), (2, .int (s.1)), (3, .int (s.2))], [], (TH.X (h))) (qostI h C) := fun s hs => hs
  unfold F223_14 at hW
  dsimp only at hW
  iterate 2 (refine kst rfl rfl ?_)
  refine wlen rfl (Nat.le_of_ble_eq_true rfl) ?_
  refine wcm_ge rfl hW (fun hW => ?_) (fun hW => ?_)
  · refine kst rfl rfl ?_
    refine kre rfl rfl ?_
    exact ⟨_, rfl, hW⟩
  · iterate 2 (refine kst rfl rfl ?_)
    refine wjp ?_ (R223_25 (h := h) k14 hL hW)
    exact ⟨rfl, rfl, rfl, rfl, rfl, trivial⟩
theorem R223 {d : Nat} {h : TH} {C : Int32 → Prop} (hL : Lay h) (hW : W223  h C) : xPk (d + 1) 223 [.ref 197, .ref 1000002] h.X (qostI h C) := by
  unfold W223 at hW
  refine kin (Nat.le_of_ble_eq_true rfl) ?_
  refine kst rfl rfl ?_
  refine wgetI rfl (oK12 hL rfl) rfl ?_
  refine kst rfl rfl ?_
  refine wcm_eq rfl hW (fun hW => ?_) (fun hW => ?_)
  · iterate 4 (refine kst rfl rfl ?_)
    refine wjp ?_ (R223_14 (h := h) hL hW)
    exact ⟨rfl, rfl, rfl, rfl, trivial⟩
  · refine kst rfl rfl ?_
    refine kre rfl rfl ?_
    exact ⟨_, rfl, hW⟩
/-- 224: FourPotsModel fails -/
def B224_21 (s1 : Int32) (h : TH) (C : Int32 → TH → Prop) : Prop :=
  C 0 ((h.sI 197 18 s1).sI 197 17 ((h.sI 197 18 s1).I 197 13))
def W224 (a1 : Int32) (h : TH) (C : Int32 → TH → Prop) : Prop :=
  if ¬ (h.I 197 18) = 0 then (C 0 h) else (if ¬ (h.I 197 12) = 1 then (B224_21 a1 h C) else (B224_21 1 h C))

theorem R224_21 {d : Nat} {s1 : Int32} {h : TH} {C : Int32 → TH → Prop} (hL : Lay h) (hW : B224_21 s1 h C) : xEk d 224 (21, [(0, .ref 197)], [.int s1, .ref 197], h.X) (postI C) := by
  unfold B224_21 at hW
  refine wputI rfl (oK12 hL rfl) rfl ?_
  replace hL : Lay (h.sI 197 18 s1) := lsI hL
  iterate 2 (refine kst rfl rfl ?_)
  refine wgetI rfl (oK12 hL rfl) rfl ?_
  refine wputI rfl (oK12 hL rfl) rfl ?_
  replace hL : Lay ((h.sI 197 18 s1).sI 197 17 ((h.sI 197 18 s1).I 197 13)) := lsI hL
  refine kst rfl rfl ?_
  refine kre rfl rfl ?_
  exact ⟨_, _, rfl, hL, hW⟩
theorem R224 {d : Nat} {a1 : Int32} {h : TH} {C : Int32 → TH → Prop} (hL : Lay h) (hW : W224 a1 h C) : xPk d 224 [.ref 197, .int a1] h.X (postI C) := by
  unfold W224 at hW
  refine kin (Nat.le_of_ble_eq_true rfl) ?_
  refine kst rfl rfl ?_
  refine wgetI rfl (oK12 hL rfl) rfl ?_
  refine wif_ne rfl hW (fun hW => ?_) (fun hW => ?_)
  · refine kst rfl rfl ?_
    refine kre rfl rfl ?_
    exact ⟨_, _, rfl, hL, hW⟩
  · iterate 2 (refine kst rfl rfl ?_)
    refine wgetI rfl (oK12 hL rfl) rfl ?_
    refine kst rfl rfl ?_
    refine wcm_ne rfl hW (fun hW => ?_) (fun hW => ?_)
    · refine kst rfl rfl ?_
      refine wjp ?_ (R224_21 (h := h) hL hW)
      exact ⟨rfl, trivial⟩
    · iterate 2 (refine kst rfl rfl ?_)
      refine wjp ?_ (R224_21 (h := h) hL hW)
      exact ⟨rfl, trivial⟩
/-- 225: FourPotsModel begins -/
def F225_26 (a1 : Int32) (C : Int32 → TH → Prop) (X26 : Int32 × TH → Prop) : Int32 × TH → Prop := fun
  | (x3, h) =>
    if a1 ≤ x3 then (W221  (((((h.sI 197 10 0).sI 197 18 0).sI 197 17 (-1)).sI 197 14 0).sI 197 19 0) (fun h1 => C 1 h1)) else (inb x3 900 ∧ inb x3 900 ∧ X26 ((x3 + 1), (h.sI 204 (ix x3) ((h.I 203 (ix x3))).toInt8.toInt32)))
def B225_26 (a1 : Int32) (x3 : Int32) (h : TH) (C : Int32 → TH → Prop) : Prop := LFP (F225_26 a1 C) (x3, h)
def W225 (a1 : Int32) (a2 : Int32) (h : TH) (C : Int32 → TH → Prop) : Prop :=
  if a1 < 0 then (C 0 h) else (if (h.I 197 10) < a1 then (C 0 h) else (if a1 ≤ a2 then (B225_26 a1 0 (h.sI 197 11 a1) C) else (C 0 h)))

theorem R225_26 {d : Nat} {a1 : Int32} {x3 : Int32} {h : TH} {C : Int32 → TH → Prop} (hL : Lay h) (hW : B225_26 a1 x3 h C) : xEk (d + 2) 225 (26, [(0, .ref 197), (1, .int a1), (3, .int x3)], [], h.X) (postI C) := by
  refine hW (fun s => Lay (s.2) → xEk (d + 2) 225 (26, [(0, .ref 197), (1, .int a1), (3, .int (s.1))], [], (TH.X (s.2))) (postI C)) ?_ hL
  rintro ⟨x3, h⟩ hW hL
  have k26 : ∀ s : Int32 × TH, (fun s => Lay (s.2) → xEk (d + 2) 225 (26, [(0, .ref 197), (1, .int a1), (3, .int (s.1))], [], (TH.X (s.2))) (postI C)) s → Lay (s.2) → xEk (d + 2) 225 (26, [(0, .ref 197), (1, .int a1), (3, .int (s.1))], [], (TH.X (s.2))) (postI C) := fun s hs => hs
  unfold F225_26 at hW
  dsimp only at hW
  iterate 2 (refine kst rfl rfl ?_)
  refine wcm_ge rfl hW (fun hW => ?_) (fun hW => ?_)
  · iterate 2 (refine kst rfl rfl ?_)
    refine wputI rfl (oK12 hL rfl) rfl ?_
    replace hL : Lay (h.sI 197 10 0) := lsI hL
    iterate 2 (refine kst rfl rfl ?_)
    refine wputI rfl (oK12 hL rfl) rfl ?_
    replace hL : Lay ((h.sI 197 10 0).sI 197 18 0) := lsI hL
    iterate 2 (refine kst rfl rfl ?_)
    refine wputI rfl (oK12 hL rfl) rfl ?_
    replace hL : Lay (((h.sI 197 10 0).sI 197 18 0).sI 197 17 (-1)) := lsI hL
    iterate 2 (refine kst rfl rfl ?_)
    refine wputI rfl (oK12 hL rfl) rfl ?_
    replace hL : Lay ((((h.sI 197 10 0).sI 197 18 0).sI 197 17 (-1)).sI 197 14 0) := lsI hL
    iterate 2 (refine kst rfl rfl ?_)
    refine wputI rfl (oK12 hL rfl) rfl ?_
    replace hL : Lay (((((h.sI 197 10 0).sI 197 18 0).sI 197 17 (-1)).sI 197 14 0).sI 197 19 0) := lsI hL
    refine kst rfl rfl ?_
    refine wcvV rfl (oK12 hL rfl) rfl rfl (R221 (d := d + 0) (h := (((((h.sI 197 10 0).sI 197 18 0).sI 197 17 (-1)).sI 197 14 0).sI 197 19 0)) hL hW) (fun h1 hL hW => ?_)
    refine kst rfl rfl ?_
    refine kre rfl rfl ?_
    exact ⟨_, _, rfl, hL, hW⟩
  · refine kst rfl rfl ?_
    refine wgetP (b := 204) rfl (oK12 hL rfl) rfl (oP12_9 hL) ?_
    iterate 2 (refine kst rfl rfl ?_)
    refine wgetP (b := 203) rfl (oK12 hL rfl) rfl (oP12_8 hL) ?_
    refine kst rfl rfl ?_
    obtain ⟨q1, hW⟩ := hW
    refine wbald rfl (Or.inr (aK12_8 hL)) (aN12_8 hL) (by decide) q1 ?_
    obtain ⟨q2, hW⟩ := hW
    refine wbast rfl (aK12_9 hL) (aN12_9 hL) (by decide) q2 ?_
    replace hL : Lay (h.sI 204 (ix x3) ((h.I 203 (ix x3))).toInt8.toInt32) := lsI hL
    iterate 2 (refine kst rfl rfl ?_)
    have z9 := k26 ((x3 + 1), (h.sI 204 (ix x3) ((h.I 203 (ix x3))).toInt8.toInt32)) hW hL
    refine wjp ?_ z9
    exact ⟨rfl, rfl, rfl, trivial⟩
theorem R225 {d : Nat} {a1 : Int32} {a2 : Int32} {h : TH} {C : Int32 → TH → Prop} (hL : Lay h) (hW : W225 a1 a2 h C) : xPk (d + 2) 225 [.ref 197, .int a1, .int a2] h.X (postI C) := by
  unfold W225 at hW
  refine kin (Nat.le_of_ble_eq_true rfl) ?_
  refine kst rfl rfl ?_
  refine wif_lt rfl hW (fun hW => ?_) (fun hW => ?_)
  · refine kst rfl rfl ?_
    refine kre rfl rfl ?_
    exact ⟨_, _, rfl, hL, hW⟩
  · iterate 2 (refine kst rfl rfl ?_)
    refine wgetI rfl (oK12 hL rfl) rfl ?_
    refine wcm_gt rfl hW (fun hW => ?_) (fun hW => ?_)
    · refine kst rfl rfl ?_
      refine kre rfl rfl ?_
      exact ⟨_, _, rfl, hL, hW⟩
    · iterate 2 (refine kst rfl rfl ?_)
      refine wcm_le rfl hW (fun hW => ?_) (fun hW => ?_)
      · iterate 2 (refine kst rfl rfl ?_)
        refine wputI rfl (oK12 hL rfl) rfl ?_
        replace hL : Lay (h.sI 197 11 a1) := lsI hL
        iterate 2 (refine kst rfl rfl ?_)
        refine wjp ?_ (R225_26 (h := (h.sI 197 11 a1)) hL hW)
        exact ⟨rfl, rfl, rfl, trivial⟩
      · refine kst rfl rfl ?_
        refine kre rfl rfl ?_
        exact ⟨_, _, rfl, hL, hW⟩
/-- 226: FourPotsModel wantSign -/
def W226 (a1 : Int32) (h : TH) (C : Int32 → TH → Prop) : Prop :=
  W222 a1 h (fun v1 => if ¬ v1 = 0 then (W221  h (fun h2 => C 1 h2)) else (W224 2 h (fun v3 h4 => (v3 = 0 ∨ v3 = 1) ∧ C v3 h4)))

theorem R226 {d : Nat} {a1 : Int32} {h : TH} {C : Int32 → TH → Prop} (hL : Lay h) (hW : W226 a1 h C) : xPk (d + 2) 226 [.ref 197, .int a1] h.X (postI C) := by
  unfold W226 at hW
  refine kin (Nat.le_of_ble_eq_true rfl) ?_
  iterate 2 (refine kst rfl rfl ?_)
  refine qcvI rfl (oK12 hL rfl) rfl rfl (R222 (d := d + 1) (h := h) hL hW) (fun v1 hW => ?_)
  refine wif_ne rfl hW (fun hW => ?_) (fun hW => ?_)
  · refine kst rfl rfl ?_
    refine wcvV rfl (oK12 hL rfl) rfl rfl (R221 (d := d + 0) (h := h) hL hW) (fun h2 hL hW => ?_)
    refine kst rfl rfl ?_
    refine kre rfl rfl ?_
    exact ⟨_, _, rfl, hL, hW⟩
  · iterate 2 (refine kst rfl rfl ?_)
    refine wcvI rfl (oK12 hL rfl) rfl rfl (R224 (d := d + 1) (h := h) hL hW) (fun v3 h4 hL hW => ?_)
    obtain ⟨q1, hW⟩ := hW
    refine wrZ rfl q1 ?_
    exact ⟨_, _, rfl, hL, hW⟩
/-- 227: FourPotsModel wantWord -/
def W227 (a2 : Int32) (h : TH) (C : Int32 → TH → Prop) : Prop :=
  W223  h (fun v1 => if v1 = a2 then (W221  h (fun h2 => C 1 h2)) else (W224 2 h (fun v3 h4 => (v3 = 0 ∨ v3 = 1) ∧ C v3 h4)))

theorem R227 {d : Nat} {a2 : Int32} {h : TH} {C : Int32 → TH → Prop} (hL : Lay h) (hW : W227 a2 h C) : xPk (d + 2) 227 [.ref 197, .ref 1000002, .int a2] h.X (postI C) := by
  unfold W227 at hW
  refine kin (Nat.le_of_ble_eq_true rfl) ?_
  iterate 2 (refine kst rfl rfl ?_)
  refine qcvI rfl (oK12 hL rfl) rfl rfl (R223 (d := d + 0) (h := h) hL hW) (fun v1 hW => ?_)
  refine kst rfl rfl ?_
  refine wcm_eq rfl hW (fun hW => ?_) (fun hW => ?_)
  · refine kst rfl rfl ?_
    refine wcvV rfl (oK12 hL rfl) rfl rfl (R221 (d := d + 0) (h := h) hL hW) (fun h2 hL hW => ?_)
    refine kst rfl rfl ?_
    refine kre rfl rfl ?_
    exact ⟨_, _, rfl, hL, hW⟩
  · iterate 2 (refine kst rfl rfl ?_)
    refine wcvI rfl (oK12 hL rfl) rfl rfl (R224 (d := d + 1) (h := h) hL hW) (fun v3 h4 hL hW => ?_)
    obtain ⟨q1, hW⟩ := hW
    refine wrZ rfl q1 ?_
    exact ⟨_, _, rfl, hL, hW⟩
/-- 228: FourPotsModel number -/
def W228 (a1 : Int32) (a2 : Int32) (a3 : Int32) (h : TH) (C : Int32 → TH → Prop) : Prop :=
  if (h.I 197 12) = 3 then (if (h.I 197 15) < a2 then (W224 4 h (fun v1 h2 => (v1 = 0 ∨ v1 = 1) ∧ C v1 h2)) else (if (h.I 197 15) ≤ a3 then (inb a1 2200 ∧ W221  (h.sI 198 (ix a1) (h.I 197 15)) (fun h3 => C 1 h3)) else (W224 4 h (fun v4 h5 => (v4 = 0 ∨ v4 = 1) ∧ C v4 h5)))) else (W224 2 h (fun v6 h7 => (v6 = 0 ∨ v6 = 1) ∧ C v6 h7))

theorem R228 {d : Nat} {a1 : Int32} {a2 : Int32} {a3 : Int32} {h : TH} {C : Int32 → TH → Prop} (hL : Lay h) (hW : W228 a1 a2 a3 h C) : xPk (d + 2) 228 [.ref 197, .int a1, .int a2, .int a3] h.X (postI C) := by
  unfold W228 at hW
  refine kin (Nat.le_of_ble_eq_true rfl) ?_
  refine kst rfl rfl ?_
  refine wgetI rfl (oK12 hL rfl) rfl ?_
  refine kst rfl rfl ?_
  refine wcm_eq rfl hW (fun hW => ?_) (fun hW => ?_)
  · refine kst rfl rfl ?_
    refine wgetI rfl (oK12 hL rfl) rfl ?_
    refine kst rfl rfl ?_
    refine wcm_lt rfl hW (fun hW => ?_) (fun hW => ?_)
    · iterate 2 (refine kst rfl rfl ?_)
      refine wcvI rfl (oK12 hL rfl) rfl rfl (R224 (d := d + 1) (h := h) hL hW) (fun v1 h2 hL hW => ?_)
      obtain ⟨q1, hW⟩ := hW
      refine wrZ rfl q1 ?_
      exact ⟨_, _, rfl, hL, hW⟩
    · refine kst rfl rfl ?_
      refine wgetI rfl (oK12 hL rfl) rfl ?_
      refine kst rfl rfl ?_
      refine wcm_le rfl hW (fun hW => ?_) (fun hW => ?_)
      · refine kst rfl rfl ?_
        refine wgetP (b := 198) rfl (oK12 hL rfl) rfl (oP12_0 hL) ?_
        iterate 2 (refine kst rfl rfl ?_)
        refine wgetI rfl (oK12 hL rfl) rfl ?_
        obtain ⟨q1, hW⟩ := hW
        refine wast rfl (aK12_0 hL) (aN12_0 hL) (by decide) q1 ?_
        replace hL : Lay (h.sI 198 (ix a1) (h.I 197 15)) := lsI hL
        refine kst rfl rfl ?_
        refine wcvV rfl (oK12 hL rfl) rfl rfl (R221 (d := d + 0) (h := (h.sI 198 (ix a1) (h.I 197 15))) hL hW) (fun h3 hL hW => ?_)
        refine kst rfl rfl ?_
        refine kre rfl rfl ?_
        exact ⟨_, _, rfl, hL, hW⟩
      · iterate 2 (refine kst rfl rfl ?_)
        refine wcvI rfl (oK12 hL rfl) rfl rfl (R224 (d := d + 1) (h := h) hL hW) (fun v4 h5 hL hW => ?_)
        obtain ⟨q1, hW⟩ := hW
        refine wrZ rfl q1 ?_
        exact ⟨_, _, rfl, hL, hW⟩
  · iterate 2 (refine kst rfl rfl ?_)
    refine wcvI rfl (oK12 hL rfl) rfl rfl (R224 (d := d + 1) (h := h) hL hW) (fun v6 h7 hL hW => ?_)
    obtain ⟨q1, hW⟩ := hW
    refine wrZ rfl q1 ?_
    exact ⟨_, _, rfl, hL, hW⟩
/-- 229: FourPotsModel isName -/
def W229 (h : TH) (C : Int32 → Prop) : Prop :=
  if ¬ (h.I 197 12) = 2 then (C 0) else (if 8 < ((h.I 197 14) - (h.I 197 13)) then (C 0) else (W223  h (fun v1 => if ¬ v1 = (-1) then (C 0) else (C 1))))

theorem R229 {d : Nat} {h : TH} {C : Int32 → Prop} (hL : Lay h) (hW : W229  h C) : xPk (d + 2) 229 [.ref 197, .ref 1000002] h.X (qostI h C) := by
  unfold W229 at hW
  refine kin (Nat.le_of_ble_eq_true rfl) ?_
  refine kst rfl rfl ?_
  refine wgetI rfl (oK12 hL rfl) rfl ?_
  refine kst rfl rfl ?_
  refine wcm_ne rfl hW (fun hW => ?_) (fun hW => ?_)
  · refine kst rfl rfl ?_
    refine kre rfl rfl ?_
    exact ⟨_, rfl, hW⟩
  · refine kst rfl rfl ?_
    refine wgetI rfl (oK12 hL rfl) rfl ?_
    refine kst rfl rfl ?_
    refine wgetI rfl (oK12 hL rfl) rfl ?_
    iterate 2 (refine kst rfl rfl ?_)
    refine wcm_gt rfl hW (fun hW => ?_) (fun hW => ?_)
    · refine kst rfl rfl ?_
      refine kre rfl rfl ?_
      exact ⟨_, rfl, hW⟩
    · iterate 2 (refine kst rfl rfl ?_)
      refine qcvI rfl (oK12 hL rfl) rfl rfl (R223 (d := d + 0) (h := h) hL hW) (fun v1 hW => ?_)
      refine kst rfl rfl ?_
      refine wcm_ne rfl hW (fun hW => ?_) (fun hW => ?_)
      · refine kst rfl rfl ?_
        refine kre rfl rfl ?_
        exact ⟨_, rfl, hW⟩
      · iterate 2 (refine kst rfl rfl ?_)
        refine kre rfl rfl ?_
        exact ⟨_, rfl, hW⟩
/-- 230: FourPotsModel nameHere -/
def F230_7 (h : TH) (C : Int64 → Prop) (X7 : Int64 × Int32 → Prop) : Int64 × Int32 → Prop := fun
  | (x1, x3) =>
    if (h.I 197 14) ≤ x3 then (C x1) else (W218 x3 h (fun v1 => X7 (((lshl x1 8) ||| (v1).toInt64), (x3 + 1))))
def B230_7 (x1 : Int64) (x3 : Int32) (h : TH) (C : Int64 → Prop) : Prop := LFP (F230_7 h C) (x1, x3)
def W230 (h : TH) (C : Int64 → Prop) : Prop :=
  B230_7 0 (h.I 197 13) h C

theorem R230_7 {d : Nat} {x1 : Int64} {x3 : Int32} {h : TH} {C : Int64 → Prop} (hL : Lay h) (hW : B230_7 x1 x3 h C) : xEk (d + 1) 230 (7, [(0, .ref 197), (1, .long x1), (3, .int x3)], [], h.X) (qostL h C) := by
  refine hW (fun s => xEk (d + 1) 230 (7, [(0, .ref 197), (1, .long (s.1)), (3, .int (s.2))], [], (TH.X (h))) (qostL h C)) ?_
  rintro ⟨x1, x3⟩ hW 
  have k7 : ∀ s : Int64 × Int32, (fun s => xEk (d + 1) 230 (7, [(0, .ref 197), (1, .long (s.1)), (3, .int (s.2))], [], (TH.X (h))) (qostL h C)) s → xEk (d + 1) 230 (7, [(0, .ref 197), (1, .long (s.1)), (3, .int (s.2))], [], (TH.X (h))) (qostL h C) := fun s hs => hs
  unfold F230_7 at hW
  dsimp only at hW
  iterate 2 (refine kst rfl rfl ?_)
  refine wgetI rfl (oK12 hL rfl) rfl ?_
  refine wcm_ge rfl hW (fun hW => ?_) (fun hW => ?_)
  · refine kst rfl rfl ?_
    refine kre rfl rfl ?_
    exact ⟨_, rfl, hW⟩
  · iterate 5 (refine kst rfl rfl ?_)
    refine qcvI rfl (oK12 hL rfl) rfl rfl (R218 (d := d + 0) (h := h) hL hW) (fun v1 hW => ?_)
    iterate 5 (refine kst rfl rfl ?_)
    have z9 := k7 (((lshl x1 8) ||| (v1).toInt64), (x3 + 1)) hW
    refine wjp ?_ z9
    exact ⟨rfl, rfl, rfl, trivial⟩
theorem R230 {d : Nat} {h : TH} {C : Int64 → Prop} (hL : Lay h) (hW : W230  h C) : xPk (d + 1) 230 [.ref 197] h.X (qostL h C) := by
  unfold W230 at hW
  refine kin (Nat.le_of_ble_eq_true rfl) ?_
  iterate 3 (refine kst rfl rfl ?_)
  refine wgetI rfl (oK12 hL rfl) rfl ?_
  refine kst rfl rfl ?_
  refine wjp ?_ (R230_7 (h := h) hL hW)
  exact ⟨rfl, rfl, rfl, trivial⟩
/-- 231: FourPotsModel findHere -/
def F231_2 (a1 : Int32) (a2 : Int32) (h : TH) (C : Int32 → Prop) (X2 : Int32 → Prop) : Int32 → Prop := fun
  | x3 =>
    if a2 ≤ x3 then (C (-1)) else (inb (a1 + x3) 60 ∧ W230  h (fun v1 => if ¬ (lg_cmp (h.J 199 (ix (a1 + x3))) v1) = 0 then (X2 (x3 + 1)) else (C x3)))
def B231_2 (a1 : Int32) (a2 : Int32) (x3 : Int32) (h : TH) (C : Int32 → Prop) : Prop := LFP (F231_2 a1 a2 h C) x3
def W231 (a1 : Int32) (a2 : Int32) (h : TH) (C : Int32 → Prop) : Prop :=
  B231_2 a1 a2 0 h C

theorem R231_2 {d : Nat} {a1 : Int32} {a2 : Int32} {x3 : Int32} {h : TH} {C : Int32 → Prop} (hL : Lay h) (hW : B231_2 a1 a2 x3 h C) : xEk (d + 2) 231 (2, [(0, .ref 197), (1, .int a1), (2, .int a2), (3, .int x3)], [], h.X) (qostI h C) := by
  refine hW (fun s => xEk (d + 2) 231 (2, [(0, .ref 197), (1, .int a1), (2, .int a2), (3, .int s)], [], (TH.X (h))) (qostI h C)) ?_
  rintro x3 hW 
  have k2 : ∀ s : Int32, (fun s => xEk (d + 2) 231 (2, [(0, .ref 197), (1, .int a1), (2, .int a2), (3, .int s)], [], (TH.X (h))) (qostI h C)) s → xEk (d + 2) 231 (2, [(0, .ref 197), (1, .int a1), (2, .int a2), (3, .int s)], [], (TH.X (h))) (qostI h C) := fun s hs => hs
  unfold F231_2 at hW
  dsimp only at hW
  iterate 2 (refine kst rfl rfl ?_)
  refine wcm_ge rfl hW (fun hW => ?_) (fun hW => ?_)
  · refine kst rfl rfl ?_
    refine kre rfl rfl ?_
    exact ⟨_, rfl, hW⟩
  · refine kst rfl rfl ?_
    refine wgetP (b := 199) rfl (oK12 hL rfl) rfl (oP12_1 hL) ?_
    iterate 3 (refine kst rfl rfl ?_)
    obtain ⟨q1, hW⟩ := hW
    refine wlald rfl (aK12_1 hL) (aN12_1 hL) (by decide) q1 ?_
    refine kst rfl rfl ?_
    refine qcvL rfl (oK12 hL rfl) rfl rfl (R230 (d := d + 0) (h := h) hL hW) (fun v1 hW => ?_)
    refine kst rfl rfl ?_
    refine wif_ne rfl hW (fun hW => ?_) (fun hW => ?_)
    · iterate 2 (refine kst rfl rfl ?_)
      have z9 := k2 (x3 + 1) hW
      refine wjp ?_ z9
      exact ⟨rfl, rfl, rfl, rfl, trivial⟩
    · refine kst rfl rfl ?_
      refine kre rfl rfl ?_
      exact ⟨_, rfl, hW⟩
theorem R231 {d : Nat} {a1 : Int32} {a2 : Int32} {h : TH} {C : Int32 → Prop} (hL : Lay h) (hW : W231 a1 a2 h C) : xPk (d + 2) 231 [.ref 197, .int a1, .int a2] h.X (qostI h C) := by
  unfold W231 at hW
  refine kin (Nat.le_of_ble_eq_true rfl) ?_
  iterate 2 (refine kst rfl rfl ?_)
  refine wjp ?_ (R231_2 (h := h) hL hW)
  exact ⟨rfl, rfl, rfl, rfl, trivial⟩
/-- 232: FourPotsModel fault -/
def W232 (a1 : Int32) (h : TH) (C : Int32 → Prop) : Prop :=
  if ¬ a1 = 0 then (if ¬ a1 = 1 then (C (-1)) else (C (h.I 197 17))) else (C (h.I 197 16))

theorem R232 {d : Nat} {a1 : Int32} {h : TH} {C : Int32 → Prop} (hL : Lay h) (hW : W232 a1 h C) : xPk d 232 [.ref 197, .int a1] h.X (qostI h C) := by
  unfold W232 at hW
  refine kin (Nat.le_of_ble_eq_true rfl) ?_
  refine kst rfl rfl ?_
  refine wif_ne rfl hW (fun hW => ?_) (fun hW => ?_)
  · iterate 2 (refine kst rfl rfl ?_)
    refine wcm_ne rfl hW (fun hW => ?_) (fun hW => ?_)
    · refine kst rfl rfl ?_
      refine kre rfl rfl ?_
      exact ⟨_, rfl, hW⟩
    · refine kst rfl rfl ?_
      refine wgetI rfl (oK12 hL rfl) rfl ?_
      refine kst rfl rfl ?_
      refine kre rfl rfl ?_
      exact ⟨_, rfl, hW⟩
  · refine kst rfl rfl ?_
    refine wgetI rfl (oK12 hL rfl) rfl ?_
    refine kst rfl rfl ?_
    refine kre rfl rfl ?_
    exact ⟨_, rfl, hW⟩
/-- 233: FourPotsModel taken -/
def W233 (a1 : Int32) (h : TH) (C : Int32 → TH → Prop) : Prop :=
  if ((h.sI 197 16 (h.I 197 18)).I 197 18) ≤ 0 then (W206 a1 (h.sI 197 16 (h.I 197 18)) (fun v1 h2 => C v1 h2)) else (W205 9 (h.sI 197 16 (h.I 197 18)) (fun v3 h4 => C v3 h4))

theorem R233 {d : Nat} {a1 : Int32} {h : TH} {C : Int32 → TH → Prop} (hL : Lay h) (hW : W233 a1 h C) : xPk (d + 1) 233 [.ref 197, .int a1] h.X (postI C) := by
  unfold W233 at hW
  refine kin (Nat.le_of_ble_eq_true rfl) ?_
  iterate 2 (refine kst rfl rfl ?_)
  refine wgetI rfl (oK12 hL rfl) rfl ?_
  refine wputI rfl (oK12 hL rfl) rfl ?_
  replace hL : Lay (h.sI 197 16 (h.I 197 18)) := lsI hL
  refine kst rfl rfl ?_
  refine wgetI rfl (oK12 hL rfl) rfl ?_
  refine wif_le rfl hW (fun hW => ?_) (fun hW => ?_)
  · iterate 2 (refine kst rfl rfl ?_)
    refine wcvI rfl (oK12 hL rfl) rfl rfl (R206 (d := d + 0) (h := (h.sI 197 16 (h.I 197 18))) hL hW) (fun v1 h2 hL hW => ?_)
    refine kre rfl rfl ?_
    exact ⟨_, _, rfl, hL, hW⟩
  · iterate 2 (refine kst rfl rfl ?_)
    refine wcvI rfl (oK12 hL rfl) rfl rfl (R205 (d := d + 0) (h := (h.sI 197 16 (h.I 197 18))) hL hW) (fun v3 h4 hL hW => ?_)
    refine kst rfl rfl ?_
    refine kre rfl rfl ?_
    exact ⟨_, _, rfl, hL, hW⟩
/-- 234: FourPotsModel bits -/
def F234_4 (h : TH) (C : Int32 → Prop) (X4 : Int32 × Int32 → Prop) : Int32 × Int32 → Prop := fun
  | (x1, x2) =>
    if x2 = 0 then (C x1) else (X4 ((x1 + 1), (x2 &&& (x2 - 1))))
def B234_4 (x1 : Int32) (x2 : Int32) (h : TH) (C : Int32 → Prop) : Prop := LFP (F234_4 h C) (x1, x2)
def W234 (a1 : Int32) (h : TH) (C : Int32 → Prop) : Prop :=
  B234_4 0 a1 h C

theorem R234_4 {d : Nat} {x1 : Int32} {x2 : Int32} {h : TH} {C : Int32 → Prop} (hL : Lay h) (hW : B234_4 x1 x2 h C) : xEk d 234 (4, [(1, .int x1), (2, .int x2)], [], h.X) (qostI h C) := by
  refine hW (fun s => xEk d 234 (4, [(1, .int (s.1)), (2, .int (s.2))], [], (TH.X (h))) (qostI h C)) ?_
  rintro ⟨x1, x2⟩ hW 
  have k4 : ∀ s : Int32 × Int32, (fun s => xEk d 234 (4, [(1, .int (s.1)), (2, .int (s.2))], [], (TH.X (h))) (qostI h C)) s → xEk d 234 (4, [(1, .int (s.1)), (2, .int (s.2))], [], (TH.X (h))) (qostI h C) := fun s hs => hs
  unfold F234_4 at hW
  dsimp only at hW
  refine kst rfl rfl ?_
  refine wif_eq rfl hW (fun hW => ?_) (fun hW => ?_)
  · refine kst rfl rfl ?_
    refine kre rfl rfl ?_
    exact ⟨_, rfl, hW⟩
  · iterate 8 (refine kst rfl rfl ?_)
    have z9 := k4 ((x1 + 1), (x2 &&& (x2 - 1))) hW
    refine wjp ?_ z9
    exact ⟨rfl, rfl, trivial⟩
theorem R234 {d : Nat} {a1 : Int32} {h : TH} {C : Int32 → Prop} (hL : Lay h) (hW : W234 a1 h C) : xPk d 234 [.int a1] h.X (qostI h C) := by
  unfold W234 at hW
  refine kin (Nat.le_of_ble_eq_true rfl) ?_
  iterate 4 (refine kst rfl rfl ?_)
  refine wjp ?_ (R234_4 (h := h) hL hW)
  exact ⟨rfl, rfl, trivial⟩
/-- 235: FourPotsModel ofNew -/
def W235 (a1 : Int32) (a2 : Int32) (h : TH) (C : Int32 → Prop) : Prop :=
  inb ((1776 + (8 * a1)) + a2) 2200 ∧ C (h.I 198 (ix ((1776 + (8 * a1)) + a2)))

theorem R235 {d : Nat} {a1 : Int32} {a2 : Int32} {h : TH} {C : Int32 → Prop} (hL : Lay h) (hW : W235 a1 a2 h C) : xPk d 235 [.ref 197, .int a1, .int a2] h.X (qostI h C) := by
  unfold W235 at hW
  refine kin (Nat.le_of_ble_eq_true rfl) ?_
  refine kst rfl rfl ?_
  refine wgetP (b := 198) rfl (oK12 hL rfl) rfl (oP12_0 hL) ?_
  iterate 7 (refine kst rfl rfl ?_)
  obtain ⟨q1, hW⟩ := hW
  refine wald rfl (Or.inl (aK12_0 hL)) (aN12_0 hL) (by decide) q1 ?_
  refine kre rfl rfl ?_
  exact ⟨_, rfl, hW⟩
/-- 236: FourPotsModel dishHere -/
def W236 (a1 : Int32) (a2 : Int32) (h : TH) (C : Int32 → TH → Prop) : Prop :=
  W229  h (fun v1 => if ¬ v1 = 0 then (W231 a1 a2 h (fun v2 => if ¬ v2 = (-1) then (C v2 h) else (W224 3 h (fun v3 h4 => C v2 h4)))) else (W224 2 h (fun v5 h6 => C (-1) h6)))

theorem R236 {d : Nat} {a1 : Int32} {a2 : Int32} {h : TH} {C : Int32 → TH → Prop} (hL : Lay h) (hW : W236 a1 a2 h C) : xPk (d + 3) 236 [.ref 197, .int a1, .int a2] h.X (postI C) := by
  unfold W236 at hW
  refine kin (Nat.le_of_ble_eq_true rfl) ?_
  iterate 2 (refine kst rfl rfl ?_)
  refine qcvI rfl (oK12 hL rfl) rfl rfl (R229 (d := d + 0) (h := h) hL hW) (fun v1 hW => ?_)
  refine wif_ne rfl hW (fun hW => ?_) (fun hW => ?_)
  · iterate 3 (refine kst rfl rfl ?_)
    refine qcvI rfl (oK12 hL rfl) rfl rfl (R231 (d := d + 0) (h := h) hL hW) (fun v2 hW => ?_)
    iterate 3 (refine kst rfl rfl ?_)
    refine wcm_ne rfl hW (fun hW => ?_) (fun hW => ?_)
    · refine kst rfl rfl ?_
      refine kre rfl rfl ?_
      exact ⟨_, _, rfl, hL, hW⟩
    · iterate 2 (refine kst rfl rfl ?_)
      refine wcvI rfl (oK12 hL rfl) rfl rfl (R224 (d := d + 2) (h := h) hL hW) (fun v3 h4 hL hW => ?_)
      iterate 2 (refine kst rfl rfl ?_)
      refine kre rfl rfl ?_
      exact ⟨_, _, rfl, hL, hW⟩
  · iterate 2 (refine kst rfl rfl ?_)
    refine wcvI rfl (oK12 hL rfl) rfl rfl (R224 (d := d + 2) (h := h) hL hW) (fun v5 h6 hL hW => ?_)
    iterate 2 (refine kst rfl rfl ?_)
    refine kre rfl rfl ?_
    exact ⟨_, _, rfl, hL, hW⟩
/-- 237: FourPotsModel aDish -/
def B237_391 (h : TH) (C : Int32 → TH → Prop) : Prop :=
  C 1 (h.sI 198 (ix 1760) ((h.I 198 (ix 1760)) + 1))
def B237_366 (x2 : Int32) (h : TH) (C : Int32 → TH → Prop) : Prop :=
  W223  h (fun v12 => if ¬ v12 = 9 then (B237_391 h C) else (inb (x2 + 6) 2200 ∧ W221  (h.sI 198 (ix (x2 + 6)) 1) (fun h13 => B237_391 h13 C)))
def B237_324 (x2 : Int32) (h : TH) (C : Int32 → TH → Prop) : Prop :=
  W223  h (fun v11 => if ¬ v11 = 8 then (B237_366 x2 h C) else (inb (x2 + 4) 2200 ∧ if ¬ (h.I 198 (ix (x2 + 4))) = 0 then (inb (x2 + 5) 2200 ∧ W221  (h.sI 198 (ix (x2 + 5)) 1) (fun h12 => B237_366 x2 h12 C)) else (W224 7 h (fun v13 h14 => (v13 = 0 ∨ v13 = 1) ∧ C v13 h14))))
def F237_257 (x1 : Int32) (x2 : Int32) (C : Int32 → TH → Prop) (X257 : TH → Prop) : TH → Prop := fun
  | h =>
    W229  h (fun v13 => if v13 = 0 then (B237_324 x2 h C) else (W236 48 x1 h (fun v14 h15 => if ¬ v14 = (-1) then (inb (x2 + 4) 2200 ∧ if ¬ ((ishr (h15.I 198 (ix (x2 + 4))) v14) &&& 1) = 1 then (inb (x2 + 4) 2200 ∧ inb (x2 + 4) 2200 ∧ W221  (h15.sI 198 (ix (x2 + 4)) ((h15.I 198 (ix (x2 + 4))) ||| (ishl 1 v14))) (fun h16 => X257 h16)) else (W224 5 h15 (fun v17 h18 => (v17 = 0 ∨ v17 = 1) ∧ C v17 h18))) else (C 0 h15))))
def B237_257 (x1 : Int32) (x2 : Int32) (h : TH) (C : Int32 → TH → Prop) : Prop := LFP (F237_257 x1 x2 C) h
def B237_213 (x1 : Int32) (x2 : Int32) (x3 : Int32) (s1 : Int32) (s2 : Int32) (s3 : Int32) (h : TH) (C : Int32 → TH → Prop) (X151 : Int32 × TH → Prop) : Prop :=
  W228 s1 s2 s3 h (fun v17 h18 => if ¬ v17 = 0 then (X151 ((x3 + 1), h18)) else (C 0 h18))
def B237_191 (x1 : Int32) (x2 : Int32) (x3 : Int32) (s1 : Int32) (s2 : Int32) (h : TH) (C : Int32 → TH → Prop) (X151 : Int32 × TH → Prop) : Prop :=
  if ¬ x3 = 4 then (if ¬ x3 = 5 then (B237_213 x1 x2 x3 s1 s2 15 h C X151) else (B237_213 x1 x2 x3 s1 s2 99 h C X151)) else (B237_213 x1 x2 x3 s1 s2 9 h C X151)
def F237_151 (x1 : Int32) (x2 : Int32) (C : Int32 → TH → Prop) (X151 : Int32 × TH → Prop) : Int32 × TH → Prop := fun
  | (x3, h) =>
    if 6 < x3 then (W223  h (fun v10 => if ¬ v10 = 7 then (B237_324 x2 h C) else (W221  h (fun h11 => W229  h11 (fun v12 => if ¬ v12 = 0 then (B237_257 x1 x2 h11 C) else (W224 2 h11 (fun v13 h14 => (v13 = 0 ∨ v13 = 1) ∧ C v13 h14))))))) else (W223  h (fun v15 => if v15 = x3 then (W221  h (fun h16 => if ¬ x3 = 6 then (B237_191 x1 x2 x3 ((x2 + x3) - 3) 1 h16 C X151) else (B237_191 x1 x2 x3 ((x2 + x3) - 3) 0 h16 C X151))) else (X151 ((x3 + 1), h))))
def B237_151 (x1 : Int32) (x2 : Int32) (x3 : Int32) (h : TH) (C : Int32 → TH → Prop) : Prop := LFP (F237_151 x1 x2 C) (x3, h)
def F237_86 (x1 : Int32) (x2 : Int32) (C : Int32 → TH → Prop) (X86 : Int32 × TH → Prop) : Int32 × TH → Prop := fun
  | (x3, h) =>
    if 8 ≤ x3 then (W227 3 h (fun v6 h7 => if v6 = 0 then (C 0 h7) else (W228 x2 0 99 h7 (fun v8 h9 => if ¬ v8 = 0 then (B237_151 x1 x2 4 h9 C) else (C 0 h9))))) else (if ¬ x3 = 1 then (if ¬ x3 = 7 then (inb (x2 + x3) 2200 ∧ X86 ((x3 + 1), (h.sI 198 (ix (x2 + x3)) 0))) else (inb (x2 + x3) 2200 ∧ X86 ((x3 + 1), (h.sI 198 (ix (x2 + x3)) (-1))))) else (inb (x2 + x3) 2200 ∧ X86 ((x3 + 1), (h.sI 198 (ix (x2 + x3)) 1))))
def B237_86 (x1 : Int32) (x2 : Int32) (x3 : Int32) (h : TH) (C : Int32 → TH → Prop) : Prop := LFP (F237_86 x1 x2 C) (x3, h)
def W237 (h : TH) (C : Int32 → TH → Prop) : Prop :=
  if ¬ (h.I 198 (ix 1760)) = 12 then (W221  h (fun h1 => W229  h1 (fun v2 => if ¬ v2 = 0 then (W231 48 (h.I 198 (ix 1760)) h1 (fun v3 => if v3 = (-1) then (W230  h1 (fun v4 => inb (48 + (h.I 198 (ix 1760))) 60 ∧ W221  (h1.sJ 199 (ix (48 + (h.I 198 (ix 1760)))) v4) (fun h5 => B237_86 (h.I 198 (ix 1760)) (1776 + (8 * (h.I 198 (ix 1760)))) 0 h5 C))) else (W224 3 h1 (fun v6 h7 => (v6 = 0 ∨ v6 = 1) ∧ C v6 h7)))) else (W224 2 h1 (fun v8 h9 => (v8 = 0 ∨ v8 = 1) ∧ C v8 h9))))) else (W224 6 h (fun v10 h11 => (v10 = 0 ∨ v10 = 1) ∧ C v10 h11))

theorem R237_391 {d : Nat} {h : TH} {C : Int32 → TH → Prop} (hL : Lay h) (hW : B237_391 h C) : xEk (d + 4) 237 (391, [(0, .ref 197)], [], h.X) (postI C) := by
  unfold B237_391 at hW
  refine kst rfl rfl ?_
  refine wgetP (b := 198) rfl (oK12 hL rfl) rfl (oP12_0 hL) ?_
  iterate 2 (refine kst rfl rfl ?_)
  refine wald rfl (Or.inl (aK12_0 hL)) (aN12_0 hL) (by decide) ⟨by decide, by decide⟩ ?_
  iterate 2 (refine kst rfl rfl ?_)
  refine wast rfl (aK12_0 hL) (aN12_0 hL) (by decide) ⟨by decide, by decide⟩ ?_
  replace hL : Lay (h.sI 198 (ix 1760) ((h.I 198 (ix 1760)) + 1)) := lsI hL
  refine kst rfl rfl ?_
  refine kre rfl rfl ?_
  exact ⟨_, _, rfl, hL, hW⟩
theorem R237_366 {d : Nat} {x2 : Int32} {h : TH} {C : Int32 → TH → Prop} (hL : Lay h) (hW : B237_366 x2 h C) : xEk (d + 4) 237 (366, [(0, .ref 197), (2, .int x2)], [], h.X) (postI C) := by
  unfold B237_366 at hW
  iterate 2 (refine kst rfl rfl ?_)
  refine qcvI rfl (oK12 hL rfl) rfl rfl (R223 (d := d + 2) (h := h) hL hW) (fun v12 hW => ?_)
  refine kst rfl rfl ?_
  refine wcm_ne rfl hW (fun hW => ?_) (fun hW => ?_)
  · refine wjp ?_ (R237_391 (h := h) hL hW)
    exact ⟨rfl, trivial⟩
  · refine kst rfl rfl ?_
    refine wgetP (b := 198) rfl (oK12 hL rfl) rfl (oP12_0 hL) ?_
    iterate 4 (refine kst rfl rfl ?_)
    obtain ⟨q2, hW⟩ := hW
    refine wast rfl (aK12_0 hL) (aN12_0 hL) (by decide) q2 ?_
    replace hL : Lay (h.sI 198 (ix (x2 + 6)) 1) := lsI hL
    refine kst rfl rfl ?_
    refine wcvV rfl (oK12 hL rfl) rfl rfl (R221 (d := d + 2) (h := (h.sI 198 (ix (x2 + 6)) 1)) hL hW) (fun h13 hL hW => ?_)
    refine wjp ?_ (R237_391 (h := h13) hL hW)
    exact ⟨rfl, trivial⟩
theorem R237_324 {d : Nat} {x2 : Int32} {h : TH} {C : Int32 → TH → Prop} (hL : Lay h) (hW : B237_324 x2 h C) : xEk (d + 4) 237 (324, [(0, .ref 197), (2, .int x2)], [], h.X) (postI C) := by
  unfold B237_324 at hW
  iterate 2 (refine kst rfl rfl ?_)
  refine qcvI rfl (oK12 hL rfl) rfl rfl (R223 (d := d + 2) (h := h) hL hW) (fun v11 hW => ?_)
  refine kst rfl rfl ?_
  refine wcm_ne rfl hW (fun hW => ?_) (fun hW => ?_)
  · refine wjp ?_ (R237_366 (h := h) hL hW)
    exact ⟨rfl, rfl, trivial⟩
  · refine kst rfl rfl ?_
    refine wgetP (b := 198) rfl (oK12 hL rfl) rfl (oP12_0 hL) ?_
    iterate 3 (refine kst rfl rfl ?_)
    obtain ⟨q2, hW⟩ := hW
    refine wald rfl (Or.inl (aK12_0 hL)) (aN12_0 hL) (by decide) q2 ?_
    refine wif_ne rfl hW (fun hW => ?_) (fun hW => ?_)
    · refine kst rfl rfl ?_
      refine wgetP (b := 198) rfl (oK12 hL rfl) rfl (oP12_0 hL) ?_
      iterate 4 (refine kst rfl rfl ?_)
      obtain ⟨q3, hW⟩ := hW
      refine wast rfl (aK12_0 hL) (aN12_0 hL) (by decide) q3 ?_
      replace hL : Lay (h.sI 198 (ix (x2 + 5)) 1) := lsI hL
      refine kst rfl rfl ?_
      refine wcvV rfl (oK12 hL rfl) rfl rfl (R221 (d := d + 2) (h := (h.sI 198 (ix (x2 + 5)) 1)) hL hW) (fun h12 hL hW => ?_)
      refine wjp ?_ (R237_366 (h := h12) hL hW)
      exact ⟨rfl, rfl, trivial⟩
    · iterate 2 (refine kst rfl rfl ?_)
      refine wcvI rfl (oK12 hL rfl) rfl rfl (R224 (d := d + 3) (h := h) hL hW) (fun v13 h14 hL hW => ?_)
      obtain ⟨q3, hW⟩ := hW
      refine wrZ rfl q3 ?_
      exact ⟨_, _, rfl, hL, hW⟩
theorem R237_257 {d : Nat} {x1 : Int32} {x2 : Int32} {h : TH} {C : Int32 → TH → Prop} (hL : Lay h) (hW : B237_257 x1 x2 h C) : xEk (d + 4) 237 (257, [(0, .ref 197), (1, .int x1), (2, .int x2)], [], h.X) (postI C) := by
  refine hW (fun s => Lay (s) → xEk (d + 4) 237 (257, [(0, .ref 197), (1, .int x1), (2, .int x2)], [], (TH.X (s))) (postI C)) ?_ hL
  rintro h hW hL
  have k257 : ∀ s : TH, (fun s => Lay (s) → xEk (d + 4) 237 (257, [(0, .ref 197), (1, .int x1), (2, .int x2)], [], (TH.X (s))) (postI C)) s → Lay (s) → xEk (d + 4) 237 (257, [(0, .ref 197), (1, .int x1), (2, .int x2)], [], (TH.X (s))) (postI C) := fun s hs => hs
  unfold F237_257 at hW
  dsimp only at hW
  iterate 2 (refine kst rfl rfl ?_)
  refine qcvI rfl (oK12 hL rfl) rfl rfl (R229 (d := d + 1) (h := h) hL hW) (fun v13 hW => ?_)
  refine wif_eq rfl hW (fun hW => ?_) (fun hW => ?_)
  · refine wjp ?_ (R237_324 (h := h) hL hW)
    exact ⟨rfl, rfl, trivial⟩
  · iterate 3 (refine kst rfl rfl ?_)
    refine wcvI rfl (oK12 hL rfl) rfl rfl (R236 (d := d + 0) (h := h) hL hW) (fun v14 h15 hL hW => ?_)
    iterate 3 (refine kst rfl rfl ?_)
    refine wcm_ne rfl hW (fun hW => ?_) (fun hW => ?_)
    · refine kst rfl rfl ?_
      refine wgetP (b := 198) rfl (oK12 hL rfl) rfl (oP12_0 hL) ?_
      iterate 3 (refine kst rfl rfl ?_)
      obtain ⟨q2, hW⟩ := hW
      refine wald rfl (Or.inl (aK12_0 hL)) (aN12_0 hL) (by decide) q2 ?_
      iterate 5 (refine kst rfl rfl ?_)
      refine wcm_ne rfl hW (fun hW => ?_) (fun hW => ?_)
      · refine kst rfl rfl ?_
        refine wgetP (b := 198) rfl (oK12 hL rfl) rfl (oP12_0 hL) ?_
        iterate 4 (refine kst rfl rfl ?_)
        obtain ⟨q3, hW⟩ := hW
        refine wald rfl (Or.inl (aK12_0 hL)) (aN12_0 hL) (by decide) q3 ?_
        iterate 4 (refine kst rfl rfl ?_)
        obtain ⟨q4, hW⟩ := hW
        refine wast rfl (aK12_0 hL) (aN12_0 hL) (by decide) q4 ?_
        replace hL : Lay (h15.sI 198 (ix (x2 + 4)) ((h15.I 198 (ix (x2 + 4))) ||| (ishl 1 v14))) := lsI hL
        refine kst rfl rfl ?_
        refine wcvV rfl (oK12 hL rfl) rfl rfl (R221 (d := d + 2) (h := (h15.sI 198 (ix (x2 + 4)) ((h15.I 198 (ix (x2 + 4))) ||| (ishl 1 v14)))) hL hW) (fun h16 hL hW => ?_)
        refine kst rfl rfl ?_
        have z9 := k257 h16 hW hL
        refine wjp ?_ z9
        exact ⟨rfl, rfl, rfl, trivial⟩
      · iterate 2 (refine kst rfl rfl ?_)
        refine wcvI rfl (oK12 hL rfl) rfl rfl (R224 (d := d + 3) (h := h15) hL hW) (fun v17 h18 hL hW => ?_)
        obtain ⟨q3, hW⟩ := hW
        refine wrZ rfl q3 ?_
        exact ⟨_, _, rfl, hL, hW⟩
    · refine kst rfl rfl ?_
      refine kre rfl rfl ?_
      exact ⟨_, _, rfl, hL, hW⟩
theorem R237_213 {d : Nat} {x1 : Int32} {x2 : Int32} {x3 : Int32} {s1 : Int32} {s2 : Int32} {s3 : Int32} {h : TH} {C : Int32 → TH → Prop} {X151 : Int32 × TH → Prop} (k151 : ∀ s : Int32 × TH, X151 s → Lay (s.2) → xEk (d + 4) 237 (151, [(0, .ref 197), (1, .int x1), (2, .int x2), (3, .int (s.1))], [], (TH.X (s.2))) (postI C)) (hL : Lay h) (hW : B237_213 x1 x2 x3 s1 s2 s3 h C X151) : xEk (d + 4) 237 (213, [(0, .ref 197), (1, .int x1), (2, .int x2), (3, .int x3)], [.int s3, .int s2, .int s1, .ref 197], h.X) (postI C) := by
  unfold B237_213 at hW
  refine wcvI rfl (oK12 hL rfl) rfl rfl (R228 (d := d + 1) (h := h) hL hW) (fun v17 h18 hL hW => ?_)
  refine wif_ne rfl hW (fun hW => ?_) (fun hW => ?_)
  · iterate 2 (refine kst rfl rfl ?_)
    have z9 := k151 ((x3 + 1), h18) hW hL
    refine wjp ?_ z9
    exact ⟨rfl, rfl, rfl, rfl, trivial⟩
  · refine kst rfl rfl ?_
    refine kre rfl rfl ?_
    exact ⟨_, _, rfl, hL, hW⟩
theorem R237_191 {d : Nat} {x1 : Int32} {x2 : Int32} {x3 : Int32} {s1 : Int32} {s2 : Int32} {h : TH} {C : Int32 → TH → Prop} {X151 : Int32 × TH → Prop} (k151 : ∀ s : Int32 × TH, X151 s → Lay (s.2) → xEk (d + 4) 237 (151, [(0, .ref 197), (1, .int x1), (2, .int x2), (3, .int (s.1))], [], (TH.X (s.2))) (postI C)) (hL : Lay h) (hW : B237_191 x1 x2 x3 s1 s2 h C X151) : xEk (d + 4) 237 (191, [(0, .ref 197), (1, .int x1), (2, .int x2), (3, .int x3)], [.int s2, .int s1, .ref 197], h.X) (postI C) := by
  unfold B237_191 at hW
  iterate 2 (refine kst rfl rfl ?_)
  refine wcm_ne rfl hW (fun hW => ?_) (fun hW => ?_)
  · iterate 2 (refine kst rfl rfl ?_)
    refine wcm_ne rfl hW (fun hW => ?_) (fun hW => ?_)
    · refine kst rfl rfl ?_
      refine wjp ?_ (R237_213 (h := h) k151 hL hW)
      exact ⟨rfl, rfl, rfl, rfl, trivial⟩
    · iterate 2 (refine kst rfl rfl ?_)
      refine wjp ?_ (R237_213 (h := h) k151 hL hW)
      exact ⟨rfl, rfl, rfl, rfl, trivial⟩
  · iterate 2 (refine kst rfl rfl ?_)
    refine wjp ?_ (R237_213 (h := h) k151 hL hW)
    exact ⟨rfl, rfl, rfl, rfl, trivial⟩
theorem R237_151 {d : Nat} {x1 : Int32} {x2 : Int32} {x3 : Int32} {h : TH} {C : Int32 → TH → Prop} (hL : Lay h) (hW : B237_151 x1 x2 x3 h C) : xEk (d + 4) 237 (151, [(0, .ref 197), (1, .int x1), (2, .int x2), (3, .int x3)], [], h.X) (postI C) := by
  refine hW (fun s => Lay (s.2) → xEk (d + 4) 237 (151, [(0, .ref 197), (1, .int x1), (2, .int x2), (3, .int (s.1))], [], (TH.X (s.2))) (postI C)) ?_ hL
  rintro ⟨x3, h⟩ hW hL
  have k151 : ∀ s : Int32 × TH, (fun s => Lay (s.2) → xEk (d + 4) 237 (151, [(0, .ref 197), (1, .int x1), (2, .int x2), (3, .int (s.1))], [], (TH.X (s.2))) (postI C)) s → Lay (s.2) → xEk (d + 4) 237 (151, [(0, .ref 197), (1, .int x1), (2, .int x2), (3, .int (s.1))], [], (TH.X (s.2))) (postI C) := fun s hs => hs
  unfold F237_151 at hW
  dsimp only at hW
  iterate 2 (refine kst rfl rfl ?_)
  refine wcm_gt rfl hW (fun hW => ?_) (fun hW => ?_)
  · iterate 2 (refine kst rfl rfl ?_)
    refine qcvI rfl (oK12 hL rfl) rfl rfl (R223 (d := d + 2) (h := h) hL hW) (fun v10 hW => ?_)
    refine kst rfl rfl ?_
    refine wcm_ne rfl hW (fun hW => ?_) (fun hW => ?_)
    · refine wjp ?_ (R237_324 (h := h) hL hW)
      exact ⟨rfl, rfl, trivial⟩
    · refine kst rfl rfl ?_
      refine wcvV rfl (oK12 hL rfl) rfl rfl (R221 (d := d + 2) (h := h) hL hW) (fun h11 hL hW => ?_)
      iterate 2 (refine kst rfl rfl ?_)
      refine qcvI rfl (oK12 hL rfl) rfl rfl (R229 (d := d + 1) (h := h11) hL hW) (fun v12 hW => ?_)
      refine wif_ne rfl hW (fun hW => ?_) (fun hW => ?_)
      · refine wjp ?_ (R237_257 (h := h11) hL hW)
        exact ⟨rfl, rfl, rfl, trivial⟩
      · iterate 2 (refine kst rfl rfl ?_)
        refine wcvI rfl (oK12 hL rfl) rfl rfl (R224 (d := d + 3) (h := h11) hL hW) (fun v13 h14 hL hW => ?_)
        obtain ⟨q2, hW⟩ := hW
        refine wrZ rfl q2 ?_
        exact ⟨_, _, rfl, hL, hW⟩
  · iterate 2 (refine kst rfl rfl ?_)
    refine qcvI rfl (oK12 hL rfl) rfl rfl (R223 (d := d + 2) (h := h) hL hW) (fun v15 hW => ?_)
    refine kst rfl rfl ?_
    refine wcm_eq rfl hW (fun hW => ?_) (fun hW => ?_)
    · refine kst rfl rfl ?_
      refine wcvV rfl (oK12 hL rfl) rfl rfl (R221 (d := d + 2) (h := h) hL hW) (fun h16 hL hW => ?_)
      iterate 8 (refine kst rfl rfl ?_)
      refine wcm_ne rfl hW (fun hW => ?_) (fun hW => ?_)
      · refine kst rfl rfl ?_
        refine wjp ?_ (R237_191 (h := h16) k151 hL hW)
        exact ⟨rfl, rfl, rfl, rfl, trivial⟩
      · iterate 2 (refine kst rfl rfl ?_)
        refine wjp ?_ (R237_191 (h := h16) k151 hL hW)
        exact ⟨rfl, rfl, rfl, rfl, trivial⟩
    · iterate 3 (refine kst rfl rfl ?_)
      have z9 := k151 ((x3 + 1), h) hW hL
      refine wjp ?_ z9
      exact ⟨rfl, rfl, rfl, rfl, trivial⟩
theorem R237_86 {d : Nat} {x1 : Int32} {x2 : Int32} {x3 : Int32} {h : TH} {C : Int32 → TH → Prop} (hL : Lay h) (hW : B237_86 x1 x2 x3 h C) : xEk (d + 4) 237 (86, [(0, .ref 197), (1, .int x1), (2, .int x2), (3, .int x3)], [], h.X) (postI C) := by
  refine hW (fun s => Lay (s.2) → xEk (d + 4) 237 (86, [(0, .ref 197), (1, .int x1), (2, .int x2), (3, .int (s.1))], [], (TH.X (s.2))) (postI C)) ?_ hL
  rintro ⟨x3, h⟩ hW hL
  have k86 : ∀ s : Int32 × TH, (fun s => Lay (s.2) → xEk (d + 4) 237 (86, [(0, .ref 197), (1, .int x1), (2, .int x2), (3, .int (s.1))], [], (TH.X (s.2))) (postI C)) s → Lay (s.2) → xEk (d + 4) 237 (86, [(0, .ref 197), (1, .int x1), (2, .int x2), (3, .int (s.1))], [], (TH.X (s.2))) (postI C) := fun s hs => hs
  unfold F237_86 at hW
  dsimp only at hW
  iterate 2 (refine kst rfl rfl ?_)
  refine wcm_ge rfl hW (fun hW => ?_) (fun hW => ?_)
  · iterate 3 (refine kst rfl rfl ?_)
    refine wcvI rfl (oK12 hL rfl) rfl rfl (R227 (d := d + 1) (h := h) hL hW) (fun v6 h7 hL hW => ?_)
    refine wif_eq rfl hW (fun hW => ?_) (fun hW => ?_)
    · refine kst rfl rfl ?_
      refine kre rfl rfl ?_
      exact ⟨_, _, rfl, hL, hW⟩
    · iterate 4 (refine kst rfl rfl ?_)
      refine wcvI rfl (oK12 hL rfl) rfl rfl (R228 (d := d + 1) (h := h7) hL hW) (fun v8 h9 hL hW => ?_)
      refine wif_ne rfl hW (fun hW => ?_) (fun hW => ?_)
      · iterate 2 (refine kst rfl rfl ?_)
        refine wjp ?_ (R237_151 (h := h9) hL hW)
        exact ⟨rfl, rfl, rfl, rfl, trivial⟩
      · refine kst rfl rfl ?_
        refine kre rfl rfl ?_
        exact ⟨_, _, rfl, hL, hW⟩
  · refine kst rfl rfl ?_
    refine wgetP (b := 198) rfl (oK12 hL rfl) rfl (oP12_0 hL) ?_
    iterate 5 (refine kst rfl rfl ?_)
    refine wcm_ne rfl hW (fun hW => ?_) (fun hW => ?_)
    · iterate 2 (refine kst rfl rfl ?_)
      refine wcm_ne rfl hW (fun hW => ?_) (fun hW => ?_)
      · refine kst rfl rfl ?_
        obtain ⟨q2, hW⟩ := hW
        refine wast rfl (aK12_0 hL) (aN12_0 hL) (by decide) q2 ?_
        replace hL : Lay (h.sI 198 (ix (x2 + x3)) 0) := lsI hL
        iterate 2 (refine kst rfl rfl ?_)
        have z9 := k86 ((x3 + 1), (h.sI 198 (ix (x2 + x3)) 0)) hW hL
        refine wjp ?_ z9
        exact ⟨rfl, rfl, rfl, rfl, trivial⟩
      · iterate 2 (refine kst rfl rfl ?_)
        obtain ⟨q2, hW⟩ := hW
        refine wast rfl (aK12_0 hL) (aN12_0 hL) (by decide) q2 ?_
        replace hL : Lay (h.sI 198 (ix (x2 + x3)) (-1)) := lsI hL
        iterate 2 (refine kst rfl rfl ?_)
        have z9 := k86 ((x3 + 1), (h.sI 198 (ix (x2 + x3)) (-1))) hW hL
        refine wjp ?_ z9
        exact ⟨rfl, rfl, rfl, rfl, trivial⟩
    · iterate 2 (refine kst rfl rfl ?_)
      obtain ⟨q2, hW⟩ := hW
      refine wast rfl (aK12_0 hL) (aN12_0 hL) (by decide) q2 ?_
      replace hL : Lay (h.sI 198 (ix (x2 + x3)) 1) := lsI hL
      iterate 2 (refine kst rfl rfl ?_)
      have z9 := k86 ((x3 + 1), (h.sI 198 (ix (x2 + x3)) 1)) hW hL
      refine wjp ?_ z9
      exact ⟨rfl, rfl, rfl, rfl, trivial⟩
theorem R237 {d : Nat} {h : TH} {C : Int32 → TH → Prop} (hL : Lay h) (hW : W237  h C) : xPk (d + 4) 237 [.ref 197] h.X (postI C) := by
  unfold W237 at hW
  refine kin (Nat.le_of_ble_eq_true rfl) ?_
  refine kst rfl rfl ?_
  refine wgetP (b := 198) rfl (oK12 hL rfl) rfl (oP12_0 hL) ?_
  refine kst rfl rfl ?_
  refine wald rfl (Or.inl (aK12_0 hL)) (aN12_0 hL) (by decide) ⟨by decide, by decide⟩ ?_
  iterate 9 (refine kst rfl rfl ?_)
  refine wcm_ne rfl hW (fun hW => ?_) (fun hW => ?_)
  · refine kst rfl rfl ?_
    refine wcvV rfl (oK12 hL rfl) rfl rfl (R221 (d := d + 2) (h := h) hL hW) (fun h1 hL hW => ?_)
    iterate 2 (refine kst rfl rfl ?_)
    refine qcvI rfl (oK12 hL rfl) rfl rfl (R229 (d := d + 1) (h := h1) hL hW) (fun v2 hW => ?_)
    refine wif_ne rfl hW (fun hW => ?_) (fun hW => ?_)
    · iterate 3 (refine kst rfl rfl ?_)
      refine qcvI rfl (oK12 hL rfl) rfl rfl (R231 (d := d + 1) (h := h1) hL hW) (fun v3 hW => ?_)
      refine kst rfl rfl ?_
      refine wcm_eq rfl hW (fun hW => ?_) (fun hW => ?_)
      · refine kst rfl rfl ?_
        refine wgetP (b := 199) rfl (oK12 hL rfl) rfl (oP12_1 hL) ?_
        iterate 4 (refine kst rfl rfl ?_)
        refine qcvL rfl (oK12 hL rfl) rfl rfl (R230 (d := d + 2) (h := h1) hL hW) (fun v4 hW => ?_)
        obtain ⟨q1, hW⟩ := hW
        refine wlast rfl (aK12_1 hL) (aN12_1 hL) (by decide) q1 ?_
        replace hL : Lay (h1.sJ 199 (ix (48 + (h.I 198 (ix 1760)))) v4) := lsJ hL
        refine kst rfl rfl ?_
        refine wcvV rfl (oK12 hL rfl) rfl rfl (R221 (d := d + 2) (h := (h1.sJ 199 (ix (48 + (h.I 198 (ix 1760)))) v4)) hL hW) (fun h5 hL hW => ?_)
        iterate 2 (refine kst rfl rfl ?_)
        refine wjp ?_ (R237_86 (h := h5) hL hW)
        exact ⟨rfl, rfl, rfl, rfl, trivial⟩
      · iterate 2 (refine kst rfl rfl ?_)
        refine wcvI rfl (oK12 hL rfl) rfl rfl (R224 (d := d + 3) (h := h1) hL hW) (fun v6 h7 hL hW => ?_)
        obtain ⟨q1, hW⟩ := hW
        refine wrZ rfl q1 ?_
        exact ⟨_, _, rfl, hL, hW⟩
    · iterate 2 (refine kst rfl rfl ?_)
      refine wcvI rfl (oK12 hL rfl) rfl rfl (R224 (d := d + 3) (h := h1) hL hW) (fun v8 h9 hL hW => ?_)
      obtain ⟨q1, hW⟩ := hW
      refine wrZ rfl q1 ?_
      exact ⟨_, _, rfl, hL, hW⟩
  · iterate 2 (refine kst rfl rfl ?_)
    refine wcvI rfl (oK12 hL rfl) rfl rfl (R224 (d := d + 3) (h := h) hL hW) (fun v10 h11 hL hW => ?_)
    obtain ⟨q1, hW⟩ := hW
    refine wrZ rfl q1 ?_
    exact ⟨_, _, rfl, hL, hW⟩
/-- 238: FourPotsModel behindNew -/
def F238_16 (x3 : Int32) (h : TH) (C : Int32 → Prop) (X6 : Int32 × Int32 → Prop) (X16 : Int32 × Int32 → Prop) : Int32 × Int32 → Prop := fun
  | (x2, x4) =>
    if (h.I 198 (ix 1760)) ≤ x4 then (X6 (x2, x3)) else (if ¬ ((ishr x3 x4) &&& 1) = 1 then (X16 (x2, (x4 + 1))) else (W235 x4 4 h (fun v1 => X16 ((x2 ||| v1), (x4 + 1)))))
def B238_16 (x3 : Int32) (x2 : Int32) (x4 : Int32) (h : TH) (C : Int32 → Prop) (X6 : Int32 × Int32 → Prop) : Prop := LFP (F238_16 x3 h C X6) (x2, x4)
def F238_6 (h : TH) (C : Int32 → Prop) (X6 : Int32 × Int32 → Prop) : Int32 × Int32 → Prop := fun
  | (x2, x3) =>
    if x2 = x3 then (C x2) else (B238_16 x2 x2 0 h C X6)
def B238_6 (x2 : Int32) (x3 : Int32) (h : TH) (C : Int32 → Prop) : Prop := LFP (F238_6 h C) (x2, x3)
def W238 (a1 : Int32) (h : TH) (C : Int32 → Prop) : Prop :=
  B238_6 (ishl 1 a1) 0 h C

theorem R238_16 {d : Nat} {x3 : Int32} {x2 : Int32} {x4 : Int32} {h : TH} {C : Int32 → Prop} {X6 : Int32 × Int32 → Prop} (k6 : ∀ s : Int32 × Int32, X6 s → xEk (d + 1) 238 (6, [(0, .ref 197), (2, .int (s.1)), (3, .int (s.2))], [], (TH.X (h))) (qostI h C)) (hL : Lay h) (hW : B238_16 x3 x2 x4 h C X6) : xEk (d + 1) 238 (16, [(0, .ref 197), (2, .int x2), (3, .int x3), (4, .int x4)], [], h.X) (qostI h C) := by
  refine hW (fun s => xEk (d + 1) 238 (16, [(0, .ref 197), (2, .int (s.1)), (3, .int x3), (4, .int (s.2))], [], (TH.X (h))) (qostI h C)) ?_
  rintro ⟨x2, x4⟩ hW 
  have k16 : ∀ s : Int32 × Int32, (fun s => xEk (d + 1) 238 (16, [(0, .ref 197), (2, .int (s.1)), (3, .int x3), (4, .int (s.2))], [], (TH.X (h))) (qostI h C)) s → xEk (d + 1) 238 (16, [(0, .ref 197), (2, .int (s.1)), (3, .int x3), (4, .int (s.2))], [], (TH.X (h))) (qostI h C) := fun s hs => hs
  unfold F238_16 at hW
  dsimp only at hW
  iterate 2 (refine kst rfl rfl ?_)
  refine wgetP (b := 198) rfl (oK12 hL rfl) rfl (oP12_0 hL) ?_
  refine kst rfl rfl ?_
  refine wald rfl (Or.inl (aK12_0 hL)) (aN12_0 hL) (by decide) ⟨by decide, by decide⟩ ?_
  refine wcm_ge rfl hW (fun hW => ?_) (fun hW => ?_)
  · refine kst rfl rfl ?_
    have z9 := k6 (x2, x3) hW
    refine wjp ?_ z9
    exact ⟨rfl, rfl, rfl, trivial⟩
  · iterate 6 (refine kst rfl rfl ?_)
    refine wcm_ne rfl hW (fun hW => ?_) (fun hW => ?_)
    · iterate 2 (refine kst rfl rfl ?_)
      have z9 := k16 (x2, (x4 + 1)) hW
      refine wjp ?_ z9
      exact ⟨rfl, rfl, rfl, rfl, trivial⟩
    · iterate 4 (refine kst rfl rfl ?_)
      refine qcvI rfl (oK12 hL rfl) rfl rfl (R235 (d := d + 0) (h := h) hL hW) (fun v1 hW => ?_)
      iterate 4 (refine kst rfl rfl ?_)
      have z9 := k16 ((x2 ||| v1), (x4 + 1)) hW
      refine wjp ?_ z9
      exact ⟨rfl, rfl, rfl, rfl, trivial⟩
theorem R238_6 {d : Nat} {x2 : Int32} {x3 : Int32} {h : TH} {C : Int32 → Prop} (hL : Lay h) (hW : B238_6 x2 x3 h C) : xEk (d + 1) 238 (6, [(0, .ref 197), (2, .int x2), (3, .int x3)], [], h.X) (qostI h C) := by
  refine hW (fun s => xEk (d + 1) 238 (6, [(0, .ref 197), (2, .int (s.1)), (3, .int (s.2))], [], (TH.X (h))) (qostI h C)) ?_
  rintro ⟨x2, x3⟩ hW 
  have k6 : ∀ s : Int32 × Int32, (fun s => xEk (d + 1) 238 (6, [(0, .ref 197), (2, .int (s.1)), (3, .int (s.2))], [], (TH.X (h))) (qostI h C)) s → xEk (d + 1) 238 (6, [(0, .ref 197), (2, .int (s.1)), (3, .int (s.2))], [], (TH.X (h))) (qostI h C) := fun s hs => hs
  unfold F238_6 at hW
  dsimp only at hW
  iterate 2 (refine kst rfl rfl ?_)
  refine wcm_eq rfl hW (fun hW => ?_) (fun hW => ?_)
  · refine kst rfl rfl ?_
    refine kre rfl rfl ?_
    exact ⟨_, rfl, hW⟩
  · iterate 4 (refine kst rfl rfl ?_)
    refine wjp ?_ (R238_16 (h := h) k6 hL hW)
    exact ⟨rfl, rfl, rfl, rfl, trivial⟩
theorem R238 {d : Nat} {a1 : Int32} {h : TH} {C : Int32 → Prop} (hL : Lay h) (hW : W238 a1 h C) : xPk (d + 1) 238 [.ref 197, .int a1] h.X (qostI h C) := by
  unfold W238 at hW
  refine kin (Nat.le_of_ble_eq_true rfl) ?_
  iterate 6 (refine kst rfl rfl ?_)
  refine wjp ?_ (R238_6 (h := h) hL hW)
  exact ⟨rfl, rfl, rfl, trivial⟩
/-- 239: FourPotsModel aPair -/
def W239 (h : TH) (C : Int32 → TH → Prop) : Prop :=
  W221  h (fun h1 => W236 48 (h1.I 198 (ix 1760)) h1 (fun v2 h3 => if ¬ v2 = (-1) then (W235 v2 7 h3 (fun v4 => if v4 = (-1) then (W221  h3 (fun h5 => W236 48 (h5.I 198 (ix 1760)) h5 (fun v6 h7 => if ¬ v6 = (-1) then (W235 v6 7 h7 (fun v8 => if ¬ v8 = (-1) then (W224 5 h7 (fun v9 h10 => (v9 = 0 ∨ v9 = 1) ∧ C v9 h10)) else (W238 v2 h7 (fun v11 => if ((ishr v11 v6) &&& 1) = 1 then (W224 5 h7 (fun v12 h13 => (v12 = 0 ∨ v12 = 1) ∧ C v12 h13)) else (W238 v6 h7 (fun v14 => if ¬ ((ishr v14 v2) &&& 1) = 1 then (inb ((1776 + (8 * v2)) + 7) 2200 ∧ inb ((1776 + (8 * v6)) + 7) 2200 ∧ W221  ((h7.sI 198 (ix ((1776 + (8 * v2)) + 7)) v6).sI 198 (ix ((1776 + (8 * v6)) + 7)) v2) (fun h15 => C 1 h15)) else (W224 5 h7 (fun v16 h17 => (v16 = 0 ∨ v16 = 1) ∧ C v16 h17)))))))) else (C 0 h7)))) else (W224 5 h3 (fun v18 h19 => (v18 = 0 ∨ v18 = 1) ∧ C v18 h19)))) else (C 0 h3)))

theorem R239 {d : Nat} {h : TH} {C : Int32 → TH → Prop} (hL : Lay h) (hW : W239  h C) : xPk (d + 4) 239 [.ref 197] h.X (postI C) := by
  unfold W239 at hW
  refine kin (Nat.le_of_ble_eq_true rfl) ?_
  refine kst rfl rfl ?_
  refine wcvV rfl (oK12 hL rfl) rfl rfl (R221 (d := d + 2) (h := h) hL hW) (fun h1 hL hW => ?_)
  iterate 3 (refine kst rfl rfl ?_)
  refine wgetP (b := 198) rfl (oK12 hL rfl) rfl (oP12_0 hL) ?_
  refine kst rfl rfl ?_
  refine wald rfl (Or.inl (aK12_0 hL)) (aN12_0 hL) (by decide) ⟨by decide, by decide⟩ ?_
  refine wcvI rfl (oK12 hL rfl) rfl rfl (R236 (d := d + 0) (h := h1) hL hW) (fun v2 h3 hL hW => ?_)
  iterate 3 (refine kst rfl rfl ?_)
  refine wcm_ne rfl hW (fun hW => ?_) (fun hW => ?_)
  · iterate 3 (refine kst rfl rfl ?_)
    refine qcvI rfl (oK12 hL rfl) rfl rfl (R235 (d := d + 3) (h := h3) hL hW) (fun v4 hW => ?_)
    refine kst rfl rfl ?_
    refine wcm_eq rfl hW (fun hW => ?_) (fun hW => ?_)
    · refine kst rfl rfl ?_
      refine wcvV rfl (oK12 hL rfl) rfl rfl (R221 (d := d + 2) (h := h3) hL hW) (fun h5 hL hW => ?_)
      iterate 3 (refine kst rfl rfl ?_)
      refine wgetP (b := 198) rfl (oK12 hL rfl) rfl (oP12_0 hL) ?_
      refine kst rfl rfl ?_
      refine wald rfl (Or.inl (aK12_0 hL)) (aN12_0 hL) (by decide) ⟨by decide, by decide⟩ ?_
      refine wcvI rfl (oK12 hL rfl) rfl rfl (R236 (d := d + 0) (h := h5) hL hW) (fun v6 h7 hL hW => ?_)
      iterate 3 (refine kst rfl rfl ?_)
      refine wcm_ne rfl hW (fun hW => ?_) (fun hW => ?_)
      · iterate 3 (refine kst rfl rfl ?_)
        refine qcvI rfl (oK12 hL rfl) rfl rfl (R235 (d := d + 3) (h := h7) hL hW) (fun v8 hW => ?_)
        refine kst rfl rfl ?_
        refine wcm_ne rfl hW (fun hW => ?_) (fun hW => ?_)
        · iterate 2 (refine kst rfl rfl ?_)
          refine wcvI rfl (oK12 hL rfl) rfl rfl (R224 (d := d + 3) (h := h7) hL hW) (fun v9 h10 hL hW => ?_)
          obtain ⟨q1, hW⟩ := hW
          refine wrZ rfl q1 ?_
          exact ⟨_, _, rfl, hL, hW⟩
        · iterate 2 (refine kst rfl rfl ?_)
          refine qcvI rfl (oK12 hL rfl) rfl rfl (R238 (d := d + 2) (h := h7) hL hW) (fun v11 hW => ?_)
          iterate 5 (refine kst rfl rfl ?_)
          refine wcm_eq rfl hW (fun hW => ?_) (fun hW => ?_)
          · iterate 2 (refine kst rfl rfl ?_)
            refine wcvI rfl (oK12 hL rfl) rfl rfl (R224 (d := d + 3) (h := h7) hL hW) (fun v12 h13 hL hW => ?_)
            obtain ⟨q1, hW⟩ := hW
            refine wrZ rfl q1 ?_
            exact ⟨_, _, rfl, hL, hW⟩
          · iterate 2 (refine kst rfl rfl ?_)
            refine qcvI rfl (oK12 hL rfl) rfl rfl (R238 (d := d + 2) (h := h7) hL hW) (fun v14 hW => ?_)
            iterate 5 (refine kst rfl rfl ?_)
            refine wcm_ne rfl hW (fun hW => ?_) (fun hW => ?_)
            · refine kst rfl rfl ?_
              refine wgetP (b := 198) rfl (oK12 hL rfl) rfl (oP12_0 hL) ?_
              iterate 8 (refine kst rfl rfl ?_)
              obtain ⟨q1, hW⟩ := hW
              refine wast rfl (aK12_0 hL) (aN12_0 hL) (by decide) q1 ?_
              replace hL : Lay (h7.sI 198 (ix ((1776 + (8 * v2)) + 7)) v6) := lsI hL
              refine kst rfl rfl ?_
              refine wgetP (b := 198) rfl (oK12 hL rfl) rfl (oP12_0 hL) ?_
              iterate 8 (refine kst rfl rfl ?_)
              obtain ⟨q2, hW⟩ := hW
              refine wast rfl (aK12_0 hL) (aN12_0 hL) (by decide) q2 ?_
              replace hL : Lay ((h7.sI 198 (ix ((1776 + (8 * v2)) + 7)) v6).sI 198 (ix ((1776 + (8 * v6)) + 7)) v2) := lsI hL
              refine kst rfl rfl ?_
              refine wcvV rfl (oK12 hL rfl) rfl rfl (R221 (d := d + 2) (h := ((h7.sI 198 (ix ((1776 + (8 * v2)) + 7)) v6).sI 198 (ix ((1776 + (8 * v6)) + 7)) v2)) hL hW) (fun h15 hL hW => ?_)
              refine kst rfl rfl ?_
              refine kre rfl rfl ?_
              exact ⟨_, _, rfl, hL, hW⟩
            · iterate 2 (refine kst rfl rfl ?_)
              refine wcvI rfl (oK12 hL rfl) rfl rfl (R224 (d := d + 3) (h := h7) hL hW) (fun v16 h17 hL hW => ?_)
              obtain ⟨q1, hW⟩ := hW
              refine wrZ rfl q1 ?_
              exact ⟨_, _, rfl, hL, hW⟩
      · refine kst rfl rfl ?_
        refine kre rfl rfl ?_
        exact ⟨_, _, rfl, hL, hW⟩
    · iterate 2 (refine kst rfl rfl ?_)
      refine wcvI rfl (oK12 hL rfl) rfl rfl (R224 (d := d + 3) (h := h3) hL hW) (fun v18 h19 hL hW => ?_)
      obtain ⟨q1, hW⟩ := hW
      refine wrZ rfl q1 ?_
      exact ⟨_, _, rfl, hL, hW⟩
  · refine kst rfl rfl ?_
    refine kre rfl rfl ?_
    exact ⟨_, _, rfl, hL, hW⟩
/-- 240: FourPotsModel thePots -/
def F240_37 (C : Int32 → TH → Prop) (X37 : TH → Prop) : TH → Prop := fun
  | h =>
    if ¬ (h.I 197 12) = 3 then (C 1 h) else (if (h.I 197 15) < 1 then (W224 4 h (fun v2 h3 => (v2 = 0 ∨ v2 = 1) ∧ C v2 h3)) else (if (h.I 197 15) ≤ 9 then (if ¬ (h.I 198 (ix 1761)) = 8 then (inb (1768 + (h.I 198 (ix 1761))) 2200 ∧ ∀ h4, h4 = ((h.sI 198 (ix (1768 + (h.I 198 (ix 1761)))) (h.I 197 15)).sI 198 (ix 1761) (((h.sI 198 (ix (1768 + (h.I 198 (ix 1761)))) (h.I 197 15)).I 198 (ix 1761)) + 1)) → W221  h4 (fun h5 => X37 h5)) else (W224 6 h (fun v6 h7 => (v6 = 0 ∨ v6 = 1) ∧ C v6 h7))) else (W224 4 h (fun v8 h9 => (v8 = 0 ∨ v8 = 1) ∧ C v8 h9))))
def B240_37 (h : TH) (C : Int32 → TH → Prop) : Prop := LFP (F240_37 C) h
def W240 (h : TH) (C : Int32 → TH → Prop) : Prop :=
  if ¬ (h.I 197 19) = 1 then (W221  (h.sI 197 19 1) (fun h1 => if (h1.I 197 12) = 3 then (B240_37 h1 C) else (W224 2 h1 (fun v2 h3 => (v2 = 0 ∨ v2 = 1) ∧ C v2 h3)))) else (W224 5 h (fun v4 h5 => (v4 = 0 ∨ v4 = 1) ∧ C v4 h5))

theorem R240_37 {d : Nat} {h : TH} {C : Int32 → TH → Prop} (hL : Lay h) (hW : B240_37 h C) : xEk (d + 2) 240 (37, [(0, .ref 197)], [], h.X) (postI C) := by
  refine hW (fun s => Lay (s) → xEk (d + 2) 240 (37, [(0, .ref 197)], [], (TH.X (s))) (postI C)) ?_ hL
  rintro h hW hL
  have k37 : ∀ s : TH, (fun s => Lay (s) → xEk (d + 2) 240 (37, [(0, .ref 197)], [], (TH.X (s))) (postI C)) s → Lay (s) → xEk (d + 2) 240 (37, [(0, .ref 197)], [], (TH.X (s))) (postI C) := fun s hs => hs
  unfold F240_37 at hW
  dsimp only at hW
  refine kst rfl rfl ?_
  refine wgetI rfl (oK12 hL rfl) rfl ?_
  refine kst rfl rfl ?_
  refine wcm_ne rfl hW (fun hW => ?_) (fun hW => ?_)
  · refine kst rfl rfl ?_
    refine kre rfl rfl ?_
    exact ⟨_, _, rfl, hL, hW⟩
  · refine kst rfl rfl ?_
    refine wgetI rfl (oK12 hL rfl) rfl ?_
    refine kst rfl rfl ?_
    refine wcm_lt rfl hW (fun hW => ?_) (fun hW => ?_)
    · iterate 2 (refine kst rfl rfl ?_)
      refine wcvI rfl (oK12 hL rfl) rfl rfl (R224 (d := d + 1) (h := h) hL hW) (fun v2 h3 hL hW => ?_)
      obtain ⟨q1, hW⟩ := hW
      refine wrZ rfl q1 ?_
      exact ⟨_, _, rfl, hL, hW⟩
    · refine kst rfl rfl ?_
      refine wgetI rfl (oK12 hL rfl) rfl ?_
      refine kst rfl rfl ?_
      refine wcm_le rfl hW (fun hW => ?_) (fun hW => ?_)
      · refine kst rfl rfl ?_
        refine wgetP (b := 198) rfl (oK12 hL rfl) rfl (oP12_0 hL) ?_
        refine kst rfl rfl ?_
        refine wald rfl (Or.inl (aK12_0 hL)) (aN12_0 hL) (by decide) ⟨by decide, by decide⟩ ?_
        refine kst rfl rfl ?_
        refine wcm_ne rfl hW (fun hW => ?_) (fun hW => ?_)
        · refine kst rfl rfl ?_
          refine wgetP (b := 198) rfl (oK12 hL rfl) rfl (oP12_0 hL) ?_
          iterate 2 (refine kst rfl rfl ?_)
          refine wgetP (b := 198) rfl (oK12 hL rfl) rfl (oP12_0 hL) ?_
          refine kst rfl rfl ?_
          refine wald rfl (Or.inl (aK12_0 hL)) (aN12_0 hL) (by decide) ⟨by decide, by decide⟩ ?_
          iterate 2 (refine kst rfl rfl ?_)
          refine wgetI rfl (oK12 hL rfl) rfl ?_
          obtain ⟨q1, hW⟩ := hW
          refine wast rfl (aK12_0 hL) (aN12_0 hL) (by decide) q1 ?_
          replace hL : Lay (h.sI 198 (ix (1768 + (h.I 198 (ix 1761)))) (h.I 197 15)) := lsI hL
          refine kst rfl rfl ?_
          refine wgetP (b := 198) rfl (oK12 hL rfl) rfl (oP12_0 hL) ?_
          iterate 2 (refine kst rfl rfl ?_)
          refine wald rfl (Or.inl (aK12_0 hL)) (aN12_0 hL) (by decide) ⟨by decide, by decide⟩ ?_
          iterate 2 (refine kst rfl rfl ?_)
          refine wast rfl (aK12_0 hL) (aN12_0 hL) (by decide) ⟨by decide, by decide⟩ ?_
          replace hL : Lay ((h.sI 198 (ix (1768 + (h.I 198 (ix 1761)))) (h.I 197 15)).sI 198 (ix 1761) (((h.sI 198 (ix (1768 + (h.I 198 (ix 1761)))) (h.I 197 15)).I 198 (ix 1761)) + 1)) := lsI hL
          refine kst rfl rfl ?_
          refine whb (h := ((h.sI 198 (ix (1768 + (h.I 198 (ix 1761)))) (h.I 197 15)).sI 198 (ix 1761) (((h.sI 198 (ix (1768 + (h.I 198 (ix 1761)))) (h.I 197 15)).I 198 (ix 1761)) + 1))) (fun h4 eh4 => ?_)
          replace hW := hW h4 eh4
          replace hL : Lay h4 := by rw [eh4]; exact hL
          clear eh4
          refine wcvV rfl (oK12 hL rfl) rfl rfl (R221 (d := d + 0) (h := h4) hL hW) (fun h5 hL hW => ?_)
          refine kst rfl rfl ?_
          have z9 := k37 h5 hW hL
          refine wjp ?_ z9
          exact ⟨rfl, trivial⟩
        · iterate 2 (refine kst rfl rfl ?_)
          refine wcvI rfl (oK12 hL rfl) rfl rfl (R224 (d := d + 1) (h := h) hL hW) (fun v6 h7 hL hW => ?_)
          obtain ⟨q1, hW⟩ := hW
          refine wrZ rfl q1 ?_
          exact ⟨_, _, rfl, hL, hW⟩
      · iterate 2 (refine kst rfl rfl ?_)
        refine wcvI rfl (oK12 hL rfl) rfl rfl (R224 (d := d + 1) (h := h) hL hW) (fun v8 h9 hL hW => ?_)
        obtain ⟨q1, hW⟩ := hW
        refine wrZ rfl q1 ?_
        exact ⟨_, _, rfl, hL, hW⟩
theorem R240 {d : Nat} {h : TH} {C : Int32 → TH → Prop} (hL : Lay h) (hW : W240  h C) : xPk (d + 2) 240 [.ref 197] h.X (postI C) := by
  unfold W240 at hW
  refine kin (Nat.le_of_ble_eq_true rfl) ?_
  refine kst rfl rfl ?_
  refine wgetI rfl (oK12 hL rfl) rfl ?_
  refine kst rfl rfl ?_
  refine wcm_ne rfl hW (fun hW => ?_) (fun hW => ?_)
  · iterate 2 (refine kst rfl rfl ?_)
    refine wputI rfl (oK12 hL rfl) rfl ?_
    replace hL : Lay (h.sI 197 19 1) := lsI hL
    refine kst rfl rfl ?_
    refine wcvV rfl (oK12 hL rfl) rfl rfl (R221 (d := d + 0) (h := (h.sI 197 19 1)) hL hW) (fun h1 hL hW => ?_)
    refine kst rfl rfl ?_
    refine wgetI rfl (oK12 hL rfl) rfl ?_
    refine kst rfl rfl ?_
    refine wcm_eq rfl hW (fun hW => ?_) (fun hW => ?_)
    · refine wjp ?_ (R240_37 (h := h1) hL hW)
      exact ⟨rfl, trivial⟩
    · iterate 2 (refine kst rfl rfl ?_)
      refine wcvI rfl (oK12 hL rfl) rfl rfl (R224 (d := d + 1) (h := h1) hL hW) (fun v2 h3 hL hW => ?_)
      obtain ⟨q1, hW⟩ := hW
      refine wrZ rfl q1 ?_
      exact ⟨_, _, rfl, hL, hW⟩
  · iterate 2 (refine kst rfl rfl ?_)
    refine wcvI rfl (oK12 hL rfl) rfl rfl (R224 (d := d + 1) (h := h) hL hW) (fun v4 h5 hL hW => ?_)
    obtain ⟨q1, hW⟩ := hW
    refine wrZ rfl q1 ?_
    exact ⟨_, _, rfl, hL, hW⟩
/-- 241: FourPotsModel menuPart -/
def B241_62 (x1 : Int32) (h : TH) (C : Int32 → TH → Prop) : Prop :=
  if x1 = 0 then (C 0 h) else (W226 59 h (fun v4 h5 => if v4 = 0 then (C 0 h5) else (C 1 h5)))
def W241 (h : TH) (C : Int32 → TH → Prop) : Prop :=
  W223  h (fun v1 => if v1 = 0 then (W237  h (fun v2 h3 => B241_62 v2 h3 C)) else if v1 = 1 then (W239  h (fun v4 h5 => B241_62 v4 h5 C)) else if v1 = 2 then (W240  h (fun v6 h7 => B241_62 v6 h7 C)) else (W224 2 h (fun v8 h9 => (v8 = 0 ∨ v8 = 1) ∧ C v8 h9)))

theorem R241_62 {d : Nat} {x1 : Int32} {h : TH} {C : Int32 → TH → Prop} (hL : Lay h) (hW : B241_62 x1 h C) : xEk (d + 5) 241 (62, [(0, .ref 197), (1, .int x1)], [], h.X) (postI C) := by
  unfold B241_62 at hW
  refine kst rfl rfl ?_
  refine wif_eq rfl hW (fun hW => ?_) (fun hW => ?_)
  · refine kst rfl rfl ?_
    refine kre rfl rfl ?_
    exact ⟨_, _, rfl, hL, hW⟩
  · iterate 2 (refine kst rfl rfl ?_)
    refine wcvI rfl (oK12 hL rfl) rfl rfl (R226 (d := d + 2) (h := h) hL hW) (fun v4 h5 hL hW => ?_)
    refine wif_eq rfl hW (fun hW => ?_) (fun hW => ?_)
    · refine kst rfl rfl ?_
      refine kre rfl rfl ?_
      exact ⟨_, _, rfl, hL, hW⟩
    · iterate 2 (refine kst rfl rfl ?_)
      refine kre rfl rfl ?_
      exact ⟨_, _, rfl, hL, hW⟩
theorem R241 {d : Nat} {h : TH} {C : Int32 → TH → Prop} (hL : Lay h) (hW : W241  h C) : xPk (d + 5) 241 [.ref 197] h.X (postI C) := by
  unfold W241 at hW
  refine kin (Nat.le_of_ble_eq_true rfl) ?_
  iterate 2 (refine kst rfl rfl ?_)
  refine qcvI rfl (oK12 hL rfl) rfl rfl (R223 (d := d + 3) (h := h) hL hW) (fun v1 hW => ?_)
  refine wsw hW (fun c0 hW => ?_) (fun c0 hW => ?_)
  · refine wswi (t := 32) rfl (fun _ => rfl) (swc c0 rfl) ?_
    refine kst rfl rfl ?_
    refine wcvI rfl (oK12 hL rfl) rfl rfl (R237 (d := d + 0) (h := h) hL hW) (fun v2 h3 hL hW => ?_)
    iterate 2 (refine kst rfl rfl ?_)
    refine wjp ?_ (R241_62 (h := h3) hL hW)
    exact ⟨rfl, rfl, trivial⟩
  refine wsw hW (fun c1 hW => ?_) (fun c1 hW => ?_)
  · refine wswi (t := 40) rfl (fun _ => rfl) (swc c1 rfl) ?_
    refine kst rfl rfl ?_
    refine wcvI rfl (oK12 hL rfl) rfl rfl (R239 (d := d + 0) (h := h) hL hW) (fun v4 h5 hL hW => ?_)
    iterate 2 (refine kst rfl rfl ?_)
    refine wjp ?_ (R241_62 (h := h5) hL hW)
    exact ⟨rfl, rfl, trivial⟩
  refine wsw hW (fun c2 hW => ?_) (fun c2 hW => ?_)
  · refine wswi (t := 48) rfl (fun _ => rfl) (swc c2 rfl) ?_
    refine kst rfl rfl ?_
    refine wcvI rfl (oK12 hL rfl) rfl rfl (R240 (d := d + 2) (h := h) hL hW) (fun v6 h7 hL hW => ?_)
    iterate 2 (refine kst rfl rfl ?_)
    refine wjp ?_ (R241_62 (h := h7) hL hW)
    exact ⟨rfl, rfl, trivial⟩
  refine wswi (t := 56) rfl (fun _ => rfl) (tswD (by have z0 := i32ne (k := 0) c0 rfl; have z1 := i32ne (k := 1) c1 rfl; have z2 := i32ne (k := 2) c2 rfl; first | omega | (have z9 := i32ne c0 rfl; omega)) rfl) ?_
  iterate 2 (refine kst rfl rfl ?_)
  refine wcvI rfl (oK12 hL rfl) rfl rfl (R224 (d := d + 4) (h := h) hL hW) (fun v8 h9 hL hW => ?_)
  obtain ⟨q1, hW⟩ := hW
  refine wrZ rfl q1 ?_
  exact ⟨_, _, rfl, hL, hW⟩
/-- 242: FourPotsModel menu -/
def B242_140 (h : TH) (C : Int32 → TH → Prop) : Prop :=
  W233 (h.I 198 (ix 0)) h (fun v3 h4 => C v3 h4)
def F242_113 (C : Int32 → TH → Prop) (X113 : Int32 × TH → Prop) : Int32 × TH → Prop := fun
  | (x3, h) =>
    if 12 ≤ x3 then (B242_140 h C) else (inb (48 + x3) 60 ∧ inb x3 60 ∧ X113 ((x3 + 1), (h.sJ 199 (ix x3) (h.J 199 (ix (48 + x3))))))
def B242_113 (x3 : Int32) (h : TH) (C : Int32 → TH → Prop) : Prop := LFP (F242_113 C) (x3, h)
def F242_82 (C : Int32 → TH → Prop) (X82 : Int32 × TH → Prop) : Int32 × TH → Prop := fun
  | (x3, h) =>
    if 440 ≤ x3 then (B242_113 0 h C) else (inb (1760 + x3) 2200 ∧ inb x3 2200 ∧ X82 ((x3 + 1), (h.sI 198 (ix x3) (h.I 198 (ix (1760 + x3))))))
def B242_82 (x3 : Int32) (h : TH) (C : Int32 → TH → Prop) : Prop := LFP (F242_82 C) (x3, h)
def B242_73 (h : TH) (C : Int32 → TH → Prop) : Prop :=
  if ¬ (h.I 197 18) = 0 then (B242_140 h C) else (B242_82 0 h C)
def F242_54 (C : Int32 → TH → Prop) (X54 : Int32 × TH → Prop) : Int32 × TH → Prop := fun
  | (x2, h) =>
    if x2 = 0 then (B242_73 h C) else (if (h.I 197 12) = 0 then (B242_73 h C) else (W241  h (fun v3 h4 => X54 (v3, h4))))
def B242_54 (x2 : Int32) (h : TH) (C : Int32 → TH → Prop) : Prop := LFP (F242_54 C) (x2, h)
def F242_19 (C : Int32 → TH → Prop) (X19 : Int32 × TH → Prop) : Int32 × TH → Prop := fun
  | (x2, h) =>
    if 440 ≤ x2 then (B242_54 1 (h.sI 198 (ix 1766) (-1)) C) else (inb (1760 + x2) 2200 ∧ X19 ((x2 + 1), (h.sI 198 (ix (1760 + x2)) 0)))
def B242_19 (x2 : Int32) (h : TH) (C : Int32 → TH → Prop) : Prop := LFP (F242_19 C) (x2, h)
def W242 (a1 : Int32) (h : TH) (C : Int32 → TH → Prop) : Prop :=
  W225 a1 900 h (fun v1 h2 => if ¬ v1 = 0 then (B242_19 0 h2 C) else (W205 1 h2 (fun v3 h4 => C v3 h4)))

theorem R242_140 {d : Nat} {h : TH} {C : Int32 → TH → Prop} (hL : Lay h) (hW : B242_140 h C) : xEk (d + 6) 242 (140, [(0, .ref 197)], [], h.X) (postI C) := by
  unfold B242_140 at hW
  iterate 2 (refine kst rfl rfl ?_)
  refine wgetP (b := 198) rfl (oK12 hL rfl) rfl (oP12_0 hL) ?_
  refine kst rfl rfl ?_
  refine wald rfl (Or.inl (aK12_0 hL)) (aN12_0 hL) (by decide) ⟨by decide, by decide⟩ ?_
  refine wcvI rfl (oK12 hL rfl) rfl rfl (R233 (d := d + 4) (h := h) hL hW) (fun v3 h4 hL hW => ?_)
  refine kre rfl rfl ?_
  exact ⟨_, _, rfl, hL, hW⟩
theorem R242_113 {d : Nat} {x3 : Int32} {h : TH} {C : Int32 → TH → Prop} (hL : Lay h) (hW : B242_113 x3 h C) : xEk (d + 6) 242 (113, [(0, .ref 197), (3, .int x3)], [], h.X) (postI C) := by
  refine hW (fun s => Lay (s.2) → xEk (d + 6) 242 (113, [(0, .ref 197), (3, .int (s.1))], [], (TH.X (s.2))) (postI C)) ?_ hL
  rintro ⟨x3, h⟩ hW hL
  have k113 : ∀ s : Int32 × TH, (fun s => Lay (s.2) → xEk (d + 6) 242 (113, [(0, .ref 197), (3, .int (s.1))], [], (TH.X (s.2))) (postI C)) s → Lay (s.2) → xEk (d + 6) 242 (113, [(0, .ref 197), (3, .int (s.1))], [], (TH.X (s.2))) (postI C) := fun s hs => hs
  unfold F242_113 at hW
  dsimp only at hW
  iterate 2 (refine kst rfl rfl ?_)
  refine wcm_ge rfl hW (fun hW => ?_) (fun hW => ?_)
  · refine wjp ?_ (R242_140 (h := h) hL hW)
    exact ⟨rfl, trivial⟩
  · refine kst rfl rfl ?_
    refine wgetP (b := 199) rfl (oK12 hL rfl) rfl (oP12_1 hL) ?_
    iterate 2 (refine kst rfl rfl ?_)
    refine wgetP (b := 199) rfl (oK12 hL rfl) rfl (oP12_1 hL) ?_
    iterate 3 (refine kst rfl rfl ?_)
    obtain ⟨q1, hW⟩ := hW
    refine wlald rfl (aK12_1 hL) (aN12_1 hL) (by decide) q1 ?_
    obtain ⟨q2, hW⟩ := hW
    refine wlast rfl (aK12_1 hL) (aN12_1 hL) (by decide) q2 ?_
    replace hL : Lay (h.sJ 199 (ix x3) (h.J 199 (ix (48 + x3)))) := lsJ hL
    iterate 2 (refine kst rfl rfl ?_)
    have z9 := k113 ((x3 + 1), (h.sJ 199 (ix x3) (h.J 199 (ix (48 + x3))))) hW hL
    refine wjp ?_ z9
    exact ⟨rfl, rfl, trivial⟩
theorem R242_82 {d : Nat} {x3 : Int32} {h : TH} {C : Int32 → TH → Prop} (hL : Lay h) (hW : B242_82 x3 h C) : xEk (d + 6) 242 (82, [(0, .ref 197), (3, .int x3)], [], h.X) (postI C) := by
  refine hW (fun s => Lay (s.2) → xEk (d + 6) 242 (82, [(0, .ref 197), (3, .int (s.1))], [], (TH.X (s.2))) (postI C)) ?_ hL
  rintro ⟨x3, h⟩ hW hL
  have k82 : ∀ s : Int32 × TH, (fun s => Lay (s.2) → xEk (d + 6) 242 (82, [(0, .ref 197), (3, .int (s.1))], [], (TH.X (s.2))) (postI C)) s → Lay (s.2) → xEk (d + 6) 242 (82, [(0, .ref 197), (3, .int (s.1))], [], (TH.X (s.2))) (postI C) := fun s hs => hs
  unfold F242_82 at hW
  dsimp only at hW
  iterate 2 (refine kst rfl rfl ?_)
  refine wcm_ge rfl hW (fun hW => ?_) (fun hW => ?_)
  · iterate 2 (refine kst rfl rfl ?_)
    refine wjp ?_ (R242_113 (h := h) hL hW)
    exact ⟨rfl, rfl, trivial⟩
  · refine kst rfl rfl ?_
    refine wgetP (b := 198) rfl (oK12 hL rfl) rfl (oP12_0 hL) ?_
    iterate 2 (refine kst rfl rfl ?_)
    refine wgetP (b := 198) rfl (oK12 hL rfl) rfl (oP12_0 hL) ?_
    iterate 3 (refine kst rfl rfl ?_)
    obtain ⟨q1, hW⟩ := hW
    refine wald rfl (Or.inl (aK12_0 hL)) (aN12_0 hL) (by decide) q1 ?_
    obtain ⟨q2, hW⟩ := hW
    refine wast rfl (aK12_0 hL) (aN12_0 hL) (by decide) q2 ?_
    replace hL : Lay (h.sI 198 (ix x3) (h.I 198 (ix (1760 + x3)))) := lsI hL
    iterate 2 (refine kst rfl rfl ?_)
    have z9 := k82 ((x3 + 1), (h.sI 198 (ix x3) (h.I 198 (ix (1760 + x3))))) hW hL
    refine wjp ?_ z9
    exact ⟨rfl, rfl, trivial⟩
theorem R242_73 {d : Nat} {h : TH} {C : Int32 → TH → Prop} (hL : Lay h) (hW : B242_73 h C) : xEk (d + 6) 242 (73, [(0, .ref 197)], [], h.X) (postI C) := by
  unfold B242_73 at hW
  refine kst rfl rfl ?_
  refine wgetI rfl (oK12 hL rfl) rfl ?_
  refine wif_ne rfl hW (fun hW => ?_) (fun hW => ?_)
  · refine wjp ?_ (R242_140 (h := h) hL hW)
    exact ⟨rfl, trivial⟩
  · iterate 2 (refine kst rfl rfl ?_)
    refine wjp ?_ (R242_82 (h := h) hL hW)
    exact ⟨rfl, rfl, trivial⟩
theorem R242_54 {d : Nat} {x2 : Int32} {h : TH} {C : Int32 → TH → Prop} (hL : Lay h) (hW : B242_54 x2 h C) : xEk (d + 6) 242 (54, [(0, .ref 197), (2, .int x2)], [], h.X) (postI C) := by
  refine hW (fun s => Lay (s.2) → xEk (d + 6) 242 (54, [(0, .ref 197), (2, .int (s.1))], [], (TH.X (s.2))) (postI C)) ?_ hL
  rintro ⟨x2, h⟩ hW hL
  have k54 : ∀ s : Int32 × TH, (fun s => Lay (s.2) → xEk (d + 6) 242 (54, [(0, .ref 197), (2, .int (s.1))], [], (TH.X (s.2))) (postI C)) s → Lay (s.2) → xEk (d + 6) 242 (54, [(0, .ref 197), (2, .int (s.1))], [], (TH.X (s.2))) (postI C) := fun s hs => hs
  unfold F242_54 at hW
  dsimp only at hW
  refine kst rfl rfl ?_
  refine wif_eq rfl hW (fun hW => ?_) (fun hW => ?_)
  · refine wjp ?_ (R242_73 (h := h) hL hW)
    exact ⟨rfl, trivial⟩
  · refine kst rfl rfl ?_
    refine wgetI rfl (oK12 hL rfl) rfl ?_
    refine wif_eq rfl hW (fun hW => ?_) (fun hW => ?_)
    · refine wjp ?_ (R242_73 (h := h) hL hW)
      exact ⟨rfl, trivial⟩
    · refine kst rfl rfl ?_
      refine wcvI rfl (oK12 hL rfl) rfl rfl (R241 (d := d + 0) (h := h) hL hW) (fun v3 h4 hL hW => ?_)
      iterate 2 (refine kst rfl rfl ?_)
      have z9 := k54 (v3, h4) hW hL
      refine wjp ?_ z9
      exact ⟨rfl, rfl, trivial⟩
theorem R242_19 {d : Nat} {x2 : Int32} {h : TH} {C : Int32 → TH → Prop} (hL : Lay h) (hW : B242_19 x2 h C) : xEk (d + 6) 242 (19, [(0, .ref 197), (2, .int x2)], [], h.X) (postI C) := by
  refine hW (fun s => Lay (s.2) → xEk (d + 6) 242 (19, [(0, .ref 197), (2, .int (s.1))], [], (TH.X (s.2))) (postI C)) ?_ hL
  rintro ⟨x2, h⟩ hW hL
  have k19 : ∀ s : Int32 × TH, (fun s => Lay (s.2) → xEk (d + 6) 242 (19, [(0, .ref 197), (2, .int (s.1))], [], (TH.X (s.2))) (postI C)) s → Lay (s.2) → xEk (d + 6) 242 (19, [(0, .ref 197), (2, .int (s.1))], [], (TH.X (s.2))) (postI C) := fun s hs => hs
  unfold F242_19 at hW
  dsimp only at hW
  iterate 2 (refine kst rfl rfl ?_)
  refine wcm_ge rfl hW (fun hW => ?_) (fun hW => ?_)
  · refine kst rfl rfl ?_
    refine wgetP (b := 198) rfl (oK12 hL rfl) rfl (oP12_0 hL) ?_
    iterate 2 (refine kst rfl rfl ?_)
    refine wast rfl (aK12_0 hL) (aN12_0 hL) (by decide) ⟨by decide, by decide⟩ ?_
    replace hL : Lay (h.sI 198 (ix 1766) (-1)) := lsI hL
    iterate 2 (refine kst rfl rfl ?_)
    refine wjp ?_ (R242_54 (h := (h.sI 198 (ix 1766) (-1))) hL hW)
    exact ⟨rfl, rfl, trivial⟩
  · refine kst rfl rfl ?_
    refine wgetP (b := 198) rfl (oK12 hL rfl) rfl (oP12_0 hL) ?_
    iterate 4 (refine kst rfl rfl ?_)
    obtain ⟨q1, hW⟩ := hW
    refine wast rfl (aK12_0 hL) (aN12_0 hL) (by decide) q1 ?_
    replace hL : Lay (h.sI 198 (ix (1760 + x2)) 0) := lsI hL
    iterate 2 (refine kst rfl rfl ?_)
    have z9 := k19 ((x2 + 1), (h.sI 198 (ix (1760 + x2)) 0)) hW hL
    refine wjp ?_ z9
    exact ⟨rfl, rfl, trivial⟩
theorem R242 {d : Nat} {a1 : Int32} {h : TH} {C : Int32 → TH → Prop} (hL : Lay h) (hW : W242 a1 h C) : xPk (d + 6) 242 [.ref 197, .int a1] h.X (postI C) := by
  unfold W242 at hW
  refine kin (Nat.le_of_ble_eq_true rfl) ?_
  iterate 3 (refine kst rfl rfl ?_)
  refine wcvI rfl (oK12 hL rfl) rfl rfl (R225 (d := d + 3) (h := h) hL hW) (fun v1 h2 hL hW => ?_)
  refine wif_ne rfl hW (fun hW => ?_) (fun hW => ?_)
  · iterate 2 (refine kst rfl rfl ?_)
    refine wjp ?_ (R242_19 (h := h2) hL hW)
    exact ⟨rfl, rfl, trivial⟩
  · iterate 2 (refine kst rfl rfl ?_)
    refine wcvI rfl (oK12 hL rfl) rfl rfl (R205 (d := d + 5) (h := h2) hL hW) (fun v3 h4 hL hW => ?_)
    refine kre rfl rfl ?_
    exact ⟨_, _, rfl, hL, hW⟩
/-- 243: FourPotsModel planName -/
def W243 (a1 : Int32) (h : TH) (C : Int32 → TH → Prop) : Prop :=
  W236 0 (h.I 198 (ix 0)) h (fun v1 h2 => if ¬ v1 = (-1) then (inb a1 2200 ∧ W221  (h2.sI 198 (ix a1) v1) (fun h3 => C 1 h3)) else (C 0 h2))

theorem R243 {d : Nat} {a1 : Int32} {h : TH} {C : Int32 → TH → Prop} (hL : Lay h) (hW : W243 a1 h C) : xPk (d + 4) 243 [.ref 197, .int a1] h.X (postI C) := by
  unfold W243 at hW
  refine kin (Nat.le_of_ble_eq_true rfl) ?_
  iterate 3 (refine kst rfl rfl ?_)
  refine wgetP (b := 198) rfl (oK12 hL rfl) rfl (oP12_0 hL) ?_
  refine kst rfl rfl ?_
  refine wald rfl (Or.inl (aK12_0 hL)) (aN12_0 hL) (by decide) ⟨by decide, by decide⟩ ?_
  refine wcvI rfl (oK12 hL rfl) rfl rfl (R236 (d := d + 0) (h := h) hL hW) (fun v1 h2 hL hW => ?_)
  iterate 3 (refine kst rfl rfl ?_)
  refine wcm_ne rfl hW (fun hW => ?_) (fun hW => ?_)
  · refine kst rfl rfl ?_
    refine wgetP (b := 198) rfl (oK12 hL rfl) rfl (oP12_0 hL) ?_
    iterate 2 (refine kst rfl rfl ?_)
    obtain ⟨q1, hW⟩ := hW
    refine wast rfl (aK12_0 hL) (aN12_0 hL) (by decide) q1 ?_
    replace hL : Lay (h2.sI 198 (ix a1) v1) := lsI hL
    refine kst rfl rfl ?_
    refine wcvV rfl (oK12 hL rfl) rfl rfl (R221 (d := d + 2) (h := (h2.sI 198 (ix a1) v1)) hL hW) (fun h3 hL hW => ?_)
    refine kst rfl rfl ?_
    refine kre rfl rfl ?_
    exact ⟨_, _, rfl, hL, hW⟩
  · refine kst rfl rfl ?_
    refine kre rfl rfl ?_
    exact ⟨_, _, rfl, hL, hW⟩
/-- 244: FourPotsModel aTest -/
def W244 (a1 : Int32) (h : TH) (C : Int32 → TH → Prop) : Prop :=
  W223  h (fun v1 => if v1 < 17 then (W224 2 h (fun v2 h3 => (v2 = 0 ∨ v2 = 1) ∧ C v2 h3)) else (if v1 ≤ 19 then (inb a1 2200 ∧ W221  (h.sI 198 (ix a1) (1600 + v1)) (fun h4 => if ¬ v1 = 19 then (W243 (a1 + 1) h4 (fun v5 h6 => (v5 = 0 ∨ v5 = 1) ∧ C v5 h6)) else (W228 (a1 + 1) 0 12 h4 (fun v7 h8 => (v7 = 0 ∨ v7 = 1) ∧ C v7 h8)))) else (W224 2 h (fun v9 h10 => (v9 = 0 ∨ v9 = 1) ∧ C v9 h10))))

theorem R244 {d : Nat} {a1 : Int32} {h : TH} {C : Int32 → TH → Prop} (hL : Lay h) (hW : W244 a1 h C) : xPk (d + 5) 244 [.ref 197, .int a1] h.X (postI C) := by
  unfold W244 at hW
  refine kin (Nat.le_of_ble_eq_true rfl) ?_
  iterate 2 (refine kst rfl rfl ?_)
  refine qcvI rfl (oK12 hL rfl) rfl rfl (R223 (d := d + 3) (h := h) hL hW) (fun v1 hW => ?_)
  iterate 3 (refine kst rfl rfl ?_)
  refine wcm_lt rfl hW (fun hW => ?_) (fun hW => ?_)
  · iterate 2 (refine kst rfl rfl ?_)
    refine wcvI rfl (oK12 hL rfl) rfl rfl (R224 (d := d + 4) (h := h) hL hW) (fun v2 h3 hL hW => ?_)
    obtain ⟨q1, hW⟩ := hW
    refine wrZ rfl q1 ?_
    exact ⟨_, _, rfl, hL, hW⟩
  · iterate 2 (refine kst rfl rfl ?_)
    refine wcm_le rfl hW (fun hW => ?_) (fun hW => ?_)
    · refine kst rfl rfl ?_
      refine wgetP (b := 198) rfl (oK12 hL rfl) rfl (oP12_0 hL) ?_
      iterate 4 (refine kst rfl rfl ?_)
      obtain ⟨q1, hW⟩ := hW
      refine wast rfl (aK12_0 hL) (aN12_0 hL) (by decide) q1 ?_
      replace hL : Lay (h.sI 198 (ix a1) (1600 + v1)) := lsI hL
      refine kst rfl rfl ?_
      refine wcvV rfl (oK12 hL rfl) rfl rfl (R221 (d := d + 3) (h := (h.sI 198 (ix a1) (1600 + v1))) hL hW) (fun h4 hL hW => ?_)
      iterate 2 (refine kst rfl rfl ?_)
      refine wcm_ne rfl hW (fun hW => ?_) (fun hW => ?_)
      · iterate 4 (refine kst rfl rfl ?_)
        refine wcvI rfl (oK12 hL rfl) rfl rfl (R243 (d := d + 0) (h := h4) hL hW) (fun v5 h6 hL hW => ?_)
        obtain ⟨q2, hW⟩ := hW
        refine wrZ rfl q2 ?_
        exact ⟨_, _, rfl, hL, hW⟩
      · iterate 6 (refine kst rfl rfl ?_)
        refine wcvI rfl (oK12 hL rfl) rfl rfl (R228 (d := d + 2) (h := h4) hL hW) (fun v7 h8 hL hW => ?_)
        refine kst rfl rfl ?_
        obtain ⟨q2, hW⟩ := hW
        refine wrZ rfl q2 ?_
        exact ⟨_, _, rfl, hL, hW⟩
    · iterate 2 (refine kst rfl rfl ?_)
      refine wcvI rfl (oK12 hL rfl) rfl rfl (R224 (d := d + 4) (h := h) hL hW) (fun v9 h10 hL hW => ?_)
      obtain ⟨q1, hW⟩ := hW
      refine wrZ rfl q1 ?_
      exact ⟨_, _, rfl, hL, hW⟩
/-- 245: FourPotsModel step -/
def B245_345 (x1 : Int32) (x2 : Int32) (x3 : Int32) (h : TH) (C : Int32 → TH → Prop) : Prop :=
  if ¬ x1 = 21 then (W226 59 h (fun v3 h4 => (v3 = 0 ∨ v3 = 1) ∧ C v3 h4)) else (inb ((h.sI 197 21 ((h.I 197 21) - 1)).I 197 21) 3 ∧ inb (x3 + 3) 2200 ∧ ∀ h5, h5 = ((h.sI 197 21 ((h.I 197 21) - 1)).sI 198 (ix (x3 + 3)) ((h.sI 197 21 ((h.I 197 21) - 1)).I 205 (ix ((h.sI 197 21 ((h.I 197 21) - 1)).I 197 21)))) → inb (h5.I 197 21) 3 ∧ inb ((1884 + (5 * (h5.I 205 (ix (h5.I 197 21))))) + 3) 2200 ∧ W226 59 (h5.sI 198 (ix ((1884 + (5 * (h5.I 205 (ix (h5.I 197 21))))) + 3)) x2) (fun v6 h7 => (v6 = 0 ∨ v6 = 1) ∧ C v6 h7))
def B245_320 (x1 : Int32) (x2 : Int32) (x3 : Int32) (x5 : Int32) (h : TH) (C : Int32 → TH → Prop) : Prop :=
  if x5 = 0 then (B245_345 x1 x2 x3 h C) else (inb (h.I 197 21) 3 ∧ B245_345 x1 x2 x3 ((h.sI 205 (ix (h.I 197 21)) x2).sI 197 21 (((h.sI 205 (ix (h.I 197 21)) x2).I 197 21) + 1)) C)
def B245_304 (x1 : Int32) (x2 : Int32) (x3 : Int32) (x5 : Int32) (h : TH) (C : Int32 → TH → Prop) : Prop :=
  if ¬ x1 = 16 then (B245_320 x1 x2 x3 x5 h C) else (W244 x3 h (fun v3 h4 => if ¬ v3 = 0 then (B245_320 x1 x2 x3 x5 h4 C) else (C 0 h4)))
def B245_283 (x1 : Int32) (x2 : Int32) (x3 : Int32) (x5 : Int32) (h : TH) (C : Int32 → TH → Prop) : Prop :=
  if ¬ x1 = 20 then (B245_304 x1 x2 x3 x5 h C) else (W228 (x3 + 1) 1 99 h (fun v3 h4 => if ¬ v3 = 0 then (B245_304 x1 x2 x3 x5 h4 C) else (C 0 h4)))
def B245_254 (x1 : Int32) (x2 : Int32) (x3 : Int32) (x5 : Int32) (h : TH) (C : Int32 → TH → Prop) : Prop :=
  if ¬ x1 = 11 then (B245_283 x1 x2 x3 x5 h C) else (W227 12 h (fun v3 h4 => if v3 = 0 then (C 0 h4) else (W243 (x3 + 2) h4 (fun v5 h6 => if ¬ v5 = 0 then (B245_283 x1 x2 x3 x5 h6 C) else (C 0 h6)))))
def B245_217 (x1 : Int32) (x2 : Int32) (x3 : Int32) (x4 : Int32) (x5 : Int32) (s1 : Int32) (s2 : Int32) (h : TH) (C : Int32 → TH → Prop) : Prop :=
  W221  ((h.sI 197 22 (s1 + s2)).sI 198 (ix 1766) (((h.sI 197 22 (s1 + s2)).I 198 (ix 1766)) + 1)) (fun h2 => if x4 = 0 then (B245_254 x1 x2 x3 x5 h2 C) else (W243 (x3 + 1) h2 (fun v3 h4 => if ¬ v3 = 0 then (B245_254 x1 x2 x3 x5 h4 C) else (C 0 h4))))
def F245_167 (x1 : Int32) (x2 : Int32) (x3 : Int32) (x4 : Int32) (x5 : Int32) (C : Int32 → TH → Prop) (X167 : Int32 × TH → Prop) : Int32 × TH → Prop := fun
  | (x6, h) =>
    if 4 ≤ x6 then (inb (x3 + 4) 2200 ∧ if ¬ x1 = 21 then (B245_217 x1 x2 x3 x4 x5 ((h.sI 198 (ix (x3 + 4)) (h.I 197 22)).I 197 22) 1 (h.sI 198 (ix (x3 + 4)) (h.I 197 22)) C) else (B245_217 x1 x2 x3 x4 x5 ((h.sI 198 (ix (x3 + 4)) (h.I 197 22)).I 197 22) 0 (h.sI 198 (ix (x3 + 4)) (h.I 197 22)) C)) else (inb (x3 + x6) 2200 ∧ X167 ((x6 + 1), (h.sI 198 (ix (x3 + x6)) 0)))
def B245_167 (x1 : Int32) (x2 : Int32) (x3 : Int32) (x4 : Int32) (x5 : Int32) (x6 : Int32) (h : TH) (C : Int32 → TH → Prop) : Prop := LFP (F245_167 x1 x2 x3 x4 x5 C) (x6, h)
def B245_157 (x1 : Int32) (x2 : Int32) (x3 : Int32) (x4 : Int32) (x5 : Int32) (h : TH) (C : Int32 → TH → Prop) : Prop :=
  inb x3 2200 ∧ B245_167 x1 x2 x3 x4 x5 1 (h.sI 198 (ix x3) x1) C
def B245_137 (x1 : Int32) (x2 : Int32) (x3 : Int32) (x4 : Int32) (x5 : Int32) (h : TH) (C : Int32 → TH → Prop) : Prop :=
  if x5 = 0 then (B245_157 x1 x2 x3 x4 x5 h C) else (if ¬ (h.I 197 21) = 3 then (B245_157 x1 x2 x3 x4 x5 h C) else (W224 7 h (fun v2 h3 => (v2 = 0 ∨ v2 = 1) ∧ C v2 h3)))
def B245_115 (x1 : Int32) (x2 : Int32) (x3 : Int32) (x4 : Int32) (x5 : Int32) (h : TH) (C : Int32 → TH → Prop) : Prop :=
  if x1 = 21 then (B245_137 x1 x2 x3 x4 x5 h C) else (if ¬ (h.I 197 22) = 30 then (B245_137 x1 x2 x3 x4 x5 h C) else (W224 6 h (fun v2 h3 => (v2 = 0 ∨ v2 = 1) ∧ C v2 h3)))
def B245_78 (x1 : Int32) (x2 : Int32) (x3 : Int32) (x4 : Int32) (s0 : Int32) (h : TH) (C : Int32 → TH → Prop) : Prop :=
  if ¬ x4 = 0 then (B245_115 x1 x2 x3 x4 s0 h C) else (if ¬ s0 = 0 then (B245_115 x1 x2 x3 x4 s0 h C) else (if x1 = 22 then (B245_115 x1 x2 x3 x4 s0 h C) else (if ¬ x1 = 21 then (W224 2 h (fun v2 h3 => (v2 = 0 ∨ v2 = 1) ∧ C v2 h3)) else (if ¬ (h.I 197 21) = 0 then (B245_115 x1 x2 x3 x4 s0 h C) else (W224 2 h (fun v4 h5 => (v4 = 0 ∨ v4 = 1) ∧ C v4 h5))))))
def B245_73 (x1 : Int32) (x2 : Int32) (x3 : Int32) (x4 : Int32) (h : TH) (C : Int32 → TH → Prop) : Prop :=
  B245_78 x1 x2 x3 x4 1 h C
def B245_59 (x1 : Int32) (x2 : Int32) (x3 : Int32) (s0 : Int32) (h : TH) (C : Int32 → TH → Prop) : Prop :=
  if x1 = 16 then (B245_73 x1 x2 x3 s0 h C) else (if ¬ x1 = 20 then (B245_78 x1 x2 x3 s0 0 h C) else (B245_73 x1 x2 x3 s0 h C))
def B245_54 (x1 : Int32) (x2 : Int32) (x3 : Int32) (h : TH) (C : Int32 → TH → Prop) : Prop :=
  B245_59 x1 x2 x3 1 h C
def W245 (h : TH) (C : Int32 → TH → Prop) : Prop :=
  W223  h (fun v1 => if v1 = 10 then (B245_54 v1 (h.I 198 (ix 1766)) (1884 + (5 * (h.I 198 (ix 1766)))) h C) else (if v1 = 11 then (B245_54 v1 (h.I 198 (ix 1766)) (1884 + (5 * (h.I 198 (ix 1766)))) h C) else (if v1 = 13 then (B245_54 v1 (h.I 198 (ix 1766)) (1884 + (5 * (h.I 198 (ix 1766)))) h C) else (if v1 = 14 then (B245_54 v1 (h.I 198 (ix 1766)) (1884 + (5 * (h.I 198 (ix 1766)))) h C) else (if ¬ v1 = 15 then (B245_59 v1 (h.I 198 (ix 1766)) (1884 + (5 * (h.I 198 (ix 1766)))) 0 h C) else (B245_54 v1 (h.I 198 (ix 1766)) (1884 + (5 * (h.I 198 (ix 1766)))) h C))))))

theorem R245_345 {d : Nat} {x1 : Int32} {x2 : Int32} {x3 : Int32} {h : TH} {C : Int32 → TH → Prop} (hL : Lay h) (hW : B245_345 x1 x2 x3 h C) : xEk (d + 6) 245 (345, [(0, .ref 197), (1, .int x1), (2, .int x2), (3, .int x3)], [], h.X) (postI C) := by
  unfold B245_345 at hW
  iterate 2 (refine kst rfl rfl ?_)
  refine wcm_ne rfl hW (fun hW => ?_) (fun hW => ?_)
  · iterate 2 (refine kst rfl rfl ?_)
    refine wcvI rfl (oK12 hL rfl) rfl rfl (R226 (d := d + 3) (h := h) hL hW) (fun v3 h4 hL hW => ?_)
    obtain ⟨q3, hW⟩ := hW
    refine wrZ rfl q3 ?_
    exact ⟨_, _, rfl, hL, hW⟩
  · iterate 2 (refine kst rfl rfl ?_)
    refine wgetI rfl (oK12 hL rfl) rfl ?_
    iterate 2 (refine kst rfl rfl ?_)
    refine wputI rfl (oK12 hL rfl) rfl ?_
    replace hL : Lay (h.sI 197 21 ((h.I 197 21) - 1)) := lsI hL
    refine kst rfl rfl ?_
    refine wgetP (b := 198) rfl (oK12 hL rfl) rfl (oP12_0 hL) ?_
    iterate 4 (refine kst rfl rfl ?_)
    refine wgetP (b := 205) rfl (oK12 hL rfl) rfl (oP12_20 hL) ?_
    refine kst rfl rfl ?_
    refine wgetI rfl (oK12 hL rfl) rfl ?_
    obtain ⟨q3, hW⟩ := hW
    refine wald rfl (Or.inl (aK12_20 hL)) (aN12_20 hL) (by decide) q3 ?_
    obtain ⟨q4, hW⟩ := hW
    refine wast rfl (aK12_0 hL) (aN12_0 hL) (by decide) q4 ?_
    replace hL : Lay ((h.sI 197 21 ((h.I 197 21) - 1)).sI 198 (ix (x3 + 3)) ((h.sI 197 21 ((h.I 197 21) - 1)).I 205 (ix ((h.sI 197 21 ((h.I 197 21) - 1)).I 197 21)))) := lsI hL
    refine kst rfl rfl ?_
    refine whb (h := ((h.sI 197 21 ((h.I 197 21) - 1)).sI 198 (ix (x3 + 3)) ((h.sI 197 21 ((h.I 197 21) - 1)).I 205 (ix ((h.sI 197 21 ((h.I 197 21) - 1)).I 197 21))))) (fun h5 eh5 => ?_)
    replace hW := hW h5 eh5
    replace hL : Lay h5 := by rw [eh5]; exact hL
    clear eh5
    refine wgetP (b := 198) rfl (oK12 hL rfl) rfl (oP12_0 hL) ?_
    iterate 3 (refine kst rfl rfl ?_)
    refine wgetP (b := 205) rfl (oK12 hL rfl) rfl (oP12_20 hL) ?_
    refine kst rfl rfl ?_
    refine wgetI rfl (oK12 hL rfl) rfl ?_
    obtain ⟨q5, hW⟩ := hW
    refine wald rfl (Or.inl (aK12_20 hL)) (aN12_20 hL) (by decide) q5 ?_
    iterate 5 (refine kst rfl rfl ?_)
    obtain ⟨q6, hW⟩ := hW
    refine wast rfl (aK12_0 hL) (aN12_0 hL) (by decide) q6 ?_
    replace hL : Lay (h5.sI 198 (ix ((1884 + (5 * (h5.I 205 (ix (h5.I 197 21))))) + 3)) x2) := lsI hL
    iterate 2 (refine kst rfl rfl ?_)
    refine wcvI rfl (oK12 hL rfl) rfl rfl (R226 (d := d + 3) (h := (h5.sI 198 (ix ((1884 + (5 * (h5.I 205 (ix (h5.I 197 21))))) + 3)) x2)) hL hW) (fun v6 h7 hL hW => ?_)
    obtain ⟨q7, hW⟩ := hW
    refine wrZ rfl q7 ?_
    exact ⟨_, _, rfl, hL, hW⟩
theorem R245_320 {d : Nat} {x1 : Int32} {x2 : Int32} {x3 : Int32} {x5 : Int32} {h : TH} {C : Int32 → TH → Prop} (hL : Lay h) (hW : B245_320 x1 x2 x3 x5 h C) : xEk (d + 6) 245 (320, [(0, .ref 197), (1, .int x1), (2, .int x2), (3, .int x3), (5, .int x5)], [], h.X) (postI C) := by
  unfold B245_320 at hW
  refine kst rfl rfl ?_
  refine wif_eq rfl hW (fun hW => ?_) (fun hW => ?_)
  · refine wjp ?_ (R245_345 (h := h) hL hW)
    exact ⟨rfl, rfl, rfl, rfl, trivial⟩
  · refine kst rfl rfl ?_
    refine wgetP (b := 205) rfl (oK12 hL rfl) rfl (oP12_20 hL) ?_
    refine kst rfl rfl ?_
    refine wgetI rfl (oK12 hL rfl) rfl ?_
    refine kst rfl rfl ?_
    obtain ⟨q3, hW⟩ := hW
    refine wast rfl (aK12_20 hL) (aN12_20 hL) (by decide) q3 ?_
    replace hL : Lay (h.sI 205 (ix (h.I 197 21)) x2) := lsI hL
    iterate 2 (refine kst rfl rfl ?_)
    refine wgetI rfl (oK12 hL rfl) rfl ?_
    iterate 2 (refine kst rfl rfl ?_)
    refine wputI rfl (oK12 hL rfl) rfl ?_
    replace hL : Lay ((h.sI 205 (ix (h.I 197 21)) x2).sI 197 21 (((h.sI 205 (ix (h.I 197 21)) x2).I 197 21) + 1)) := lsI hL
    refine wjp ?_ (R245_345 (h := ((h.sI 205 (ix (h.I 197 21)) x2).sI 197 21 (((h.sI 205 (ix (h.I 197 21)) x2).I 197 21) + 1))) hL hW)
    exact ⟨rfl, rfl, rfl, rfl, trivial⟩
theorem R245_304 {d : Nat} {x1 : Int32} {x2 : Int32} {x3 : Int32} {x5 : Int32} {h : TH} {C : Int32 → TH → Prop} (hL : Lay h) (hW : B245_304 x1 x2 x3 x5 h C) : xEk (d + 6) 245 (304, [(0, .ref 197), (1, .int x1), (2, .int x2), (3, .int x3), (5, .int x5)], [], h.X) (postI C) := by
  unfold B245_304 at hW
  iterate 2 (refine kst rfl rfl ?_)
  refine wcm_ne rfl hW (fun hW => ?_) (fun hW => ?_)
  · refine wjp ?_ (R245_320 (h := h) hL hW)
    exact ⟨rfl, rfl, rfl, rfl, rfl, trivial⟩
  · iterate 2 (refine kst rfl rfl ?_)
    refine wcvI rfl (oK12 hL rfl) rfl rfl (R244 (d := d + 0) (h := h) hL hW) (fun v3 h4 hL hW => ?_)
    refine wif_ne rfl hW (fun hW => ?_) (fun hW => ?_)
    · refine wjp ?_ (R245_320 (h := h4) hL hW)
      exact ⟨rfl, rfl, rfl, rfl, rfl, trivial⟩
    · refine kst rfl rfl ?_
      refine kre rfl rfl ?_
      exact ⟨_, _, rfl, hL, hW⟩
theorem R245_283 {d : Nat} {x1 : Int32} {x2 : Int32} {x3 : Int32} {x5 : Int32} {h : TH} {C : Int32 → TH → Prop} (hL : Lay h) (hW : B245_283 x1 x2 x3 x5 h C) : xEk (d + 6) 245 (283, [(0, .ref 197), (1, .int x1), (2, .int x2), (3, .int x3), (5, .int x5)], [], h.X) (postI C) := by
  unfold B245_283 at hW
  iterate 2 (refine kst rfl rfl ?_)
  refine wcm_ne rfl hW (fun hW => ?_) (fun hW => ?_)
  · refine wjp ?_ (R245_304 (h := h) hL hW)
    exact ⟨rfl, rfl, rfl, rfl, rfl, trivial⟩
  · iterate 6 (refine kst rfl rfl ?_)
    refine wcvI rfl (oK12 hL rfl) rfl rfl (R228 (d := d + 3) (h := h) hL hW) (fun v3 h4 hL hW => ?_)
    refine wif_ne rfl hW (fun hW => ?_) (fun hW => ?_)
    · refine wjp ?_ (R245_304 (h := h4) hL hW)
      exact ⟨rfl, rfl, rfl, rfl, rfl, trivial⟩
    · refine kst rfl rfl ?_
      refine kre rfl rfl ?_
      exact ⟨_, _, rfl, hL, hW⟩
theorem R245_254 {d : Nat} {x1 : Int32} {x2 : Int32} {x3 : Int32} {x5 : Int32} {h : TH} {C : Int32 → TH → Prop} (hL : Lay h) (hW : B245_254 x1 x2 x3 x5 h C) : xEk (d + 6) 245 (254, [(0, .ref 197), (1, .int x1), (2, .int x2), (3, .int x3), (5, .int x5)], [], h.X) (postI C) := by
  unfold B245_254 at hW
  iterate 2 (refine kst rfl rfl ?_)
  refine wcm_ne rfl hW (fun hW => ?_) (fun hW => ?_)
  · refine wjp ?_ (R245_283 (h := h) hL hW)
    exact ⟨rfl, rfl, rfl, rfl, rfl, trivial⟩
  · iterate 3 (refine kst rfl rfl ?_)
    refine wcvI rfl (oK12 hL rfl) rfl rfl (R227 (d := d + 3) (h := h) hL hW) (fun v3 h4 hL hW => ?_)
    refine wif_eq rfl hW (fun hW => ?_) (fun hW => ?_)
    · refine kst rfl rfl ?_
      refine kre rfl rfl ?_
      exact ⟨_, _, rfl, hL, hW⟩
    · iterate 4 (refine kst rfl rfl ?_)
      refine wcvI rfl (oK12 hL rfl) rfl rfl (R243 (d := d + 1) (h := h4) hL hW) (fun v5 h6 hL hW => ?_)
      refine wif_ne rfl hW (fun hW => ?_) (fun hW => ?_)
      · refine wjp ?_ (R245_283 (h := h6) hL hW)
        exact ⟨rfl, rfl, rfl, rfl, rfl, trivial⟩
      · refine kst rfl rfl ?_
        refine kre rfl rfl ?_
        exact ⟨_, _, rfl, hL, hW⟩
theorem R245_217 {d : Nat} {x1 : Int32} {x2 : Int32} {x3 : Int32} {x4 : Int32} {x5 : Int32} {s1 : Int32} {s2 : Int32} {h : TH} {C : Int32 → TH → Prop} (hL : Lay h) (hW : B245_217 x1 x2 x3 x4 x5 s1 s2 h C) : xEk (d + 6) 245 (217, [(0, .ref 197), (1, .int x1), (2, .int x2), (3, .int x3), (4, .int x4), (5, .int x5)], [.int s2, .int s1, .ref 197], h.X) (postI C) := by
  unfold B245_217 at hW
  refine kst rfl rfl ?_
  refine wputI rfl (oK12 hL rfl) rfl ?_
  replace hL : Lay (h.sI 197 22 (s1 + s2)) := lsI hL
  refine kst rfl rfl ?_
  refine wgetP (b := 198) rfl (oK12 hL rfl) rfl (oP12_0 hL) ?_
  iterate 2 (refine kst rfl rfl ?_)
  refine wald rfl (Or.inl (aK12_0 hL)) (aN12_0 hL) (by decide) ⟨by decide, by decide⟩ ?_
  iterate 2 (refine kst rfl rfl ?_)
  refine wast rfl (aK12_0 hL) (aN12_0 hL) (by decide) ⟨by decide, by decide⟩ ?_
  replace hL : Lay ((h.sI 197 22 (s1 + s2)).sI 198 (ix 1766) (((h.sI 197 22 (s1 + s2)).I 198 (ix 1766)) + 1)) := lsI hL
  refine kst rfl rfl ?_
  refine wcvV rfl (oK12 hL rfl) rfl rfl (R221 (d := d + 4) (h := ((h.sI 197 22 (s1 + s2)).sI 198 (ix 1766) (((h.sI 197 22 (s1 + s2)).I 198 (ix 1766)) + 1))) hL hW) (fun h2 hL hW => ?_)
  refine kst rfl rfl ?_
  refine wif_eq rfl hW (fun hW => ?_) (fun hW => ?_)
  · refine wjp ?_ (R245_254 (h := h2) hL hW)
    exact ⟨rfl, rfl, rfl, rfl, rfl, trivial⟩
  · iterate 4 (refine kst rfl rfl ?_)
    refine wcvI rfl (oK12 hL rfl) rfl rfl (R243 (d := d + 1) (h := h2) hL hW) (fun v3 h4 hL hW => ?_)
    refine wif_ne rfl hW (fun hW => ?_) (fun hW => ?_)
    · refine wjp ?_ (R245_254 (h := h4) hL hW)
      exact ⟨rfl, rfl, rfl, rfl, rfl, trivial⟩
    · refine kst rfl rfl ?_
      refine kre rfl rfl ?_
      exact ⟨_, _, rfl, hL, hW⟩
theorem R245_167 {d : Nat} {x1 : Int32} {x2 : Int32} {x3 : Int32} {x4 : Int32} {x5 : Int32} {x6 : Int32} {h : TH} {C : Int32 → TH → Prop} (hL : Lay h) (hW : B245_167 x1 x2 x3 x4 x5 x6 h C) : xEk (d + 6) 245 (167, [(0, .ref 197), (1, .int x1), (2, .int x2), (3, .int x3), (4, .int x4), (5, .int x5), (6, .int x6)], [], h.X) (postI C) := by
  refine hW (fun s => Lay (s.2) → xEk (d + 6) 245 (167, [(0, .ref 197), (1, .int x1), (2, .int x2), (3, .int x3), (4, .int x4), (5, .int x5), (6, .int (s.1))], [], (TH.X (s.2))) (postI C)) ?_ hL
  rintro ⟨x6, h⟩ hW hL
  have k167 : ∀ s : Int32 × TH, (fun s => Lay (s.2) → xEk (d + 6) 245 (167, [(0, .ref 197), (1, .int x1), (2, .int x2), (3, .int x3), (4, .int x4), (5, .int x5), (6, .int (s.1))], [], (TH.X (s.2))) (postI C)) s → Lay (s.2) → xEk (d + 6) 245 (167, [(0, .ref 197), (1, .int x1), (2, .int x2), (3, .int x3), (4, .int x4), (5, .int x5), (6, .int (s.1))], [], (TH.X (s.2))) (postI C) := fun s hs => hs
  unfold F245_167 at hW
  dsimp only at hW
  iterate 2 (refine kst rfl rfl ?_)
  refine wcm_ge rfl hW (fun hW => ?_) (fun hW => ?_)
  · refine kst rfl rfl ?_
    refine wgetP (b := 198) rfl (oK12 hL rfl) rfl (oP12_0 hL) ?_
    iterate 4 (refine kst rfl rfl ?_)
    refine wgetI rfl (oK12 hL rfl) rfl ?_
    obtain ⟨q2, hW⟩ := hW
    refine wast rfl (aK12_0 hL) (aN12_0 hL) (by decide) q2 ?_
    replace hL : Lay (h.sI 198 (ix (x3 + 4)) (h.I 197 22)) := lsI hL
    iterate 2 (refine kst rfl rfl ?_)
    refine wgetI rfl (oK12 hL rfl) rfl ?_
    iterate 2 (refine kst rfl rfl ?_)
    refine wcm_ne rfl hW (fun hW => ?_) (fun hW => ?_)
    · refine kst rfl rfl ?_
      refine wjp ?_ (R245_217 (h := (h.sI 198 (ix (x3 + 4)) (h.I 197 22))) hL hW)
      exact ⟨rfl, rfl, rfl, rfl, rfl, rfl, trivial⟩
    · iterate 2 (refine kst rfl rfl ?_)
      refine wjp ?_ (R245_217 (h := (h.sI 198 (ix (x3 + 4)) (h.I 197 22))) hL hW)
      exact ⟨rfl, rfl, rfl, rfl, rfl, rfl, trivial⟩
  · refine kst rfl rfl ?_
    refine wgetP (b := 198) rfl (oK12 hL rfl) rfl (oP12_0 hL) ?_
    iterate 4 (refine kst rfl rfl ?_)
    obtain ⟨q2, hW⟩ := hW
    refine wast rfl (aK12_0 hL) (aN12_0 hL) (by decide) q2 ?_
    replace hL : Lay (h.sI 198 (ix (x3 + x6)) 0) := lsI hL
    iterate 2 (refine kst rfl rfl ?_)
    have z9 := k167 ((x6 + 1), (h.sI 198 (ix (x3 + x6)) 0)) hW hL
    refine wjp ?_ z9
    exact ⟨rfl, rfl, rfl, rfl, rfl, rfl, rfl, trivial⟩
theorem R245_157 {d : Nat} {x1 : Int32} {x2 : Int32} {x3 : Int32} {x4 : Int32} {x5 : Int32} {h : TH} {C : Int32 → TH → Prop} (hL : Lay h) (hW : B245_157 x1 x2 x3 x4 x5 h C) : xEk (d + 6) 245 (157, [(0, .ref 197), (1, .int x1), (2, .int x2), (3, .int x3), (4, .int x4), (5, .int x5)], [], h.X) (postI C) := by
  unfold B245_157 at hW
  refine kst rfl rfl ?_
  refine wgetP (b := 198) rfl (oK12 hL rfl) rfl (oP12_0 hL) ?_
  iterate 2 (refine kst rfl rfl ?_)
  obtain ⟨q1, hW⟩ := hW
  refine wast rfl (aK12_0 hL) (aN12_0 hL) (by decide) q1 ?_
  replace hL : Lay (h.sI 198 (ix x3) x1) := lsI hL
  iterate 2 (refine kst rfl rfl ?_)
  refine wjp ?_ (R245_167 (h := (h.sI 198 (ix x3) x1)) hL hW)
  exact ⟨rfl, rfl, rfl, rfl, rfl, rfl, rfl, trivial⟩
theorem R245_137 {d : Nat} {x1 : Int32} {x2 : Int32} {x3 : Int32} {x4 : Int32} {x5 : Int32} {h : TH} {C : Int32 → TH → Prop} (hL : Lay h) (hW : B245_137 x1 x2 x3 x4 x5 h C) : xEk (d + 6) 245 (137, [(0, .ref 197), (1, .int x1), (2, .int x2), (3, .int x3), (4, .int x4), (5, .int x5)], [], h.X) (postI C) := by
  unfold B245_137 at hW
  refine kst rfl rfl ?_
  refine wif_eq rfl hW (fun hW => ?_) (fun hW => ?_)
  · refine wjp ?_ (R245_157 (h := h) hL hW)
    exact ⟨rfl, rfl, rfl, rfl, rfl, rfl, trivial⟩
  · refine kst rfl rfl ?_
    refine wgetI rfl (oK12 hL rfl) rfl ?_
    refine kst rfl rfl ?_
    refine wcm_ne rfl hW (fun hW => ?_) (fun hW => ?_)
    · refine wjp ?_ (R245_157 (h := h) hL hW)
      exact ⟨rfl, rfl, rfl, rfl, rfl, rfl, trivial⟩
    · iterate 2 (refine kst rfl rfl ?_)
      refine wcvI rfl (oK12 hL rfl) rfl rfl (R224 (d := d + 5) (h := h) hL hW) (fun v2 h3 hL hW => ?_)
      obtain ⟨q1, hW⟩ := hW
      refine wrZ rfl q1 ?_
      exact ⟨_, _, rfl, hL, hW⟩
theorem R245_115 {d : Nat} {x1 : Int32} {x2 : Int32} {x3 : Int32} {x4 : Int32} {x5 : Int32} {h : TH} {C : Int32 → TH → Prop} (hL : Lay h) (hW : B245_115 x1 x2 x3 x4 x5 h C) : xEk (d + 6) 245 (115, [(0, .ref 197), (1, .int x1), (2, .int x2), (3, .int x3), (4, .int x4), (5, .int x5)], [], h.X) (postI C) := by
  unfold B245_115 at hW
  iterate 2 (refine kst rfl rfl ?_)
  refine wcm_eq rfl hW (fun hW => ?_) (fun hW => ?_)
  · refine wjp ?_ (R245_137 (h := h) hL hW)
    exact ⟨rfl, rfl, rfl, rfl, rfl, rfl, trivial⟩
  · refine kst rfl rfl ?_
    refine wgetI rfl (oK12 hL rfl) rfl ?_
    refine kst rfl rfl ?_
    refine wcm_ne rfl hW (fun hW => ?_) (fun hW => ?_)
    · refine wjp ?_ (R245_137 (h := h) hL hW)
      exact ⟨rfl, rfl, rfl, rfl, rfl, rfl, trivial⟩
    · iterate 2 (refine kst rfl rfl ?_)
      refine wcvI rfl (oK12 hL rfl) rfl rfl (R224 (d := d + 5) (h := h) hL hW) (fun v2 h3 hL hW => ?_)
      obtain ⟨q1, hW⟩ := hW
      refine wrZ rfl q1 ?_
      exact ⟨_, _, rfl, hL, hW⟩
theorem R245_78 {d : Nat} {x1 : Int32} {x2 : Int32} {x3 : Int32} {x4 : Int32} {s0 : Int32} {h : TH} {C : Int32 → TH → Prop} (hL : Lay h) (hW : B245_78 x1 x2 x3 x4 s0 h C) : xEk (d + 6) 245 (78, [(0, .ref 197), (1, .int x1), (2, .int x2), (3, .int x3), (4, .int x4)], [.int s0], h.X) (postI C) := by
  unfold B245_78 at hW
  iterate 2 (refine kst rfl rfl ?_)
  refine wif_ne rfl hW (fun hW => ?_) (fun hW => ?_)
  · refine wjp ?_ (R245_115 (h := h) hL hW)
    exact ⟨rfl, rfl, rfl, rfl, rfl, rfl, trivial⟩
  · refine kst rfl rfl ?_
    refine wif_ne rfl hW (fun hW => ?_) (fun hW => ?_)
    · refine wjp ?_ (R245_115 (h := h) hL hW)
      exact ⟨rfl, rfl, rfl, rfl, rfl, rfl, trivial⟩
    · iterate 2 (refine kst rfl rfl ?_)
      refine wcm_eq rfl hW (fun hW => ?_) (fun hW => ?_)
      · refine wjp ?_ (R245_115 (h := h) hL hW)
        exact ⟨rfl, rfl, rfl, rfl, rfl, rfl, trivial⟩
      · iterate 2 (refine kst rfl rfl ?_)
        refine wcm_ne rfl hW (fun hW => ?_) (fun hW => ?_)
        · iterate 2 (refine kst rfl rfl ?_)
          refine wcvI rfl (oK12 hL rfl) rfl rfl (R224 (d := d + 5) (h := h) hL hW) (fun v2 h3 hL hW => ?_)
          obtain ⟨q1, hW⟩ := hW
          refine wrZ rfl q1 ?_
          exact ⟨_, _, rfl, hL, hW⟩
        · refine kst rfl rfl ?_
          refine wgetI rfl (oK12 hL rfl) rfl ?_
          refine wif_ne rfl hW (fun hW => ?_) (fun hW => ?_)
          · refine wjp ?_ (R245_115 (h := h) hL hW)
            exact ⟨rfl, rfl, rfl, rfl, rfl, rfl, trivial⟩
          · iterate 2 (refine kst rfl rfl ?_)
            refine wcvI rfl (oK12 hL rfl) rfl rfl (R224 (d := d + 5) (h := h) hL hW) (fun v4 h5 hL hW => ?_)
            obtain ⟨q1, hW⟩ := hW
            refine wrZ rfl q1 ?_
            exact ⟨_, _, rfl, hL, hW⟩
theorem R245_73 {d : Nat} {x1 : Int32} {x2 : Int32} {x3 : Int32} {x4 : Int32} {h : TH} {C : Int32 → TH → Prop} (hL : Lay h) (hW : B245_73 x1 x2 x3 x4 h C) : xEk (d + 6) 245 (73, [(0, .ref 197), (1, .int x1), (2, .int x2), (3, .int x3), (4, .int x4)], [], h.X) (postI C) := by
  unfold B245_73 at hW
  iterate 2 (refine kst rfl rfl ?_)
  refine wjp ?_ (R245_78 (h := h) hL hW)
  exact ⟨rfl, rfl, rfl, rfl, rfl, trivial⟩
theorem R245_59 {d : Nat} {x1 : Int32} {x2 : Int32} {x3 : Int32} {s0 : Int32} {h : TH} {C : Int32 → TH → Prop} (hL : Lay h) (hW : B245_59 x1 x2 x3 s0 h C) : xEk (d + 6) 245 (59, [(0, .ref 197), (1, .int x1), (2, .int x2), (3, .int x3)], [.int s0], h.X) (postI C) := by
  unfold B245_59 at hW
  iterate 3 (refine kst rfl rfl ?_)
  refine wcm_eq rfl hW (fun hW => ?_) (fun hW => ?_)
  · refine wjp ?_ (R245_73 (h := h) hL hW)
    exact ⟨rfl, rfl, rfl, rfl, rfl, trivial⟩
  · iterate 2 (refine kst rfl rfl ?_)
    refine wcm_ne rfl hW (fun hW => ?_) (fun hW => ?_)
    · refine kst rfl rfl ?_
      refine wjp ?_ (R245_78 (h := h) hL hW)
      exact ⟨rfl, rfl, rfl, rfl, rfl, trivial⟩
    · refine wjp ?_ (R245_73 (h := h) hL hW)
      exact ⟨rfl, rfl, rfl, rfl, rfl, trivial⟩
theorem R245_54 {d : Nat} {x1 : Int32} {x2 : Int32} {x3 : Int32} {h : TH} {C : Int32 → TH → Prop} (hL : Lay h) (hW : B245_54 x1 x2 x3 h C) : xEk (d + 6) 245 (54, [(0, .ref 197), (1, .int x1), (2, .int x2), (3, .int x3)], [], h.X) (postI C) := by
  unfold B245_54 at hW
  iterate 2 (refine kst rfl rfl ?_)
  refine wjp ?_ (R245_59 (h := h) hL hW)
  exact ⟨rfl, rfl, rfl, rfl, trivial⟩
theorem R245 {d : Nat} {h : TH} {C : Int32 → TH → Prop} (hL : Lay h) (hW : W245  h C) : xPk (d + 6) 245 [.ref 197] h.X (postI C) := by
  unfold W245 at hW
  refine kin (Nat.le_of_ble_eq_true rfl) ?_
  iterate 2 (refine kst rfl rfl ?_)
  refine qcvI rfl (oK12 hL rfl) rfl rfl (R223 (d := d + 4) (h := h) hL hW) (fun v1 hW => ?_)
  iterate 2 (refine kst rfl rfl ?_)
  refine wgetP (b := 198) rfl (oK12 hL rfl) rfl (oP12_0 hL) ?_
  refine kst rfl rfl ?_
  refine wald rfl (Or.inl (aK12_0 hL)) (aN12_0 hL) (by decide) ⟨by decide, by decide⟩ ?_
  iterate 9 (refine kst rfl rfl ?_)
  refine wcm_eq rfl hW (fun hW => ?_) (fun hW => ?_)
  · refine wjp ?_ (R245_54 (h := h) hL hW)
    exact ⟨rfl, rfl, rfl, rfl, trivial⟩
  · iterate 2 (refine kst rfl rfl ?_)
    refine wcm_eq rfl hW (fun hW => ?_) (fun hW => ?_)
    · refine wjp ?_ (R245_54 (h := h) hL hW)
      exact ⟨rfl, rfl, rfl, rfl, trivial⟩
    · iterate 2 (refine kst rfl rfl ?_)
      refine wcm_eq rfl hW (fun hW => ?_) (fun hW => ?_)
      · refine wjp ?_ (R245_54 (h := h) hL hW)
        exact ⟨rfl, rfl, rfl, rfl, trivial⟩
      · iterate 2 (refine kst rfl rfl ?_)
        refine wcm_eq rfl hW (fun hW => ?_) (fun hW => ?_)
        · refine wjp ?_ (R245_54 (h := h) hL hW)
          exact ⟨rfl, rfl, rfl, rfl, trivial⟩
        · iterate 2 (refine kst rfl rfl ?_)
          refine wcm_ne rfl hW (fun hW => ?_) (fun hW => ?_)
          · refine kst rfl rfl ?_
            refine wjp ?_ (R245_59 (h := h) hL hW)
            exact ⟨rfl, rfl, rfl, rfl, trivial⟩
          · refine wjp ?_ (R245_54 (h := h) hL hW)
            exact ⟨rfl, rfl, rfl, rfl, trivial⟩
