/-! WHAT EACH METHOD NEEDS: W: the condition; R: the small machine keeps it (printed by wgen.py) -/
/-- 246: FourPotsModel plan -/
def F246_102 (C : Int32 → TH → Prop) (X102 : Int32 × TH → Prop) : Int32 × TH → Prop := fun
  | (x3, h) =>
    if 440 ≤ x3 then (W233 (h.I 197 22) h (fun v5 h6 => C v5 h6)) else (inb (1760 + x3) 2200 ∧ inb x3 2200 ∧ X102 ((x3 + 1), (h.sI 198 (ix x3) (h.I 198 (ix (1760 + x3))))))
def B246_102 (x3 : Int32) (h : TH) (C : Int32 → TH → Prop) : Prop := LFP (F246_102 C) (x3, h)
def B246_77 (h : TH) (C : Int32 → TH → Prop) : Prop :=
  if ¬ (h.I 197 18) = 0 then (W233 (h.I 197 22) h (fun v3 h4 => C v3 h4)) else (B246_102 124 (h.sI 198 (ix 6) (h.I 198 (ix 1766))) C)
def B246_57 (h : TH) (C : Int32 → TH → Prop) : Prop :=
  if ¬ (h.I 197 18) = 0 then (B246_77 h C) else (if (h.I 197 21) ≤ 0 then (B246_77 h C) else (W224 2 h (fun v3 h4 => B246_77 h4 C)))
def F246_38 (C : Int32 → TH → Prop) (X38 : Int32 × TH → Prop) : Int32 × TH → Prop := fun
  | (x2, h) =>
    if x2 = 0 then (B246_57 h C) else (if (h.I 197 12) = 0 then (B246_57 h C) else (W245  h (fun v3 h4 => X38 (v3, h4))))
def B246_38 (x2 : Int32) (h : TH) (C : Int32 → TH → Prop) : Prop := LFP (F246_38 C) (x2, h)
def W246 (a1 : Int32) (h : TH) (C : Int32 → TH → Prop) : Prop :=
  W225 a1 300 h (fun v1 h2 => if ¬ v1 = 0 then (B246_38 1 (((h2.sI 198 (ix 1766) 0).sI 197 21 0).sI 197 22 0) C) else (W205 1 h2 (fun v3 h4 => C v3 h4)))

theorem R246_102 {d : Nat} {x3 : Int32} {h : TH} {C : Int32 → TH → Prop} (hL : Lay h) (hW : B246_102 x3 h C) : xEk (d + 7) 246 (102, [(0, .ref 197), (3, .int x3)], [], h.X) (postI C) := by
  refine hW (fun s => Lay (s.2) → xEk (d + 7) 246 (102, [(0, .ref 197), (3, .int (s.1))], [], (TH.X (s.2))) (postI C)) ?_ hL
  rintro ⟨x3, h⟩ hW hL
  have k102 : ∀ s : Int32 × TH, (fun s => Lay (s.2) → xEk (d + 7) 246 (102, [(0, .ref 197), (3, .int (s.1))], [], (TH.X (s.2))) (postI C)) s → Lay (s.2) → xEk (d + 7) 246 (102, [(0, .ref 197), (3, .int (s.1))], [], (TH.X (s.2))) (postI C) := fun s hs => hs
  unfold F246_102 at hW
  dsimp only at hW
  iterate 2 (refine kst rfl rfl ?_)
  refine wcm_ge rfl hW (fun hW => ?_) (fun hW => ?_)
  · iterate 2 (refine kst rfl rfl ?_)
    refine wgetI rfl (oK12 hL rfl) rfl ?_
    refine wcvI rfl (oK12 hL rfl) rfl rfl (R233 (d := d + 5) (h := h) hL hW) (fun v5 h6 hL hW => ?_)
    refine kre rfl rfl ?_
    exact ⟨_, _, rfl, hL, hW⟩
  · refine kst rfl rfl ?_
    refine wgetP (b := 198) rfl (oK12 hL rfl) rfl (oP12_0 hL) ?_
    iterate 2 (refine kst rfl rfl ?_)
    refine wgetP (b := 198) rfl (oK12 hL rfl) rfl (oP12_0 hL) ?_
    iterate 3 (refine kst rfl rfl ?_)
    obtain ⟨q1, hW⟩ := hW
    refine wald rfl (Or.inl (aK12_0 hL)) (aN12_0 hL) (by decide) q1 ?_
    obtain ⟨q2, hW⟩ := hW
    refine wast rfl (aK12_0 hL) (aN12_0 hL) (by decide) q2 ?_
    replace hL : Lay (h.sI 198 (ix x3) (h.I 198 (ix (1760 + x3)))) := lsI hL
    iterate 2 (refine kst rfl rfl ?_)
    have z9 := k102 ((x3 + 1), (h.sI 198 (ix x3) (h.I 198 (ix (1760 + x3))))) hW hL
    refine wjp ?_ z9
    exact ⟨rfl, rfl, trivial⟩
theorem R246_77 {d : Nat} {h : TH} {C : Int32 → TH → Prop} (hL : Lay h) (hW : B246_77 h C) : xEk (d + 7) 246 (77, [(0, .ref 197)], [], h.X) (postI C) := by
  unfold B246_77 at hW
  refine kst rfl rfl ?_
  refine wgetI rfl (oK12 hL rfl) rfl ?_
  refine wif_ne rfl hW (fun hW => ?_) (fun hW => ?_)
  · iterate 2 (refine kst rfl rfl ?_)
    refine wgetI rfl (oK12 hL rfl) rfl ?_
    refine wcvI rfl (oK12 hL rfl) rfl rfl (R233 (d := d + 5) (h := h) hL hW) (fun v3 h4 hL hW => ?_)
    refine kre rfl rfl ?_
    exact ⟨_, _, rfl, hL, hW⟩
  · refine kst rfl rfl ?_
    refine wgetP (b := 198) rfl (oK12 hL rfl) rfl (oP12_0 hL) ?_
    iterate 2 (refine kst rfl rfl ?_)
    refine wgetP (b := 198) rfl (oK12 hL rfl) rfl (oP12_0 hL) ?_
    refine kst rfl rfl ?_
    refine wald rfl (Or.inl (aK12_0 hL)) (aN12_0 hL) (by decide) ⟨by decide, by decide⟩ ?_
    refine wast rfl (aK12_0 hL) (aN12_0 hL) (by decide) ⟨by decide, by decide⟩ ?_
    replace hL : Lay (h.sI 198 (ix 6) (h.I 198 (ix 1766))) := lsI hL
    iterate 2 (refine kst rfl rfl ?_)
    refine wjp ?_ (R246_102 (h := (h.sI 198 (ix 6) (h.I 198 (ix 1766)))) hL hW)
    exact ⟨rfl, rfl, trivial⟩
theorem R246_57 {d : Nat} {h : TH} {C : Int32 → TH → Prop} (hL : Lay h) (hW : B246_57 h C) : xEk (d + 7) 246 (57, [(0, .ref 197)], [], h.X) (postI C) := by
  unfold B246_57 at hW
  refine kst rfl rfl ?_
  refine wgetI rfl (oK12 hL rfl) rfl ?_
  refine wif_ne rfl hW (fun hW => ?_) (fun hW => ?_)
  · refine wjp ?_ (R246_77 (h := h) hL hW)
    exact ⟨rfl, trivial⟩
  · refine kst rfl rfl ?_
    refine wgetI rfl (oK12 hL rfl) rfl ?_
    refine wif_le rfl hW (fun hW => ?_) (fun hW => ?_)
    · refine wjp ?_ (R246_77 (h := h) hL hW)
      exact ⟨rfl, trivial⟩
    · iterate 2 (refine kst rfl rfl ?_)
      refine wcvI rfl (oK12 hL rfl) rfl rfl (R224 (d := d + 6) (h := h) hL hW) (fun v3 h4 hL hW => ?_)
      refine kst rfl rfl ?_
      refine wjp ?_ (R246_77 (h := h4) hL hW)
      exact ⟨rfl, trivial⟩
theorem R246_38 {d : Nat} {x2 : Int32} {h : TH} {C : Int32 → TH → Prop} (hL : Lay h) (hW : B246_38 x2 h C) : xEk (d + 7) 246 (38, [(0, .ref 197), (2, .int x2)], [], h.X) (postI C) := by
  refine hW (fun s => Lay (s.2) → xEk (d + 7) 246 (38, [(0, .ref 197), (2, .int (s.1))], [], (TH.X (s.2))) (postI C)) ?_ hL
  rintro ⟨x2, h⟩ hW hL
  have k38 : ∀ s : Int32 × TH, (fun s => Lay (s.2) → xEk (d + 7) 246 (38, [(0, .ref 197), (2, .int (s.1))], [], (TH.X (s.2))) (postI C)) s → Lay (s.2) → xEk (d + 7) 246 (38, [(0, .ref 197), (2, .int (s.1))], [], (TH.X (s.2))) (postI C) := fun s hs => hs
  unfold F246_38 at hW
  dsimp only at hW
  refine kst rfl rfl ?_
  refine wif_eq rfl hW (fun hW => ?_) (fun hW => ?_)
  · refine wjp ?_ (R246_57 (h := h) hL hW)
    exact ⟨rfl, trivial⟩
  · refine kst rfl rfl ?_
    refine wgetI rfl (oK12 hL rfl) rfl ?_
    refine wif_eq rfl hW (fun hW => ?_) (fun hW => ?_)
    · refine wjp ?_ (R246_57 (h := h) hL hW)
      exact ⟨rfl, trivial⟩
    · refine kst rfl rfl ?_
      refine wcvI rfl (oK12 hL rfl) rfl rfl (R245 (d := d + 0) (h := h) hL hW) (fun v3 h4 hL hW => ?_)
      iterate 2 (refine kst rfl rfl ?_)
      have z9 := k38 (v3, h4) hW hL
      refine wjp ?_ z9
      exact ⟨rfl, rfl, trivial⟩
theorem R246 {d : Nat} {a1 : Int32} {h : TH} {C : Int32 → TH → Prop} (hL : Lay h) (hW : W246 a1 h C) : xPk (d + 7) 246 [.ref 197, .int a1] h.X (postI C) := by
  unfold W246 at hW
  refine kin (Nat.le_of_ble_eq_true rfl) ?_
  iterate 3 (refine kst rfl rfl ?_)
  refine wcvI rfl (oK12 hL rfl) rfl rfl (R225 (d := d + 4) (h := h) hL hW) (fun v1 h2 hL hW => ?_)
  refine wif_ne rfl hW (fun hW => ?_) (fun hW => ?_)
  · refine kst rfl rfl ?_
    refine wgetP (b := 198) rfl (oK12 hL rfl) rfl (oP12_0 hL) ?_
    iterate 2 (refine kst rfl rfl ?_)
    refine wast rfl (aK12_0 hL) (aN12_0 hL) (by decide) ⟨by decide, by decide⟩ ?_
    replace hL : Lay (h2.sI 198 (ix 1766) 0) := lsI hL
    iterate 2 (refine kst rfl rfl ?_)
    refine wputI rfl (oK12 hL rfl) rfl ?_
    replace hL : Lay ((h2.sI 198 (ix 1766) 0).sI 197 21 0) := lsI hL
    iterate 2 (refine kst rfl rfl ?_)
    refine wputI rfl (oK12 hL rfl) rfl ?_
    replace hL : Lay (((h2.sI 198 (ix 1766) 0).sI 197 21 0).sI 197 22 0) := lsI hL
    iterate 2 (refine kst rfl rfl ?_)
    refine wjp ?_ (R246_38 (h := (((h2.sI 198 (ix 1766) 0).sI 197 21 0).sI 197 22 0)) hL hW)
    exact ⟨rfl, rfl, trivial⟩
  · iterate 2 (refine kst rfl rfl ?_)
    refine wcvI rfl (oK12 hL rfl) rfl rfl (R205 (d := d + 6) (h := h2) hL hW) (fun v3 h4 hL hW => ?_)
    refine kre rfl rfl ?_
    exact ⟨_, _, rfl, hL, hW⟩
/-- 247: FourPotsModel isDish -/
def W247 (a1 : Int32) (h : TH) (C : Int32 → Prop) : Prop :=
  if a1 < 0 then (C 0) else (if (h.I 198 (ix 0)) ≤ a1 then (C 0) else (C 1))

theorem R247 {d : Nat} {a1 : Int32} {h : TH} {C : Int32 → Prop} (hL : Lay h) (hW : W247 a1 h C) : xPk d 247 [.ref 197, .int a1] h.X (qostI h C) := by
  unfold W247 at hW
  refine kin (Nat.le_of_ble_eq_true rfl) ?_
  refine kst rfl rfl ?_
  refine wif_lt rfl hW (fun hW => ?_) (fun hW => ?_)
  · refine kst rfl rfl ?_
    refine kre rfl rfl ?_
    exact ⟨_, rfl, hW⟩
  · iterate 2 (refine kst rfl rfl ?_)
    refine wgetP (b := 198) rfl (oK12 hL rfl) rfl (oP12_0 hL) ?_
    refine kst rfl rfl ?_
    refine wald rfl (Or.inl (aK12_0 hL)) (aN12_0 hL) (by decide) ⟨by decide, by decide⟩ ?_
    refine wcm_ge rfl hW (fun hW => ?_) (fun hW => ?_)
    · refine kst rfl rfl ?_
      refine kre rfl rfl ?_
      exact ⟨_, rfl, hW⟩
    · iterate 2 (refine kst rfl rfl ?_)
      refine kre rfl rfl ?_
      exact ⟨_, rfl, hW⟩
/-- 248: FourPotsModel sets -/
def W248 (h : TH) (C : Int32 → Prop) : Prop :=
  C (ishl 1 (h.I 198 (ix 0)))

theorem R248 {d : Nat} {h : TH} {C : Int32 → Prop} (hL : Lay h) (hW : W248  h C) : xPk d 248 [.ref 197] h.X (qostI h C) := by
  unfold W248 at hW
  refine kin (Nat.le_of_ble_eq_true rfl) ?_
  iterate 2 (refine kst rfl rfl ?_)
  refine wgetP (b := 198) rfl (oK12 hL rfl) rfl (oP12_0 hL) ?_
  refine kst rfl rfl ?_
  refine wald rfl (Or.inl (aK12_0 hL)) (aN12_0 hL) (by decide) ⟨by decide, by decide⟩ ?_
  refine kst rfl rfl ?_
  refine kre rfl rfl ?_
  exact ⟨_, rfl, hW⟩
/-- 249: FourPotsModel isSet -/
def W249 (a1 : Int32) (h : TH) (C : Int32 → Prop) : Prop :=
  if a1 < 0 then (C 0) else (W248  h (fun v1 => if v1 ≤ a1 then (C 0) else (C 1)))

theorem R249 {d : Nat} {a1 : Int32} {h : TH} {C : Int32 → Prop} (hL : Lay h) (hW : W249 a1 h C) : xPk (d + 1) 249 [.ref 197, .int a1] h.X (qostI h C) := by
  unfold W249 at hW
  refine kin (Nat.le_of_ble_eq_true rfl) ?_
  refine kst rfl rfl ?_
  refine wif_lt rfl hW (fun hW => ?_) (fun hW => ?_)
  · refine kst rfl rfl ?_
    refine kre rfl rfl ?_
    exact ⟨_, rfl, hW⟩
  · iterate 2 (refine kst rfl rfl ?_)
    refine qcvI rfl (oK12 hL rfl) rfl rfl (R248 (d := d + 0) (h := h) hL hW) (fun v1 hW => ?_)
    refine wcm_ge rfl hW (fun hW => ?_) (fun hW => ?_)
    · refine kst rfl rfl ?_
      refine kre rfl rfl ?_
      exact ⟨_, rfl, hW⟩
    · iterate 2 (refine kst rfl rfl ?_)
      refine kre rfl rfl ?_
      exact ⟨_, rfl, hW⟩
/-- 250: FourPotsModel has -/
def W250 (a1 : Int32) (a2 : Int32) (h : TH) (C : Int32 → Prop) : Prop :=
  if ¬ ((ishr a1 a2) &&& 1) = 1 then (C 0) else (C 1)

theorem R250 {d : Nat} {a1 : Int32} {a2 : Int32} {h : TH} {C : Int32 → Prop} (hL : Lay h) (hW : W250 a1 a2 h C) : xPk d 250 [.int a1, .int a2] h.X (qostI h C) := by
  unfold W250 at hW
  refine kin (Nat.le_of_ble_eq_true rfl) ?_
  iterate 6 (refine kst rfl rfl ?_)
  refine wcm_ne rfl hW (fun hW => ?_) (fun hW => ?_)
  · refine kst rfl rfl ?_
    refine kre rfl rfl ?_
    exact ⟨_, rfl, hW⟩
  · iterate 2 (refine kst rfl rfl ?_)
    refine kre rfl rfl ?_
    exact ⟨_, rfl, hW⟩
/-- 251: FourPotsModel of -/
def W251 (a1 : Int32) (a2 : Int32) (h : TH) (C : Int32 → Prop) : Prop :=
  inb ((16 + (8 * a1)) + a2) 2200 ∧ C (h.I 198 (ix ((16 + (8 * a1)) + a2)))

theorem R251 {d : Nat} {a1 : Int32} {a2 : Int32} {h : TH} {C : Int32 → Prop} (hL : Lay h) (hW : W251 a1 a2 h C) : xPk d 251 [.ref 197, .int a1, .int a2] h.X (qostI h C) := by
  unfold W251 at hW
  refine kin (Nat.le_of_ble_eq_true rfl) ?_
  refine kst rfl rfl ?_
  refine wgetP (b := 198) rfl (oK12 hL rfl) rfl (oP12_0 hL) ?_
  iterate 7 (refine kst rfl rfl ?_)
  obtain ⟨q1, hW⟩ := hW
  refine wald rfl (Or.inl (aK12_0 hL)) (aN12_0 hL) (by decide) q1 ?_
  refine kre rfl rfl ?_
  exact ⟨_, rfl, hW⟩
/-- 252: FourPotsModel partner -/
def W252 (a1 : Int32) (h : TH) (C : Int32 → Prop) : Prop :=
  W251 a1 7 h (fun v1 => C v1)

theorem R252 {d : Nat} {a1 : Int32} {h : TH} {C : Int32 → Prop} (hL : Lay h) (hW : W252 a1 h C) : xPk (d + 1) 252 [.ref 197, .int a1] h.X (qostI h C) := by
  unfold W252 at hW
  refine kin (Nat.le_of_ble_eq_true rfl) ?_
  iterate 3 (refine kst rfl rfl ?_)
  refine qcvI rfl (oK12 hL rfl) rfl rfl (R251 (d := d + 0) (h := h) hL hW) (fun v1 hW => ?_)
  refine kre rfl rfl ?_
  exact ⟨_, rfl, hW⟩
/-- 253: FourPotsModel withPartner -/
def W253 (a1 : Int32) (h : TH) (C : Int32 → Prop) : Prop :=
  W252 a1 h (fun v1 => if ¬ v1 = (-1) then (W252 a1 h (fun v2 => C ((ishl 1 a1) ||| (ishl 1 v2)))) else (C ((ishl 1 a1) ||| 0)))

theorem R253 {d : Nat} {a1 : Int32} {h : TH} {C : Int32 → Prop} (hL : Lay h) (hW : W253 a1 h C) : xPk (d + 2) 253 [.ref 197, .int a1] h.X (qostI h C) := by
  unfold W253 at hW
  refine kin (Nat.le_of_ble_eq_true rfl) ?_
  iterate 5 (refine kst rfl rfl ?_)
  refine qcvI rfl (oK12 hL rfl) rfl rfl (R252 (d := d + 0) (h := h) hL hW) (fun v1 hW => ?_)
  refine kst rfl rfl ?_
  refine wcm_ne rfl hW (fun hW => ?_) (fun hW => ?_)
  · iterate 3 (refine kst rfl rfl ?_)
    refine qcvI rfl (oK12 hL rfl) rfl rfl (R252 (d := d + 0) (h := h) hL hW) (fun v2 hW => ?_)
    iterate 2 (refine kst rfl rfl ?_)
    refine kre rfl rfl ?_
    exact ⟨_, rfl, hW⟩
  · iterate 3 (refine kst rfl rfl ?_)
    refine kre rfl rfl ?_
    exact ⟨_, rfl, hW⟩
/-- 254: FourPotsModel toMake -/
def W254 (a1 : Int32) (h : TH) (C : Int32 → Prop) : Prop :=
  W251 a1 4 h (fun v1 => W252 a1 h (fun v2 => if ¬ v2 = (-1) then (W252 a1 h (fun v3 => W251 v3 4 h (fun v4 => C (v1 ||| v4)))) else (C (v1 ||| 0))))

theorem R254 {d : Nat} {a1 : Int32} {h : TH} {C : Int32 → Prop} (hL : Lay h) (hW : W254 a1 h C) : xPk (d + 2) 254 [.ref 197, .int a1] h.X (qostI h C) := by
  unfold W254 at hW
  refine kin (Nat.le_of_ble_eq_true rfl) ?_
  iterate 3 (refine kst rfl rfl ?_)
  refine qcvI rfl (oK12 hL rfl) rfl rfl (R251 (d := d + 1) (h := h) hL hW) (fun v1 hW => ?_)
  iterate 2 (refine kst rfl rfl ?_)
  refine qcvI rfl (oK12 hL rfl) rfl rfl (R252 (d := d + 0) (h := h) hL hW) (fun v2 hW => ?_)
  refine kst rfl rfl ?_
  refine wcm_ne rfl hW (fun hW => ?_) (fun hW => ?_)
  · iterate 3 (refine kst rfl rfl ?_)
    refine qcvI rfl (oK12 hL rfl) rfl rfl (R252 (d := d + 0) (h := h) hL hW) (fun v3 hW => ?_)
    refine kst rfl rfl ?_
    refine qcvI rfl (oK12 hL rfl) rfl rfl (R251 (d := d + 1) (h := h) hL hW) (fun v4 hW => ?_)
    refine kst rfl rfl ?_
    refine kre rfl rfl ?_
    exact ⟨_, rfl, hW⟩
  · iterate 3 (refine kst rfl rfl ?_)
    refine kre rfl rfl ?_
    exact ⟨_, rfl, hW⟩
/-- 255: FourPotsModel workOf -/
def W255 (a1 : Int32) (h : TH) (C : Int32 → Prop) : Prop :=
  W252 a1 h (fun v1 => if ¬ v1 = (-1) then (W251 a1 0 h (fun v2 => W252 a1 h (fun v3 => W251 v3 0 h (fun v4 => C (imax v2 v4))))) else (W251 a1 0 h (fun v5 => C v5)))

theorem R255 {d : Nat} {a1 : Int32} {h : TH} {C : Int32 → Prop} (hL : Lay h) (hW : W255 a1 h C) : xPk (d + 2) 255 [.ref 197, .int a1] h.X (qostI h C) := by
  unfold W255 at hW
  refine kin (Nat.le_of_ble_eq_true rfl) ?_
  iterate 2 (refine kst rfl rfl ?_)
  refine qcvI rfl (oK12 hL rfl) rfl rfl (R252 (d := d + 0) (h := h) hL hW) (fun v1 hW => ?_)
  refine kst rfl rfl ?_
  refine wcm_ne rfl hW (fun hW => ?_) (fun hW => ?_)
  · iterate 3 (refine kst rfl rfl ?_)
    refine qcvI rfl (oK12 hL rfl) rfl rfl (R251 (d := d + 1) (h := h) hL hW) (fun v2 hW => ?_)
    iterate 3 (refine kst rfl rfl ?_)
    refine qcvI rfl (oK12 hL rfl) rfl rfl (R252 (d := d + 0) (h := h) hL hW) (fun v3 hW => ?_)
    refine kst rfl rfl ?_
    refine qcvI rfl (oK12 hL rfl) rfl rfl (R251 (d := d + 1) (h := h) hL hW) (fun v4 hW => ?_)
    refine kst rfl rfl ?_
    refine kre rfl rfl ?_
    exact ⟨_, rfl, hW⟩
  · iterate 3 (refine kst rfl rfl ?_)
    refine qcvI rfl (oK12 hL rfl) rfl rfl (R251 (d := d + 1) (h := h) hL hW) (fun v5 hW => ?_)
    refine kst rfl rfl ?_
    refine kre rfl rfl ?_
    exact ⟨_, rfl, hW⟩
/-- 256: FourPotsModel onceOf -/
def F256_4 (a1 : Int32) (h : TH) (C : Int32 → Prop) (X4 : Int32 × Int32 → Prop) : Int32 × Int32 → Prop := fun
  | (x2, x3) =>
    if (h.I 198 (ix 0)) ≤ x3 then (C x2) else (W250 a1 x3 h (fun v1 => if v1 = 0 then (X4 (x2, (x3 + 1))) else (W251 x3 6 h (fun v2 => if ¬ v2 = 1 then (X4 (x2, (x3 + 1))) else (X4 ((x2 ||| (ishl 1 x3)), (x3 + 1)))))))
def B256_4 (a1 : Int32) (x2 : Int32) (x3 : Int32) (h : TH) (C : Int32 → Prop) : Prop := LFP (F256_4 a1 h C) (x2, x3)
def W256 (a1 : Int32) (h : TH) (C : Int32 → Prop) : Prop :=
  B256_4 a1 0 0 h C

theorem R256_4 {d : Nat} {a1 : Int32} {x2 : Int32} {x3 : Int32} {h : TH} {C : Int32 → Prop} (hL : Lay h) (hW : B256_4 a1 x2 x3 h C) : xEk (d + 1) 256 (4, [(0, .ref 197), (1, .int a1), (2, .int x2), (3, .int x3)], [], h.X) (qostI h C) := by
  refine hW (fun s => xEk (d + 1) 256 (4, [(0, .ref 197), (1, .int a1), (2, .int (s.1)), (3, .int (s.2))], [], (TH.X (h))) (qostI h C)) ?_
  rintro ⟨x2, x3⟩ hW 
  have k4 : ∀ s : Int32 × Int32, (fun s => xEk (d + 1) 256 (4, [(0, .ref 197), (1, .int a1), (2, .int (s.1)), (3, .int (s.2))], [], (TH.X (h))) (qostI h C)) s → xEk (d + 1) 256 (4, [(0, .ref 197), (1, .int a1), (2, .int (s.1)), (3, .int (s.2))], [], (TH.X (h))) (qostI h C) := fun s hs => hs
  unfold F256_4 at hW
  dsimp only at hW
  iterate 2 (refine kst rfl rfl ?_)
  refine wgetP (b := 198) rfl (oK12 hL rfl) rfl (oP12_0 hL) ?_
  refine kst rfl rfl ?_
  refine wald rfl (Or.inl (aK12_0 hL)) (aN12_0 hL) (by decide) ⟨by decide, by decide⟩ ?_
  refine wcm_ge rfl hW (fun hW => ?_) (fun hW => ?_)
  · refine kst rfl rfl ?_
    refine kre rfl rfl ?_
    exact ⟨_, rfl, hW⟩
  · iterate 2 (refine kst rfl rfl ?_)
    refine qcaI rfl rfl (R250 (d := d + 0) (h := h) hL hW) (fun v1 hW => ?_)
    refine wif_eq rfl hW (fun hW => ?_) (fun hW => ?_)
    · iterate 2 (refine kst rfl rfl ?_)
      have z9 := k4 (x2, (x3 + 1)) hW
      refine wjp ?_ z9
      exact ⟨rfl, rfl, rfl, rfl, trivial⟩
    · iterate 3 (refine kst rfl rfl ?_)
      refine qcvI rfl (oK12 hL rfl) rfl rfl (R251 (d := d + 0) (h := h) hL hW) (fun v2 hW => ?_)
      refine kst rfl rfl ?_
      refine wcm_ne rfl hW (fun hW => ?_) (fun hW => ?_)
      · iterate 2 (refine kst rfl rfl ?_)
        have z9 := k4 (x2, (x3 + 1)) hW
        refine wjp ?_ z9
        exact ⟨rfl, rfl, rfl, rfl, trivial⟩
      · iterate 8 (refine kst rfl rfl ?_)
        have z9 := k4 ((x2 ||| (ishl 1 x3)), (x3 + 1)) hW
        refine wjp ?_ z9
        exact ⟨rfl, rfl, rfl, rfl, trivial⟩
theorem R256 {d : Nat} {a1 : Int32} {h : TH} {C : Int32 → Prop} (hL : Lay h) (hW : W256 a1 h C) : xPk (d + 1) 256 [.ref 197, .int a1] h.X (qostI h C) := by
  unfold W256 at hW
  refine kin (Nat.le_of_ble_eq_true rfl) ?_
  iterate 4 (refine kst rfl rfl ?_)
  refine wjp ?_ (R256_4 (h := h) hL hW)
  exact ⟨rfl, rfl, rfl, rfl, trivial⟩
/-- 257: FourPotsModel layerOf -/
def F257_12 (x2 : Int32) (x3 : Int32) (h : TH) (C : Int32 → Prop) (X6 : Int32 × Int32 → Prop) (X12 : Int32 × Int32 → Prop) : Int32 × Int32 → Prop := fun
  | (x4, x5) =>
    if (h.I 198 (ix 0)) ≤ x5 then (if ¬ x4 = 0 then (X6 ((x2 + 1), x4)) else (C x2)) else (W250 x3 x5 h (fun v1 => if v1 = 0 then (X12 (x4, (x5 + 1))) else (W251 x5 4 h (fun v2 => X12 ((x4 ||| v2), (x5 + 1))))))
def B257_12 (x2 : Int32) (x3 : Int32) (x4 : Int32) (x5 : Int32) (h : TH) (C : Int32 → Prop) (X6 : Int32 × Int32 → Prop) : Prop := LFP (F257_12 x2 x3 h C X6) (x4, x5)
def F257_6 (h : TH) (C : Int32 → Prop) (X6 : Int32 × Int32 → Prop) : Int32 × Int32 → Prop := fun
  | (x2, x3) =>
    B257_12 x2 x3 0 0 h C X6
def B257_6 (x2 : Int32) (x3 : Int32) (h : TH) (C : Int32 → Prop) : Prop := LFP (F257_6 h C) (x2, x3)
def W257 (a1 : Int32) (h : TH) (C : Int32 → Prop) : Prop :=
  B257_6 0 (ishl 1 a1) h C

theorem R257_12 {d : Nat} {x2 : Int32} {x3 : Int32} {x4 : Int32} {x5 : Int32} {h : TH} {C : Int32 → Prop} {X6 : Int32 × Int32 → Prop} (k6 : ∀ s : Int32 × Int32, X6 s → xEk (d + 1) 257 (6, [(0, .ref 197), (2, .int (s.1)), (3, .int (s.2))], [], (TH.X (h))) (qostI h C)) (hL : Lay h) (hW : B257_12 x2 x3 x4 x5 h C X6) : xEk (d + 1) 257 (12, [(0, .ref 197), (2, .int x2), (3, .int x3), (4, .int x4), (5, .int x5)], [], h.X) (qostI h C) := by
  refine hW (fun s => xEk (d + 1) 257 (12, [(0, .ref 197), (2, .int x2), (3, .int x3), (4, .int (s.1)), (5, .int (s.2))], [], (TH.X (h))) (qostI h C)) ?_
  rintro ⟨x4, x5⟩ hW 
  have k12 : ∀ s : Int32 × Int32, (fun s => xEk (d + 1) 257 (12, [(0, .ref 197), (2, .int x2), (3, .int x3), (4, .int (s.1)), (5, .int (s.2))], [], (TH.X (h))) (qostI h C)) s → xEk (d + 1) 257 (12, [(0, .ref 197), (2, .int x2), (3, .int x3), (4, .int (s.1)), (5, .int (s.2))], [], (TH.X (h))) (qostI h C) := fun s hs => hs
  unfold F257_12 at hW
  dsimp only at hW
  iterate 2 (refine kst rfl rfl ?_)
  refine wgetP (b := 198) rfl (oK12 hL rfl) rfl (oP12_0 hL) ?_
  refine kst rfl rfl ?_
  refine wald rfl (Or.inl (aK12_0 hL)) (aN12_0 hL) (by decide) ⟨by decide, by decide⟩ ?_
  refine wcm_ge rfl hW (fun hW => ?_) (fun hW => ?_)
  · refine kst rfl rfl ?_
    refine wif_ne rfl hW (fun hW => ?_) (fun hW => ?_)
    · iterate 4 (refine kst rfl rfl ?_)
      have z9 := k6 ((x2 + 1), x4) hW
      refine wjp ?_ z9
      exact ⟨rfl, rfl, rfl, trivial⟩
    · refine kst rfl rfl ?_
      refine kre rfl rfl ?_
      exact ⟨_, rfl, hW⟩
  · iterate 2 (refine kst rfl rfl ?_)
    refine qcaI rfl rfl (R250 (d := d + 0) (h := h) hL hW) (fun v1 hW => ?_)
    refine wif_eq rfl hW (fun hW => ?_) (fun hW => ?_)
    · iterate 2 (refine kst rfl rfl ?_)
      have z9 := k12 (x4, (x5 + 1)) hW
      refine wjp ?_ z9
      exact ⟨rfl, rfl, rfl, rfl, rfl, trivial⟩
    · iterate 4 (refine kst rfl rfl ?_)
      refine qcvI rfl (oK12 hL rfl) rfl rfl (R251 (d := d + 0) (h := h) hL hW) (fun v2 hW => ?_)
      iterate 4 (refine kst rfl rfl ?_)
      have z9 := k12 ((x4 ||| v2), (x5 + 1)) hW
      refine wjp ?_ z9
      exact ⟨rfl, rfl, rfl, rfl, rfl, trivial⟩
theorem R257_6 {d : Nat} {x2 : Int32} {x3 : Int32} {h : TH} {C : Int32 → Prop} (hL : Lay h) (hW : B257_6 x2 x3 h C) : xEk (d + 1) 257 (6, [(0, .ref 197), (2, .int x2), (3, .int x3)], [], h.X) (qostI h C) := by
  refine hW (fun s => xEk (d + 1) 257 (6, [(0, .ref 197), (2, .int (s.1)), (3, .int (s.2))], [], (TH.X (h))) (qostI h C)) ?_
  rintro ⟨x2, x3⟩ hW 
  have k6 : ∀ s : Int32 × Int32, (fun s => xEk (d + 1) 257 (6, [(0, .ref 197), (2, .int (s.1)), (3, .int (s.2))], [], (TH.X (h))) (qostI h C)) s → xEk (d + 1) 257 (6, [(0, .ref 197), (2, .int (s.1)), (3, .int (s.2))], [], (TH.X (h))) (qostI h C) := fun s hs => hs
  unfold F257_6 at hW
  dsimp only at hW
  iterate 4 (refine kst rfl rfl ?_)
  refine wjp ?_ (R257_12 (h := h) k6 hL hW)
  exact ⟨rfl, rfl, rfl, rfl, rfl, trivial⟩
theorem R257 {d : Nat} {a1 : Int32} {h : TH} {C : Int32 → Prop} (hL : Lay h) (hW : W257 a1 h C) : xPk (d + 1) 257 [.ref 197, .int a1] h.X (qostI h C) := by
  unfold W257 at hW
  refine kin (Nat.le_of_ble_eq_true rfl) ?_
  iterate 6 (refine kst rfl rfl ?_)
  refine wjp ?_ (R257_6 (h := h) hL hW)
  exact ⟨rfl, rfl, rfl, trivial⟩
/-- 258: FourPotsModel told -/
def W258 (a1 : Int32) (h : TH) (C : Int32 → TH → Prop) : Prop :=
  if a1 < 0 then (W205 1 h (fun v1 h2 => C v1 h2)) else (if a1 ≤ 5 then (inb a1 2200 ∧ W206 (h.I 198 (ix a1)) h (fun v3 h4 => C v3 h4)) else (W205 1 h (fun v5 h6 => C v5 h6)))

theorem R258 {d : Nat} {a1 : Int32} {h : TH} {C : Int32 → TH → Prop} (hL : Lay h) (hW : W258 a1 h C) : xPk (d + 1) 258 [.ref 197, .int a1] h.X (postI C) := by
  unfold W258 at hW
  refine kin (Nat.le_of_ble_eq_true rfl) ?_
  refine kst rfl rfl ?_
  refine wif_lt rfl hW (fun hW => ?_) (fun hW => ?_)
  · iterate 2 (refine kst rfl rfl ?_)
    refine wcvI rfl (oK12 hL rfl) rfl rfl (R205 (d := d + 0) (h := h) hL hW) (fun v1 h2 hL hW => ?_)
    refine kst rfl rfl ?_
    refine kre rfl rfl ?_
    exact ⟨_, _, rfl, hL, hW⟩
  · iterate 2 (refine kst rfl rfl ?_)
    refine wcm_le rfl hW (fun hW => ?_) (fun hW => ?_)
    · iterate 2 (refine kst rfl rfl ?_)
      refine wgetP (b := 198) rfl (oK12 hL rfl) rfl (oP12_0 hL) ?_
      refine kst rfl rfl ?_
      obtain ⟨q1, hW⟩ := hW
      refine wald rfl (Or.inl (aK12_0 hL)) (aN12_0 hL) (by decide) q1 ?_
      refine wcvI rfl (oK12 hL rfl) rfl rfl (R206 (d := d + 0) (h := h) hL hW) (fun v3 h4 hL hW => ?_)
      refine kre rfl rfl ?_
      exact ⟨_, _, rfl, hL, hW⟩
    · iterate 2 (refine kst rfl rfl ?_)
      refine wcvI rfl (oK12 hL rfl) rfl rfl (R205 (d := d + 0) (h := h) hL hW) (fun v5 h6 hL hW => ?_)
      refine kst rfl rfl ?_
      refine kre rfl rfl ?_
      exact ⟨_, _, rfl, hL, hW⟩
/-- 259: FourPotsModel dish -/
def B259_46 (a1 : Int32) (a2 : Int32) (h : TH) (C : Int32 → TH → Prop) : Prop :=
  if ¬ a2 = 8 then (W251 a1 a2 h (fun v6 => W206 v6 h (fun v7 h8 => C v7 h8))) else (W257 a1 h (fun v9 => W206 v9 h (fun v10 h11 => C v10 h11)))
def W259 (a1 : Int32) (a2 : Int32) (h : TH) (C : Int32 → TH → Prop) : Prop :=
  W247 a1 h (fun v1 => if v1 = 0 then (W205 1 h (fun v2 h3 => C v2 h3)) else (if a2 < 0 then (W205 1 h (fun v4 h5 => C v4 h5)) else (if a2 ≤ 8 then (if ¬ a2 = 7 then (B259_46 a1 a2 h C) else (W252 a1 h (fun v6 => if ¬ v6 = (-1) then (B259_46 a1 a2 h C) else (W205 6 h (fun v7 h8 => C v7 h8))))) else (W205 1 h (fun v9 h10 => C v9 h10)))))

theorem R259_46 {d : Nat} {a1 : Int32} {a2 : Int32} {h : TH} {C : Int32 → TH → Prop} (hL : Lay h) (hW : B259_46 a1 a2 h C) : xEk (d + 2) 259 (46, [(0, .ref 197), (1, .int a1), (2, .int a2)], [], h.X) (postI C) := by
  unfold B259_46 at hW
  iterate 3 (refine kst rfl rfl ?_)
  refine wcm_ne rfl hW (fun hW => ?_) (fun hW => ?_)
  · iterate 3 (refine kst rfl rfl ?_)
    refine qcvI rfl (oK12 hL rfl) rfl rfl (R251 (d := d + 1) (h := h) hL hW) (fun v6 hW => ?_)
    refine wcvI rfl (oK12 hL rfl) rfl rfl (R206 (d := d + 1) (h := h) hL hW) (fun v7 h8 hL hW => ?_)
    refine kre rfl rfl ?_
    exact ⟨_, _, rfl, hL, hW⟩
  · iterate 2 (refine kst rfl rfl ?_)
    refine qcvI rfl (oK12 hL rfl) rfl rfl (R257 (d := d + 0) (h := h) hL hW) (fun v9 hW => ?_)
    refine kst rfl rfl ?_
    refine wcvI rfl (oK12 hL rfl) rfl rfl (R206 (d := d + 1) (h := h) hL hW) (fun v10 h11 hL hW => ?_)
    refine kre rfl rfl ?_
    exact ⟨_, _, rfl, hL, hW⟩
theorem R259 {d : Nat} {a1 : Int32} {a2 : Int32} {h : TH} {C : Int32 → TH → Prop} (hL : Lay h) (hW : W259 a1 a2 h C) : xPk (d + 2) 259 [.ref 197, .int a1, .int a2] h.X (postI C) := by
  unfold W259 at hW
  refine kin (Nat.le_of_ble_eq_true rfl) ?_
  iterate 2 (refine kst rfl rfl ?_)
  refine qcvI rfl (oK12 hL rfl) rfl rfl (R247 (d := d + 1) (h := h) hL hW) (fun v1 hW => ?_)
  refine wif_eq rfl hW (fun hW => ?_) (fun hW => ?_)
  · iterate 2 (refine kst rfl rfl ?_)
    refine wcvI rfl (oK12 hL rfl) rfl rfl (R205 (d := d + 1) (h := h) hL hW) (fun v2 h3 hL hW => ?_)
    refine kre rfl rfl ?_
    exact ⟨_, _, rfl, hL, hW⟩
  · refine kst rfl rfl ?_
    refine wif_lt rfl hW (fun hW => ?_) (fun hW => ?_)
    · iterate 2 (refine kst rfl rfl ?_)
      refine wcvI rfl (oK12 hL rfl) rfl rfl (R205 (d := d + 1) (h := h) hL hW) (fun v4 h5 hL hW => ?_)
      refine kre rfl rfl ?_
      exact ⟨_, _, rfl, hL, hW⟩
    · iterate 2 (refine kst rfl rfl ?_)
      refine wcm_le rfl hW (fun hW => ?_) (fun hW => ?_)
      · iterate 2 (refine kst rfl rfl ?_)
        refine wcm_ne rfl hW (fun hW => ?_) (fun hW => ?_)
        · refine wjp ?_ (R259_46 (h := h) hL hW)
          exact ⟨rfl, rfl, rfl, trivial⟩
        · iterate 2 (refine kst rfl rfl ?_)
          refine qcvI rfl (oK12 hL rfl) rfl rfl (R252 (d := d + 0) (h := h) hL hW) (fun v6 hW => ?_)
          refine kst rfl rfl ?_
          refine wcm_ne rfl hW (fun hW => ?_) (fun hW => ?_)
          · refine wjp ?_ (R259_46 (h := h) hL hW)
            exact ⟨rfl, rfl, rfl, trivial⟩
          · iterate 2 (refine kst rfl rfl ?_)
            refine wcvI rfl (oK12 hL rfl) rfl rfl (R205 (d := d + 1) (h := h) hL hW) (fun v7 h8 hL hW => ?_)
            refine kre rfl rfl ?_
            exact ⟨_, _, rfl, hL, hW⟩
      · iterate 2 (refine kst rfl rfl ?_)
        refine wcvI rfl (oK12 hL rfl) rfl rfl (R205 (d := d + 1) (h := h) hL hW) (fun v9 h10 hL hW => ?_)
        refine kre rfl rfl ?_
        exact ⟨_, _, rfl, hL, hW⟩
/-- 260: FourPotsModel pot -/
def W260 (a1 : Int32) (h : TH) (C : Int32 → TH → Prop) : Prop :=
  if a1 < 0 then (W205 6 h (fun v1 h2 => C v1 h2)) else (if a1 < (h.I 198 (ix 1)) then (inb (8 + a1) 2200 ∧ W206 (h.I 198 (ix (8 + a1))) h (fun v3 h4 => C v3 h4)) else (W205 6 h (fun v5 h6 => C v5 h6)))

theorem R260 {d : Nat} {a1 : Int32} {h : TH} {C : Int32 → TH → Prop} (hL : Lay h) (hW : W260 a1 h C) : xPk (d + 1) 260 [.ref 197, .int a1] h.X (postI C) := by
  unfold W260 at hW
  refine kin (Nat.le_of_ble_eq_true rfl) ?_
  refine kst rfl rfl ?_
  refine wif_lt rfl hW (fun hW => ?_) (fun hW => ?_)
  · iterate 2 (refine kst rfl rfl ?_)
    refine wcvI rfl (oK12 hL rfl) rfl rfl (R205 (d := d + 0) (h := h) hL hW) (fun v1 h2 hL hW => ?_)
    refine kst rfl rfl ?_
    refine kre rfl rfl ?_
    exact ⟨_, _, rfl, hL, hW⟩
  · iterate 2 (refine kst rfl rfl ?_)
    refine wgetP (b := 198) rfl (oK12 hL rfl) rfl (oP12_0 hL) ?_
    refine kst rfl rfl ?_
    refine wald rfl (Or.inl (aK12_0 hL)) (aN12_0 hL) (by decide) ⟨by decide, by decide⟩ ?_
    refine wcm_lt rfl hW (fun hW => ?_) (fun hW => ?_)
    · iterate 2 (refine kst rfl rfl ?_)
      refine wgetP (b := 198) rfl (oK12 hL rfl) rfl (oP12_0 hL) ?_
      iterate 3 (refine kst rfl rfl ?_)
      obtain ⟨q1, hW⟩ := hW
      refine wald rfl (Or.inl (aK12_0 hL)) (aN12_0 hL) (by decide) q1 ?_
      refine wcvI rfl (oK12 hL rfl) rfl rfl (R206 (d := d + 0) (h := h) hL hW) (fun v3 h4 hL hW => ?_)
      refine kre rfl rfl ?_
      exact ⟨_, _, rfl, hL, hW⟩
    · iterate 2 (refine kst rfl rfl ?_)
      refine wcvI rfl (oK12 hL rfl) rfl rfl (R205 (d := d + 0) (h := h) hL hW) (fun v5 h6 hL hW => ?_)
      refine kst rfl rfl ?_
      refine kre rfl rfl ?_
      exact ⟨_, _, rfl, hL, hW⟩
/-- 261: FourPotsModel counts -/
def B261_96 (a1 : Int32) (a2 : Int32) (x3 : Int32) (s1 : Int32) (s2 : Int32) (s3 : Int32) (s4 : Int32) (h : TH) (C : TH → Prop) (X7 : Int32 × TH → Prop) : Prop :=
  inb s1 10 ∧ X7 ((x3 + 1), (h.sI 206 (ix s1) (s2 + (s3 + s4))))
def B261_73 (a1 : Int32) (a2 : Int32) (x3 : Int32) (h : TH) (C : TH → Prop) (X7 : Int32 × TH → Prop) : Prop :=
  if ¬ a2 = (-1) then (X7 ((x3 + 1), h)) else (inb x3 10 ∧ if a1 < x3 then (B261_96 a1 a2 x3 x3 (h.I 206 (ix x3)) 1 0 h C X7) else (B261_96 a1 a2 x3 x3 (h.I 206 (ix x3)) 1 1 h C X7))
def B261_65 (a1 : Int32) (a2 : Int32) (x3 : Int32) (x4 : Int32) (s1 : Int32) (s2 : Int32) (s3 : Int32) (h : TH) (C : TH → Prop) (X7 : Int32 × TH → Prop) (X23 : Int32 × TH → Prop) : Prop :=
  inb s1 10 ∧ X23 ((x4 + 1), (h.sI 206 (ix s1) (s2 + s3)))
def F261_23 (a1 : Int32) (a2 : Int32) (x3 : Int32) (C : TH → Prop) (X7 : Int32 × TH → Prop) (X23 : Int32 × TH → Prop) : Int32 × TH → Prop := fun
  | (x4, h) =>
    if (h.I 198 (ix 1)) ≤ x4 then (B261_73 a1 a2 x3 h C X7) else (if ¬ a2 = (-1) then (B261_73 a1 a2 x3 h C X7) else (inb x3 10 ∧ inb (8 + x4) 2200 ∧ if (h.I 198 (ix (8 + x4))) < x3 then (B261_65 a1 a2 x3 x4 x3 (h.I 206 (ix x3)) 0 h C X7 X23) else (B261_65 a1 a2 x3 x4 x3 (h.I 206 (ix x3)) 1 h C X7 X23)))
def B261_23 (a1 : Int32) (a2 : Int32) (x3 : Int32) (x4 : Int32) (h : TH) (C : TH → Prop) (X7 : Int32 × TH → Prop) : Prop := LFP (F261_23 a1 a2 x3 C X7) (x4, h)
def F261_7 (a1 : Int32) (a2 : Int32) (C : TH → Prop) (X7 : Int32 × TH → Prop) : Int32 × TH → Prop := fun
  | (x3, h) =>
    if 10 ≤ x3 then (C h) else (inb x3 10 ∧ B261_23 a1 a2 x3 0 (h.sI 206 (ix x3) a2) C X7)
def B261_7 (a1 : Int32) (a2 : Int32) (x3 : Int32) (h : TH) (C : TH → Prop) : Prop := LFP (F261_7 a1 a2 C) (x3, h)
def W261 (a1 : Int32) (a2 : Int32) (h : TH) (C : TH → Prop) : Prop :=
  B261_7 a1 a2 1 (h.sI 197 25 0) C

theorem R261_96 {d : Nat} {a1 : Int32} {a2 : Int32} {x3 : Int32} {s1 : Int32} {s2 : Int32} {s3 : Int32} {s4 : Int32} {h : TH} {C : TH → Prop} {X7 : Int32 × TH → Prop} (k7 : ∀ s : Int32 × TH, X7 s → Lay (s.2) → xEk d 261 (7, [(0, .ref 197), (1, .int a1), (2, .int a2), (3, .int (s.1))], [], (TH.X (s.2))) (postV C)) (hL : Lay h) (hW : B261_96 a1 a2 x3 s1 s2 s3 s4 h C X7) : xEk d 261 (96, [(0, .ref 197), (1, .int a1), (2, .int a2), (3, .int x3)], [.int s4, .int s3, .int s2, .int s1, .ref 206], h.X) (postV C) := by
  unfold B261_96 at hW
  iterate 2 (refine kst rfl rfl ?_)
  obtain ⟨q3, hW⟩ := hW
  refine wast rfl (aK12_23 hL) (aN12_23 hL) (by decide) q3 ?_
  replace hL : Lay (h.sI 206 (ix s1) (s2 + (s3 + s4))) := lsI hL
  iterate 2 (refine kst rfl rfl ?_)
  have z9 := k7 ((x3 + 1), (h.sI 206 (ix s1) (s2 + (s3 + s4)))) hW hL
  refine wjp ?_ z9
  exact ⟨rfl, rfl, rfl, rfl, trivial⟩
theorem R261_73 {d : Nat} {a1 : Int32} {a2 : Int32} {x3 : Int32} {h : TH} {C : TH → Prop} {X7 : Int32 × TH → Prop} (k7 : ∀ s : Int32 × TH, X7 s → Lay (s.2) → xEk d 261 (7, [(0, .ref 197), (1, .int a1), (2, .int a2), (3, .int (s.1))], [], (TH.X (s.2))) (postV C)) (hL : Lay h) (hW : B261_73 a1 a2 x3 h C X7) : xEk d 261 (73, [(0, .ref 197), (1, .int a1), (2, .int a2), (3, .int x3)], [], h.X) (postV C) := by
  unfold B261_73 at hW
  iterate 2 (refine kst rfl rfl ?_)
  refine wcm_ne rfl hW (fun hW => ?_) (fun hW => ?_)
  · iterate 2 (refine kst rfl rfl ?_)
    have z9 := k7 ((x3 + 1), h) hW hL
    refine wjp ?_ z9
    exact ⟨rfl, rfl, rfl, rfl, trivial⟩
  · refine kst rfl rfl ?_
    refine wgetP (b := 206) rfl (oK12 hL rfl) rfl (oP12_23 hL) ?_
    iterate 2 (refine kst rfl rfl ?_)
    obtain ⟨q2, hW⟩ := hW
    refine wald rfl (Or.inl (aK12_23 hL)) (aN12_23 hL) (by decide) q2 ?_
    iterate 3 (refine kst rfl rfl ?_)
    refine wcm_lt rfl hW (fun hW => ?_) (fun hW => ?_)
    · refine kst rfl rfl ?_
      refine wjp ?_ (R261_96 (h := h) k7 hL hW)
      exact ⟨rfl, rfl, rfl, rfl, trivial⟩
    · iterate 2 (refine kst rfl rfl ?_)
      refine wjp ?_ (R261_96 (h := h) k7 hL hW)
      exact ⟨rfl, rfl, rfl, rfl, trivial⟩
theorem R261_65 {d : Nat} {a1 : Int32} {a2 : Int32} {x3 : Int32} {x4 : Int32} {s1 : Int32} {s2 : Int32} {s3 : Int32} {h : TH} {C : TH → Prop} {X7 : Int32 × TH → Prop} (k7 : ∀ s : Int32 × TH, X7 s → Lay (s.2) → xEk d 261 (7, [(0, .ref 197), (1, .int a1), (2, .int a2), (3, .int (s.1))], [], (TH.X (s.2))) (postV C)) {X23 : Int32 × TH → Prop} (k23 : ∀ s : Int32 × TH, X23 s → Lay (s.2) → xEk d 261 (23, [(0, .ref 197), (1, .int a1), (2, .int a2), (3, .int x3), (4, .int (s.1))], [], (TH.X (s.2))) (postV C)) (hL : Lay h) (hW : B261_65 a1 a2 x3 x4 s1 s2 s3 h C X7 X23) : xEk d 261 (65, [(0, .ref 197), (1, .int a1), (2, .int a2), (3, .int x3), (4, .int x4)], [.int s3, .int s2, .int s1, .ref 206], h.X) (postV C) := by
  unfold B261_65 at hW
  refine kst rfl rfl ?_
  obtain ⟨q4, hW⟩ := hW
  refine wast rfl (aK12_23 hL) (aN12_23 hL) (by decide) q4 ?_
  replace hL : Lay (h.sI 206 (ix s1) (s2 + s3)) := lsI hL
  iterate 2 (refine kst rfl rfl ?_)
  have z9 := k23 ((x4 + 1), (h.sI 206 (ix s1) (s2 + s3))) hW hL
  refine wjp ?_ z9
  exact ⟨rfl, rfl, rfl, rfl, rfl, trivial⟩
theorem R261_23 {d : Nat} {a1 : Int32} {a2 : Int32} {x3 : Int32} {x4 : Int32} {h : TH} {C : TH → Prop} {X7 : Int32 × TH → Prop} (k7 : ∀ s : Int32 × TH, X7 s → Lay (s.2) → xEk d 261 (7, [(0, .ref 197), (1, .int a1), (2, .int a2), (3, .int (s.1))], [], (TH.X (s.2))) (postV C)) (hL : Lay h) (hW : B261_23 a1 a2 x3 x4 h C X7) : xEk d 261 (23, [(0, .ref 197), (1, .int a1), (2, .int a2), (3, .int x3), (4, .int x4)], [], h.X) (postV C) := by
  refine hW (fun s => Lay (s.2) → xEk d 261 (23, [(0, .ref 197), (1, .int a1), (2, .int a2), (3, .int x3), (4, .int (s.1))], [], (TH.X (s.2))) (postV C)) ?_ hL
  rintro ⟨x4, h⟩ hW hL
  have k23 : ∀ s : Int32 × TH, (fun s => Lay (s.2) → xEk d 261 (23, [(0, .ref 197), (1, .int a1), (2, .int a2), (3, .int x3), (4, .int (s.1))], [], (TH.X (s.2))) (postV C)) s → Lay (s.2) → xEk d 261 (23, [(0, .ref 197), (1, .int a1), (2, .int a2), (3, .int x3), (4, .int (s.1))], [], (TH.X (s.2))) (postV C) := fun s hs => hs
  unfold F261_23 at hW
  dsimp only at hW
  iterate 2 (refine kst rfl rfl ?_)
  refine wgetP (b := 198) rfl (oK12 hL rfl) rfl (oP12_0 hL) ?_
  refine kst rfl rfl ?_
  refine wald rfl (Or.inl (aK12_0 hL)) (aN12_0 hL) (by decide) ⟨by decide, by decide⟩ ?_
  refine wcm_ge rfl hW (fun hW => ?_) (fun hW => ?_)
  · refine wjp ?_ (R261_73 (h := h) k7 hL hW)
    exact ⟨rfl, rfl, rfl, rfl, trivial⟩
  · iterate 2 (refine kst rfl rfl ?_)
    refine wcm_ne rfl hW (fun hW => ?_) (fun hW => ?_)
    · refine wjp ?_ (R261_73 (h := h) k7 hL hW)
      exact ⟨rfl, rfl, rfl, rfl, trivial⟩
    · refine kst rfl rfl ?_
      refine wgetP (b := 206) rfl (oK12 hL rfl) rfl (oP12_23 hL) ?_
      iterate 2 (refine kst rfl rfl ?_)
      obtain ⟨q2, hW⟩ := hW
      refine wald rfl (Or.inl (aK12_23 hL)) (aN12_23 hL) (by decide) q2 ?_
      refine kst rfl rfl ?_
      refine wgetP (b := 198) rfl (oK12 hL rfl) rfl (oP12_0 hL) ?_
      iterate 3 (refine kst rfl rfl ?_)
      obtain ⟨q3, hW⟩ := hW
      refine wald rfl (Or.inl (aK12_0 hL)) (aN12_0 hL) (by decide) q3 ?_
      refine kst rfl rfl ?_
      refine wcm_lt rfl hW (fun hW => ?_) (fun hW => ?_)
      · refine kst rfl rfl ?_
        refine wjp ?_ (R261_65 (h := h) k7 k23 hL hW)
        exact ⟨rfl, rfl, rfl, rfl, rfl, trivial⟩
      · iterate 2 (refine kst rfl rfl ?_)
        refine wjp ?_ (R261_65 (h := h) k7 k23 hL hW)
        exact ⟨rfl, rfl, rfl, rfl, rfl, trivial⟩
theorem R261_7 {d : Nat} {a1 : Int32} {a2 : Int32} {x3 : Int32} {h : TH} {C : TH → Prop} (hL : Lay h) (hW : B261_7 a1 a2 x3 h C) : xEk d 261 (7, [(0, .ref 197), (1, .int a1), (2, .int a2), (3, .int x3)], [], h.X) (postV C) := by
  refine hW (fun s => Lay (s.2) → xEk d 261 (7, [(0, .ref 197), (1, .int a1), (2, .int a2), (3, .int (s.1))], [], (TH.X (s.2))) (postV C)) ?_ hL
  rintro ⟨x3, h⟩ hW hL
  have k7 : ∀ s : Int32 × TH, (fun s => Lay (s.2) → xEk d 261 (7, [(0, .ref 197), (1, .int a1), (2, .int a2), (3, .int (s.1))], [], (TH.X (s.2))) (postV C)) s → Lay (s.2) → xEk d 261 (7, [(0, .ref 197), (1, .int a1), (2, .int a2), (3, .int (s.1))], [], (TH.X (s.2))) (postV C) := fun s hs => hs
  unfold F261_7 at hW
  dsimp only at hW
  iterate 2 (refine kst rfl rfl ?_)
  refine wcm_ge rfl hW (fun hW => ?_) (fun hW => ?_)
  · refine kre rfl rfl ?_
    exact ⟨_, rfl, hL, hW⟩
  · refine kst rfl rfl ?_
    refine wgetP (b := 206) rfl (oK12 hL rfl) rfl (oP12_23 hL) ?_
    iterate 2 (refine kst rfl rfl ?_)
    obtain ⟨q1, hW⟩ := hW
    refine wast rfl (aK12_23 hL) (aN12_23 hL) (by decide) q1 ?_
    replace hL : Lay (h.sI 206 (ix x3) a2) := lsI hL
    iterate 2 (refine kst rfl rfl ?_)
    refine wjp ?_ (R261_23 (h := (h.sI 206 (ix x3) a2)) k7 hL hW)
    exact ⟨rfl, rfl, rfl, rfl, rfl, trivial⟩
theorem R261 {d : Nat} {a1 : Int32} {a2 : Int32} {h : TH} {C : TH → Prop} (hL : Lay h) (hW : W261 a1 a2 h C) : xPk d 261 [.ref 197, .int a1, .int a2] h.X (postV C) := by
  unfold W261 at hW
  refine kin (Nat.le_of_ble_eq_true rfl) ?_
  iterate 2 (refine kst rfl rfl ?_)
  refine wputZ rfl (oK12 hL rfl) rfl (by decide) ?_
  replace hL : Lay (h.sI 197 25 0) := lsI hL
  iterate 2 (refine kst rfl rfl ?_)
  refine wjp ?_ (R261_7 (h := (h.sI 197 25 0)) hL hW)
  exact ⟨rfl, rfl, rfl, rfl, trivial⟩
/-- 262: FourPotsModel fitsIn -/
def B262_64 (a1 : Int32) (x2 : Int32) (x4 : Int32) (s0 : Int32) (s1 : Int32) (h : TH) (C : Int32 → Prop) (X16 : Int32 → Prop) (X27 : Int32 × Int32 → Prop) : Prop :=
  X27 ((s0 + s1), (x4 + 1))
def B262_63 (a1 : Int32) (x2 : Int32) (x4 : Int32) (s0 : Int32) (h : TH) (C : Int32 → Prop) (X16 : Int32 → Prop) (X27 : Int32 × Int32 → Prop) : Prop :=
  B262_64 a1 x2 x4 s0 0 h C X16 X27
def F262_27 (a1 : Int32) (x2 : Int32) (h : TH) (C : Int32 → Prop) (X16 : Int32 → Prop) (X27 : Int32 × Int32 → Prop) : Int32 × Int32 → Prop := fun
  | (x3, x4) =>
    if (h.I 198 (ix 0)) ≤ x4 then (inb x2 10 ∧ if x3 ≤ (h.I 206 (ix x2)) then (X16 (x2 + 1)) else (C 0)) else (W250 a1 x4 h (fun v1 => if v1 = 0 then (B262_63 a1 x2 x4 x3 h C X16 X27) else (W251 x4 1 h (fun v2 => if v2 < x2 then (B262_63 a1 x2 x4 x3 h C X16 X27) else (B262_64 a1 x2 x4 x3 1 h C X16 X27)))))
def B262_27 (a1 : Int32) (x2 : Int32) (x3 : Int32) (x4 : Int32) (h : TH) (C : Int32 → Prop) (X16 : Int32 → Prop) : Prop := LFP (F262_27 a1 x2 h C X16) (x3, x4)
def F262_16 (a1 : Int32) (h : TH) (C : Int32 → Prop) (X16 : Int32 → Prop) : Int32 → Prop := fun
  | x2 =>
    if 10 ≤ x2 then (C 1) else (B262_27 a1 x2 0 0 h C X16)
def B262_16 (a1 : Int32) (x2 : Int32) (h : TH) (C : Int32 → Prop) : Prop := LFP (F262_16 a1 h C) x2
def W262 (a1 : Int32) (h : TH) (C : Int32 → Prop) : Prop :=
  if (h.I 197 25) = 0 then (B262_16 a1 1 h C) else (inb a1 4096 ∧ ((h.I 207 (ix a1)) = 0 ∨ (h.I 207 (ix a1)) = 1) ∧ C (h.I 207 (ix a1)))

theorem R262_64 {d : Nat} {a1 : Int32} {x2 : Int32} {x4 : Int32} {s0 : Int32} {s1 : Int32} {h : TH} {C : Int32 → Prop} {X16 : Int32 → Prop} (k16 : ∀ s : Int32, X16 s → xEk (d + 1) 262 (16, [(0, .ref 197), (1, .int a1), (2, .int s)], [], (TH.X (h))) (qostI h C)) {X27 : Int32 × Int32 → Prop} (k27 : ∀ s : Int32 × Int32, X27 s → xEk (d + 1) 262 (27, [(0, .ref 197), (1, .int a1), (2, .int x2), (3, .int (s.1)), (4, .int (s.2))], [], (TH.X (h))) (qostI h C)) (hL : Lay h) (hW : B262_64 a1 x2 x4 s0 s1 h C X16 X27) : xEk (d + 1) 262 (64, [(0, .ref 197), (1, .int a1), (2, .int x2), (4, .int x4)], [.int s1, .int s0], h.X) (qostI h C) := by
  unfold B262_64 at hW
  iterate 4 (refine kst rfl rfl ?_)
  have z9 := k27 ((s0 + s1), (x4 + 1)) hW
  refine wjp ?_ z9
  exact ⟨rfl, rfl, rfl, rfl, rfl, trivial⟩
theorem R262_63 {d : Nat} {a1 : Int32} {x2 : Int32} {x4 : Int32} {s0 : Int32} {h : TH} {C : Int32 → Prop} {X16 : Int32 → Prop} (k16 : ∀ s : Int32, X16 s → xEk (d + 1) 262 (16, [(0, .ref 197), (1, .int a1), (2, .int s)], [], (TH.X (h))) (qostI h C)) {X27 : Int32 × Int32 → Prop} (k27 : ∀ s : Int32 × Int32, X27 s → xEk (d + 1) 262 (27, [(0, .ref 197), (1, .int a1), (2, .int x2), (3, .int (s.1)), (4, .int (s.2))], [], (TH.X (h))) (qostI h C)) (hL : Lay h) (hW : B262_63 a1 x2 x4 s0 h C X16 X27) : xEk (d + 1) 262 (63, [(0, .ref 197), (1, .int a1), (2, .int x2), (4, .int x4)], [.int s0], h.X) (qostI h C) := by
  unfold B262_63 at hW
  refine kst rfl rfl ?_
  refine wjp ?_ (R262_64 (h := h) k16 k27 hL hW)
  exact ⟨rfl, rfl, rfl, rfl, trivial⟩
theorem R262_27 {d : Nat} {a1 : Int32} {x2 : Int32} {x3 : Int32} {x4 : Int32} {h : TH} {C : Int32 → Prop} {X16 : Int32 → Prop} (k16 : ∀ s : Int32, X16 s → xEk (d + 1) 262 (16, [(0, .ref 197), (1, .int a1), (2, .int s)], [], (TH.X (h))) (qostI h C)) (hL : Lay h) (hW : B262_27 a1 x2 x3 x4 h C X16) : xEk (d + 1) 262 (27, [(0, .ref 197), (1, .int a1), (2, .int x2), (3, .int x3), (4, .int x4)], [], h.X) (qostI h C) := by
  refine hW (fun s => xEk (d + 1) 262 (27, [(0, .ref 197), (1, .int a1), (2, .int x2), (3, .int (s.1)), (4, .int (s.2))], [], (TH.X (h))) (qostI h C)) ?_
  rintro ⟨x3, x4⟩ hW 
  have k27 : ∀ s : Int32 × Int32, (fun s => xEk (d + 1) 262 (27, [(0, .ref 197), (1, .int a1), (2, .int x2), (3, .int (s.1)), (4, .int (s.2))], [], (TH.X (h))) (qostI h C)) s → xEk (d + 1) 262 (27, [(0, .ref 197), (1, .int a1), (2, .int x2), (3, .int (s.1)), (4, .int (s.2))], [], (TH.X (h))) (qostI h C) := fun s hs => hs
  unfold F262_27 at hW
  dsimp only at hW
  iterate 2 (refine kst rfl rfl ?_)
  refine wgetP (b := 198) rfl (oK12 hL rfl) rfl (oP12_0 hL) ?_
  refine kst rfl rfl ?_
  refine wald rfl (Or.inl (aK12_0 hL)) (aN12_0 hL) (by decide) ⟨by decide, by decide⟩ ?_
  refine wcm_ge rfl hW (fun hW => ?_) (fun hW => ?_)
  · iterate 2 (refine kst rfl rfl ?_)
    refine wgetP (b := 206) rfl (oK12 hL rfl) rfl (oP12_23 hL) ?_
    refine kst rfl rfl ?_
    obtain ⟨q1, hW⟩ := hW
    refine wald rfl (Or.inl (aK12_23 hL)) (aN12_23 hL) (by decide) q1 ?_
    refine wcm_le rfl hW (fun hW => ?_) (fun hW => ?_)
    · iterate 2 (refine kst rfl rfl ?_)
      have z9 := k16 (x2 + 1) hW
      refine wjp ?_ z9
      exact ⟨rfl, rfl, rfl, trivial⟩
    · refine kst rfl rfl ?_
      refine kre rfl rfl ?_
      exact ⟨_, rfl, hW⟩
  · iterate 3 (refine kst rfl rfl ?_)
    refine qcaI rfl rfl (R250 (d := d + 0) (h := h) hL hW) (fun v1 hW => ?_)
    refine wif_eq rfl hW (fun hW => ?_) (fun hW => ?_)
    · refine wjp ?_ (R262_63 (h := h) k16 k27 hL hW)
      exact ⟨rfl, rfl, rfl, rfl, trivial⟩
    · iterate 3 (refine kst rfl rfl ?_)
      refine qcvI rfl (oK12 hL rfl) rfl rfl (R251 (d := d + 0) (h := h) hL hW) (fun v2 hW => ?_)
      refine kst rfl rfl ?_
      refine wcm_lt rfl hW (fun hW => ?_) (fun hW => ?_)
      · refine wjp ?_ (R262_63 (h := h) k16 k27 hL hW)
        exact ⟨rfl, rfl, rfl, rfl, trivial⟩
      · iterate 2 (refine kst rfl rfl ?_)
        refine wjp ?_ (R262_64 (h := h) k16 k27 hL hW)
        exact ⟨rfl, rfl, rfl, rfl, trivial⟩
theorem R262_16 {d : Nat} {a1 : Int32} {x2 : Int32} {h : TH} {C : Int32 → Prop} (hL : Lay h) (hW : B262_16 a1 x2 h C) : xEk (d + 1) 262 (16, [(0, .ref 197), (1, .int a1), (2, .int x2)], [], h.X) (qostI h C) := by
  refine hW (fun s => xEk (d + 1) 262 (16, [(0, .ref 197), (1, .int a1), (2, .int s)], [], (TH.X (h))) (qostI h C)) ?_
  rintro x2 hW 
  have k16 : ∀ s : Int32, (fun s => xEk (d + 1) 262 (16, [(0, .ref 197), (1, .int a1), (2, .int s)], [], (TH.X (h))) (qostI h C)) s → xEk (d + 1) 262 (16, [(0, .ref 197), (1, .int a1), (2, .int s)], [], (TH.X (h))) (qostI h C) := fun s hs => hs
  unfold F262_16 at hW
  dsimp only at hW
  iterate 2 (refine kst rfl rfl ?_)
  refine wcm_ge rfl hW (fun hW => ?_) (fun hW => ?_)
  · refine kst rfl rfl ?_
    refine kre rfl rfl ?_
    exact ⟨_, rfl, hW⟩
  · iterate 4 (refine kst rfl rfl ?_)
    refine wjp ?_ (R262_27 (h := h) k16 hL hW)
    exact ⟨rfl, rfl, rfl, rfl, rfl, trivial⟩
theorem R262 {d : Nat} {a1 : Int32} {h : TH} {C : Int32 → Prop} (hL : Lay h) (hW : W262 a1 h C) : xPk (d + 1) 262 [.ref 197, .int a1] h.X (qostI h C) := by
  unfold W262 at hW
  refine kin (Nat.le_of_ble_eq_true rfl) ?_
  refine kst rfl rfl ?_
  refine wgetI rfl (oK12 hL rfl) rfl ?_
  refine wif_eq rfl hW (fun hW => ?_) (fun hW => ?_)
  · iterate 2 (refine kst rfl rfl ?_)
    refine wjp ?_ (R262_16 (h := h) hL hW)
    exact ⟨rfl, rfl, rfl, trivial⟩
  · refine kst rfl rfl ?_
    refine wgetP (b := 207) rfl (oK12 hL rfl) rfl (oP12_24 hL) ?_
    refine kst rfl rfl ?_
    obtain ⟨q1, hW⟩ := hW
    refine wbald rfl (Or.inl (aK12_24 hL)) (aN12_24 hL) (by decide) q1 ?_
    obtain ⟨q2, hW⟩ := hW
    refine wrZ rfl q2 ?_
    exact ⟨_, rfl, hW⟩
/-- 263: FourPotsModel laysFits -/
def F263_8 (C : TH → Prop) (X8 : Int32 × TH → Prop) : Int32 × TH → Prop := fun
  | (x3, h) =>
    W248  h (fun v2 => if v2 ≤ x3 then (C (h.sI 197 25 1)) else (W262 x3 h (fun v3 => inb x3 4096 ∧ X8 ((x3 + 1), (h.sI 207 (ix x3) (v3 &&& 1))))))
def B263_8 (x3 : Int32) (h : TH) (C : TH → Prop) : Prop := LFP (F263_8 C) (x3, h)
def W263 (a1 : Int32) (a2 : Int32) (h : TH) (C : TH → Prop) : Prop :=
  W261 a1 a2 h (fun h1 => B263_8 0 h1 C)

theorem R263_8 {d : Nat} {x3 : Int32} {h : TH} {C : TH → Prop} (hL : Lay h) (hW : B263_8 x3 h C) : xEk (d + 2) 263 (8, [(0, .ref 197), (3, .int x3)], [], h.X) (postV C) := by
  refine hW (fun s => Lay (s.2) → xEk (d + 2) 263 (8, [(0, .ref 197), (3, .int (s.1))], [], (TH.X (s.2))) (postV C)) ?_ hL
  rintro ⟨x3, h⟩ hW hL
  have k8 : ∀ s : Int32 × TH, (fun s => Lay (s.2) → xEk (d + 2) 263 (8, [(0, .ref 197), (3, .int (s.1))], [], (TH.X (s.2))) (postV C)) s → Lay (s.2) → xEk (d + 2) 263 (8, [(0, .ref 197), (3, .int (s.1))], [], (TH.X (s.2))) (postV C) := fun s hs => hs
  unfold F263_8 at hW
  dsimp only at hW
  iterate 2 (refine kst rfl rfl ?_)
  refine qcvI rfl (oK12 hL rfl) rfl rfl (R248 (d := d + 1) (h := h) hL hW) (fun v2 hW => ?_)
  refine wcm_ge rfl hW (fun hW => ?_) (fun hW => ?_)
  · iterate 2 (refine kst rfl rfl ?_)
    refine wputZ rfl (oK12 hL rfl) rfl (by decide) ?_
    replace hL : Lay (h.sI 197 25 1) := lsI hL
    refine kre rfl rfl ?_
    exact ⟨_, rfl, hL, hW⟩
  · refine kst rfl rfl ?_
    refine wgetP (b := 207) rfl (oK12 hL rfl) rfl (oP12_24 hL) ?_
    iterate 3 (refine kst rfl rfl ?_)
    refine qcvI rfl (oK12 hL rfl) rfl rfl (R262 (d := d + 0) (h := h) hL hW) (fun v3 hW => ?_)
    obtain ⟨q1, hW⟩ := hW
    refine wzast rfl (aK12_24 hL) (aN12_24 hL) (by decide) q1 ?_
    replace hL : Lay (h.sI 207 (ix x3) (v3 &&& 1)) := lsI hL
    iterate 2 (refine kst rfl rfl ?_)
    have z9 := k8 ((x3 + 1), (h.sI 207 (ix x3) (v3 &&& 1))) hW hL
    refine wjp ?_ z9
    exact ⟨rfl, rfl, trivial⟩
theorem R263 {d : Nat} {a1 : Int32} {a2 : Int32} {h : TH} {C : TH → Prop} (hL : Lay h) (hW : W263 a1 a2 h C) : xPk (d + 2) 263 [.ref 197, .int a1, .int a2] h.X (postV C) := by
  unfold W263 at hW
  refine kin (Nat.le_of_ble_eq_true rfl) ?_
  iterate 3 (refine kst rfl rfl ?_)
  refine wcvV rfl (oK12 hL rfl) rfl rfl (R261 (d := d + 1) (h := h) hL hW) (fun h1 hL hW => ?_)
  iterate 2 (refine kst rfl rfl ?_)
  refine wjp ?_ (R263_8 (h := h1) hL hW)
  exact ⟨rfl, rfl, trivial⟩
/-- 264: FourPotsModel fits -/
def W264 (a1 : Int32) (h : TH) (C : Int32 → TH → Prop) : Prop :=
  W249 a1 h (fun v1 => if ¬ v1 = 0 then (W261 0 (-1) h (fun h2 => W262 a1 h2 (fun v3 => if v3 = 0 then (W206 0 h2 (fun v4 h5 => C v4 h5)) else (W206 1 h2 (fun v6 h7 => C v6 h7))))) else (W205 1 h (fun v8 h9 => C v8 h9)))

theorem R264 {d : Nat} {a1 : Int32} {h : TH} {C : Int32 → TH → Prop} (hL : Lay h) (hW : W264 a1 h C) : xPk (d + 2) 264 [.ref 197, .int a1] h.X (postI C) := by
  unfold W264 at hW
  refine kin (Nat.le_of_ble_eq_true rfl) ?_
  iterate 2 (refine kst rfl rfl ?_)
  refine qcvI rfl (oK12 hL rfl) rfl rfl (R249 (d := d + 0) (h := h) hL hW) (fun v1 hW => ?_)
  refine wif_ne rfl hW (fun hW => ?_) (fun hW => ?_)
  · iterate 3 (refine kst rfl rfl ?_)
    refine wcvV rfl (oK12 hL rfl) rfl rfl (R261 (d := d + 1) (h := h) hL hW) (fun h2 hL hW => ?_)
    iterate 3 (refine kst rfl rfl ?_)
    refine qcvI rfl (oK12 hL rfl) rfl rfl (R262 (d := d + 0) (h := h2) hL hW) (fun v3 hW => ?_)
    refine wif_eq rfl hW (fun hW => ?_) (fun hW => ?_)
    · refine kst rfl rfl ?_
      refine wcvI rfl (oK12 hL rfl) rfl rfl (R206 (d := d + 1) (h := h2) hL hW) (fun v4 h5 hL hW => ?_)
      refine kre rfl rfl ?_
      exact ⟨_, _, rfl, hL, hW⟩
    · iterate 2 (refine kst rfl rfl ?_)
      refine wcvI rfl (oK12 hL rfl) rfl rfl (R206 (d := d + 1) (h := h2) hL hW) (fun v6 h7 hL hW => ?_)
      refine kre rfl rfl ?_
      exact ⟨_, _, rfl, hL, hW⟩
  · iterate 2 (refine kst rfl rfl ?_)
    refine wcvI rfl (oK12 hL rfl) rfl rfl (R205 (d := d + 1) (h := h) hL hW) (fun v8 h9 hL hW => ?_)
    refine kre rfl rfl ?_
    exact ⟨_, _, rfl, hL, hW⟩
/-- 265: FourPotsModel neededFor -/
def F265_14 (x3 : Int32) (h : TH) (C : Int32 → Prop) (X4 : Int32 × Int32 → Prop) (X14 : Int32 × Int32 → Prop) : Int32 × Int32 → Prop := fun
  | (x2, x4) =>
    if (h.I 198 (ix 0)) ≤ x4 then (X4 (x2, x3)) else (W250 x3 x4 h (fun v1 => if v1 = 0 then (X14 (x2, (x4 + 1))) else (W253 x4 h (fun v2 => W251 x4 4 h (fun v3 => X14 ((x2 ||| (v2 ||| v3)), (x4 + 1)))))))
def B265_14 (x3 : Int32) (x2 : Int32) (x4 : Int32) (h : TH) (C : Int32 → Prop) (X4 : Int32 × Int32 → Prop) : Prop := LFP (F265_14 x3 h C X4) (x2, x4)
def F265_4 (h : TH) (C : Int32 → Prop) (X4 : Int32 × Int32 → Prop) : Int32 × Int32 → Prop := fun
  | (x2, x3) =>
    if x2 = x3 then (C x2) else (B265_14 x2 x2 0 h C X4)
def B265_4 (x2 : Int32) (x3 : Int32) (h : TH) (C : Int32 → Prop) : Prop := LFP (F265_4 h C) (x2, x3)
def W265 (a1 : Int32) (h : TH) (C : Int32 → Prop) : Prop :=
  B265_4 a1 0 h C

theorem R265_14 {d : Nat} {x3 : Int32} {x2 : Int32} {x4 : Int32} {h : TH} {C : Int32 → Prop} {X4 : Int32 × Int32 → Prop} (k4 : ∀ s : Int32 × Int32, X4 s → xEk (d + 3) 265 (4, [(0, .ref 197), (2, .int (s.1)), (3, .int (s.2))], [], (TH.X (h))) (qostI h C)) (hL : Lay h) (hW : B265_14 x3 x2 x4 h C X4) : xEk (d + 3) 265 (14, [(0, .ref 197), (2, .int x2), (3, .int x3), (4, .int x4)], [], h.X) (qostI h C) := by
  refine hW (fun s => xEk (d + 3) 265 (14, [(0, .ref 197), (2, .int (s.1)), (3, .int x3), (4, .int (s.2))], [], (TH.X (h))) (qostI h C)) ?_
  rintro ⟨x2, x4⟩ hW 
  have k14 : ∀ s : Int32 × Int32, (fun s => xEk (d + 3) 265 (14, [(0, .ref 197), (2, .int (s.1)), (3, .int x3), (4, .int (s.2))], [], (TH.X (h))) (qostI h C)) s → xEk (d + 3) 265 (14, [(0, .ref 197), (2, .int (s.1)), (3, .int x3), (4, .int (s.2))], [], (TH.X (h))) (qostI h C) := fun s hs => hs
  unfold F265_14 at hW
  dsimp only at hW
  iterate 2 (refine kst rfl rfl ?_)
  refine wgetP (b := 198) rfl (oK12 hL rfl) rfl (oP12_0 hL) ?_
  refine kst rfl rfl ?_
  refine wald rfl (Or.inl (aK12_0 hL)) (aN12_0 hL) (by decide) ⟨by decide, by decide⟩ ?_
  refine wcm_ge rfl hW (fun hW => ?_) (fun hW => ?_)
  · refine kst rfl rfl ?_
    have z9 := k4 (x2, x3) hW
    refine wjp ?_ z9
    exact ⟨rfl, rfl, rfl, trivial⟩
  · iterate 2 (refine kst rfl rfl ?_)
    refine qcaI rfl rfl (R250 (d := d + 2) (h := h) hL hW) (fun v1 hW => ?_)
    refine wif_eq rfl hW (fun hW => ?_) (fun hW => ?_)
    · iterate 2 (refine kst rfl rfl ?_)
      have z9 := k14 (x2, (x4 + 1)) hW
      refine wjp ?_ z9
      exact ⟨rfl, rfl, rfl, rfl, trivial⟩
    · iterate 3 (refine kst rfl rfl ?_)
      refine qcvI rfl (oK12 hL rfl) rfl rfl (R253 (d := d + 0) (h := h) hL hW) (fun v2 hW => ?_)
      iterate 3 (refine kst rfl rfl ?_)
      refine qcvI rfl (oK12 hL rfl) rfl rfl (R251 (d := d + 2) (h := h) hL hW) (fun v3 hW => ?_)
      iterate 5 (refine kst rfl rfl ?_)
      have z9 := k14 ((x2 ||| (v2 ||| v3)), (x4 + 1)) hW
      refine wjp ?_ z9
      exact ⟨rfl, rfl, rfl, rfl, trivial⟩
theorem R265_4 {d : Nat} {x2 : Int32} {x3 : Int32} {h : TH} {C : Int32 → Prop} (hL : Lay h) (hW : B265_4 x2 x3 h C) : xEk (d + 3) 265 (4, [(0, .ref 197), (2, .int x2), (3, .int x3)], [], h.X) (qostI h C) := by
  refine hW (fun s => xEk (d + 3) 265 (4, [(0, .ref 197), (2, .int (s.1)), (3, .int (s.2))], [], (TH.X (h))) (qostI h C)) ?_
  rintro ⟨x2, x3⟩ hW 
  have k4 : ∀ s : Int32 × Int32, (fun s => xEk (d + 3) 265 (4, [(0, .ref 197), (2, .int (s.1)), (3, .int (s.2))], [], (TH.X (h))) (qostI h C)) s → xEk (d + 3) 265 (4, [(0, .ref 197), (2, .int (s.1)), (3, .int (s.2))], [], (TH.X (h))) (qostI h C) := fun s hs => hs
  unfold F265_4 at hW
  dsimp only at hW
  iterate 2 (refine kst rfl rfl ?_)
  refine wcm_eq rfl hW (fun hW => ?_) (fun hW => ?_)
  · refine kst rfl rfl ?_
    refine kre rfl rfl ?_
    exact ⟨_, rfl, hW⟩
  · iterate 4 (refine kst rfl rfl ?_)
    refine wjp ?_ (R265_14 (h := h) k4 hL hW)
    exact ⟨rfl, rfl, rfl, rfl, trivial⟩
theorem R265 {d : Nat} {a1 : Int32} {h : TH} {C : Int32 → Prop} (hL : Lay h) (hW : W265 a1 h C) : xPk (d + 3) 265 [.ref 197, .int a1] h.X (qostI h C) := by
  unfold W265 at hW
  refine kin (Nat.le_of_ble_eq_true rfl) ?_
  iterate 4 (refine kst rfl rfl ?_)
  refine wjp ?_ (R265_4 (h := h) hL hW)
  exact ⟨rfl, rfl, rfl, trivial⟩
/-- 266: FourPotsModel needed -/
def W266 (a1 : Int32) (h : TH) (C : Int32 → TH → Prop) : Prop :=
  W249 a1 h (fun v1 => if v1 = 0 then (W205 1 h (fun v2 h3 => C v2 h3)) else (W265 a1 h (fun v4 => W206 v4 h (fun v5 h6 => C v5 h6))))

theorem R266 {d : Nat} {a1 : Int32} {h : TH} {C : Int32 → TH → Prop} (hL : Lay h) (hW : W266 a1 h C) : xPk (d + 4) 266 [.ref 197, .int a1] h.X (postI C) := by
  unfold W266 at hW
  refine kin (Nat.le_of_ble_eq_true rfl) ?_
  iterate 2 (refine kst rfl rfl ?_)
  refine qcvI rfl (oK12 hL rfl) rfl rfl (R249 (d := d + 2) (h := h) hL hW) (fun v1 hW => ?_)
  refine wif_eq rfl hW (fun hW => ?_) (fun hW => ?_)
  · iterate 2 (refine kst rfl rfl ?_)
    refine wcvI rfl (oK12 hL rfl) rfl rfl (R205 (d := d + 3) (h := h) hL hW) (fun v2 h3 hL hW => ?_)
    refine kre rfl rfl ?_
    exact ⟨_, _, rfl, hL, hW⟩
  · iterate 3 (refine kst rfl rfl ?_)
    refine qcvI rfl (oK12 hL rfl) rfl rfl (R265 (d := d + 0) (h := h) hL hW) (fun v4 hW => ?_)
    refine wcvI rfl (oK12 hL rfl) rfl rfl (R206 (d := d + 3) (h := h) hL hW) (fun v5 h6 hL hW => ?_)
    refine kst rfl rfl ?_
    refine kre rfl rfl ?_
    exact ⟨_, _, rfl, hL, hW⟩
/-- 267: FourPotsModel makes -/
def W267 (a1 : Int32) (a2 : Int32) (h : TH) (C : Int32 → Prop) : Prop :=
  W253 a2 h (fun v1 => W254 a2 h (fun v2 => if ¬ (a1 &&& v1) = 0 then (C (-1)) else (if ¬ (v2 &&& (a1 ^^^ (-1))) = 0 then (C (-1)) else (W262 (a1 ||| v1) h (fun v3 => if ¬ v3 = 0 then (W256 v2 h (fun v4 => C ((a1 ||| v1) &&& (v4 ^^^ (-1))))) else (C (-1)))))))

theorem R267 {d : Nat} {a1 : Int32} {a2 : Int32} {h : TH} {C : Int32 → Prop} (hL : Lay h) (hW : W267 a1 a2 h C) : xPk (d + 3) 267 [.ref 197, .int a1, .int a2] h.X (qostI h C) := by
  unfold W267 at hW
  refine kin (Nat.le_of_ble_eq_true rfl) ?_
  iterate 2 (refine kst rfl rfl ?_)
  refine qcvI rfl (oK12 hL rfl) rfl rfl (R253 (d := d + 0) (h := h) hL hW) (fun v1 hW => ?_)
  iterate 3 (refine kst rfl rfl ?_)
  refine qcvI rfl (oK12 hL rfl) rfl rfl (R254 (d := d + 0) (h := h) hL hW) (fun v2 hW => ?_)
  iterate 4 (refine kst rfl rfl ?_)
  refine wif_ne rfl hW (fun hW => ?_) (fun hW => ?_)
  · refine kst rfl rfl ?_
    refine kre rfl rfl ?_
    exact ⟨_, rfl, hW⟩
  · iterate 5 (refine kst rfl rfl ?_)
    refine wif_ne rfl hW (fun hW => ?_) (fun hW => ?_)
    · refine kst rfl rfl ?_
      refine kre rfl rfl ?_
      exact ⟨_, rfl, hW⟩
    · iterate 4 (refine kst rfl rfl ?_)
      refine qcvI rfl (oK12 hL rfl) rfl rfl (R262 (d := d + 1) (h := h) hL hW) (fun v3 hW => ?_)
      refine wif_ne rfl hW (fun hW => ?_) (fun hW => ?_)
      · iterate 5 (refine kst rfl rfl ?_)
        refine qcvI rfl (oK12 hL rfl) rfl rfl (R256 (d := d + 1) (h := h) hL hW) (fun v4 hW => ?_)
        iterate 3 (refine kst rfl rfl ?_)
        refine kre rfl rfl ?_
        exact ⟨_, rfl, hW⟩
      · refine kst rfl rfl ?_
        refine kre rfl rfl ?_
        exact ⟨_, rfl, hW⟩
/-- 268: FourPotsModel pours -/
def W268 (a1 : Int32) (a2 : Int32) (a3 : Int32) (a4 : Int32) (h : TH) (C : Int32 → Prop) : Prop :=
  W251 a3 4 h (fun v1 => W251 a3 5 h (fun v2 => if v2 = 0 then (C (-1)) else (W252 a3 h (fun v3 => if ¬ v3 = (-1) then (C (-1)) else (W250 a1 a3 h (fun v4 => if ¬ v4 = 0 then (C (-1)) else (if ¬ (v1 &&& (a1 ^^^ (-1))) = 0 then (C (-1)) else (W250 v1 a4 h (fun v5 => if v5 = 0 then (C (-1)) else (W250 a2 a4 h (fun v6 => if ¬ v6 = 0 then (W262 ((a1 &&& ((ishl 1 a4) ^^^ (-1))) ||| (ishl 1 a3)) h (fun v7 => if v7 = 0 then (C (-1)) else (W256 v1 h (fun v8 => C (((a1 &&& ((ishl 1 a4) ^^^ (-1))) ||| (ishl 1 a3)) &&& (v8 ^^^ (-1))))))) else (C (-1)))))))))))))

theorem R268 {d : Nat} {a1 : Int32} {a2 : Int32} {a3 : Int32} {a4 : Int32} {h : TH} {C : Int32 → Prop} (hL : Lay h) (hW : W268 a1 a2 a3 a4 h C) : xPk (d + 2) 268 [.ref 197, .int a1, .int a2, .int a3, .int a4] h.X (qostI h C) := by
  unfold W268 at hW
  refine kin (Nat.le_of_ble_eq_true rfl) ?_
  iterate 3 (refine kst rfl rfl ?_)
  refine qcvI rfl (oK12 hL rfl) rfl rfl (R251 (d := d + 1) (h := h) hL hW) (fun v1 hW => ?_)
  iterate 4 (refine kst rfl rfl ?_)
  refine qcvI rfl (oK12 hL rfl) rfl rfl (R251 (d := d + 1) (h := h) hL hW) (fun v2 hW => ?_)
  refine wif_eq rfl hW (fun hW => ?_) (fun hW => ?_)
  · refine kst rfl rfl ?_
    refine kre rfl rfl ?_
    exact ⟨_, rfl, hW⟩
  · iterate 2 (refine kst rfl rfl ?_)
    refine qcvI rfl (oK12 hL rfl) rfl rfl (R252 (d := d + 0) (h := h) hL hW) (fun v3 hW => ?_)
    refine kst rfl rfl ?_
    refine wcm_ne rfl hW (fun hW => ?_) (fun hW => ?_)
    · refine kst rfl rfl ?_
      refine kre rfl rfl ?_
      exact ⟨_, rfl, hW⟩
    · iterate 2 (refine kst rfl rfl ?_)
      refine qcaI rfl rfl (R250 (d := d + 1) (h := h) hL hW) (fun v4 hW => ?_)
      refine wif_ne rfl hW (fun hW => ?_) (fun hW => ?_)
      · refine kst rfl rfl ?_
        refine kre rfl rfl ?_
        exact ⟨_, rfl, hW⟩
      · iterate 5 (refine kst rfl rfl ?_)
        refine wif_ne rfl hW (fun hW => ?_) (fun hW => ?_)
        · refine kst rfl rfl ?_
          refine kre rfl rfl ?_
          exact ⟨_, rfl, hW⟩
        · iterate 2 (refine kst rfl rfl ?_)
          refine qcaI rfl rfl (R250 (d := d + 1) (h := h) hL hW) (fun v5 hW => ?_)
          refine wif_eq rfl hW (fun hW => ?_) (fun hW => ?_)
          · refine kst rfl rfl ?_
            refine kre rfl rfl ?_
            exact ⟨_, rfl, hW⟩
          · iterate 2 (refine kst rfl rfl ?_)
            refine qcaI rfl rfl (R250 (d := d + 1) (h := h) hL hW) (fun v6 hW => ?_)
            refine wif_ne rfl hW (fun hW => ?_) (fun hW => ?_)
            · iterate 14 (refine kst rfl rfl ?_)
              refine qcvI rfl (oK12 hL rfl) rfl rfl (R262 (d := d + 0) (h := h) hL hW) (fun v7 hW => ?_)
              refine wif_eq rfl hW (fun hW => ?_) (fun hW => ?_)
              · refine kst rfl rfl ?_
                refine kre rfl rfl ?_
                exact ⟨_, rfl, hW⟩
              · iterate 3 (refine kst rfl rfl ?_)
                refine qcvI rfl (oK12 hL rfl) rfl rfl (R256 (d := d + 0) (h := h) hL hW) (fun v8 hW => ?_)
                iterate 4 (refine kst rfl rfl ?_)
                refine kre rfl rfl ?_
                exact ⟨_, rfl, hW⟩
            · refine kst rfl rfl ?_
              refine kre rfl rfl ?_
              exact ⟨_, rfl, hW⟩
/-- 269: FourPotsModel ages -/
def F269_4 (a1 : Int32) (C : Int32 → TH → Prop) (X4 : Int32 × Int32 × TH → Prop) : Int32 × Int32 × TH → Prop := fun
  | (x2, x3, h) =>
    if (h.I 198 (ix 0)) ≤ x3 then (C x2 (h.sI 198 (ix 2) ((h.I 198 (ix 2)) &&& (x2 ^^^ (-1))))) else (W250 (h.I 198 (ix 2)) x3 h (fun v1 => if v1 = 0 then (X4 (x2, (x3 + 1), h)) else (W250 (h.I 198 (ix 3)) x3 h (fun v2 => if ¬ v2 = 0 then (X4 (x2, (x3 + 1), h)) else (W250 a1 x3 h (fun v3 => if v3 = 0 then (X4 (x2, (x3 + 1), h)) else (W251 x3 2 h (fun v4 => if ¬ v4 = 0 then (inb (112 + x3) 2200 ∧ inb (112 + x3) 2200 ∧ inb (112 + x3) 2200 ∧ if ¬ ((h.sI 198 (ix (112 + x3)) ((h.I 198 (ix (112 + x3))) - 1)).I 198 (ix (112 + x3))) = 0 then (X4 (x2, (x3 + 1), (h.sI 198 (ix (112 + x3)) ((h.I 198 (ix (112 + x3))) - 1)))) else (X4 ((x2 ||| (ishl 1 x3)), (x3 + 1), (h.sI 198 (ix (112 + x3)) ((h.I 198 (ix (112 + x3))) - 1))))) else (X4 (x2, (x3 + 1), h))))))))))
def B269_4 (a1 : Int32) (x2 : Int32) (x3 : Int32) (h : TH) (C : Int32 → TH → Prop) : Prop := LFP (F269_4 a1 C) (x2, x3, h)
def W269 (a1 : Int32) (h : TH) (C : Int32 → TH → Prop) : Prop :=
  B269_4 a1 0 0 h C

theorem R269_4 {d : Nat} {a1 : Int32} {x2 : Int32} {x3 : Int32} {h : TH} {C : Int32 → TH → Prop} (hL : Lay h) (hW : B269_4 a1 x2 x3 h C) : xEk (d + 1) 269 (4, [(0, .ref 197), (1, .int a1), (2, .int x2), (3, .int x3)], [], h.X) (postI C) := by
  refine hW (fun s => Lay (s.2.2) → xEk (d + 1) 269 (4, [(0, .ref 197), (1, .int a1), (2, .int (s.1)), (3, .int (s.2.1))], [], (TH.X (s.2.2))) (postI C)) ?_ hL
  rintro ⟨x2, x3, h⟩ hW hL
  have k4 : ∀ s : Int32 × Int32 × TH, (fun s => Lay (s.2.2) → xEk (d + 1) 269 (4, [(0, .ref 197), (1, .int a1), (2, .int (s.1)), (3, .int (s.2.1))], [], (TH.X (s.2.2))) (postI C)) s → Lay (s.2.2) → xEk (d + 1) 269 (4, [(0, .ref 197), (1, .int a1), (2, .int (s.1)), (3, .int (s.2.1))], [], (TH.X (s.2.2))) (postI C) := fun s hs => hs
  unfold F269_4 at hW
  dsimp only at hW
  iterate 2 (refine kst rfl rfl ?_)
  refine wgetP (b := 198) rfl (oK12 hL rfl) rfl (oP12_0 hL) ?_
  refine kst rfl rfl ?_
  refine wald rfl (Or.inl (aK12_0 hL)) (aN12_0 hL) (by decide) ⟨by decide, by decide⟩ ?_
  refine wcm_ge rfl hW (fun hW => ?_) (fun hW => ?_)
  · refine kst rfl rfl ?_
    refine wgetP (b := 198) rfl (oK12 hL rfl) rfl (oP12_0 hL) ?_
    iterate 2 (refine kst rfl rfl ?_)
    refine wald rfl (Or.inl (aK12_0 hL)) (aN12_0 hL) (by decide) ⟨by decide, by decide⟩ ?_
    iterate 4 (refine kst rfl rfl ?_)
    refine wast rfl (aK12_0 hL) (aN12_0 hL) (by decide) ⟨by decide, by decide⟩ ?_
    replace hL : Lay (h.sI 198 (ix 2) ((h.I 198 (ix 2)) &&& (x2 ^^^ (-1)))) := lsI hL
    refine kst rfl rfl ?_
    refine kre rfl rfl ?_
    exact ⟨_, _, rfl, hL, hW⟩
  · refine kst rfl rfl ?_
    refine wgetP (b := 198) rfl (oK12 hL rfl) rfl (oP12_0 hL) ?_
    refine kst rfl rfl ?_
    refine wald rfl (Or.inl (aK12_0 hL)) (aN12_0 hL) (by decide) ⟨by decide, by decide⟩ ?_
    refine kst rfl rfl ?_
    refine qcaI rfl rfl (R250 (d := d + 0) (h := h) hL hW) (fun v1 hW => ?_)
    refine wif_eq rfl hW (fun hW => ?_) (fun hW => ?_)
    · iterate 2 (refine kst rfl rfl ?_)
      have z9 := k4 (x2, (x3 + 1), h) hW hL
      refine wjp ?_ z9
      exact ⟨rfl, rfl, rfl, rfl, trivial⟩
    · refine kst rfl rfl ?_
      refine wgetP (b := 198) rfl (oK12 hL rfl) rfl (oP12_0 hL) ?_
      refine kst rfl rfl ?_
      refine wald rfl (Or.inl (aK12_0 hL)) (aN12_0 hL) (by decide) ⟨by decide, by decide⟩ ?_
      refine kst rfl rfl ?_
      refine qcaI rfl rfl (R250 (d := d + 0) (h := h) hL hW) (fun v2 hW => ?_)
      refine wif_ne rfl hW (fun hW => ?_) (fun hW => ?_)
      · iterate 2 (refine kst rfl rfl ?_)
        have z9 := k4 (x2, (x3 + 1), h) hW hL
        refine wjp ?_ z9
        exact ⟨rfl, rfl, rfl, rfl, trivial⟩
      · iterate 2 (refine kst rfl rfl ?_)
        refine qcaI rfl rfl (R250 (d := d + 0) (h := h) hL hW) (fun v3 hW => ?_)
        refine wif_eq rfl hW (fun hW => ?_) (fun hW => ?_)
        · iterate 2 (refine kst rfl rfl ?_)
          have z9 := k4 (x2, (x3 + 1), h) hW hL
          refine wjp ?_ z9
          exact ⟨rfl, rfl, rfl, rfl, trivial⟩
        · iterate 3 (refine kst rfl rfl ?_)
          refine qcvI rfl (oK12 hL rfl) rfl rfl (R251 (d := d + 0) (h := h) hL hW) (fun v4 hW => ?_)
          refine wif_ne rfl hW (fun hW => ?_) (fun hW => ?_)
          · refine kst rfl rfl ?_
            refine wgetP (b := 198) rfl (oK12 hL rfl) rfl (oP12_0 hL) ?_
            iterate 4 (refine kst rfl rfl ?_)
            obtain ⟨q1, hW⟩ := hW
            refine wald rfl (Or.inl (aK12_0 hL)) (aN12_0 hL) (by decide) q1 ?_
            iterate 2 (refine kst rfl rfl ?_)
            obtain ⟨q2, hW⟩ := hW
            refine wast rfl (aK12_0 hL) (aN12_0 hL) (by decide) q2 ?_
            replace hL : Lay (h.sI 198 (ix (112 + x3)) ((h.I 198 (ix (112 + x3))) - 1)) := lsI hL
            refine kst rfl rfl ?_
            refine wgetP (b := 198) rfl (oK12 hL rfl) rfl (oP12_0 hL) ?_
            iterate 3 (refine kst rfl rfl ?_)
            obtain ⟨q3, hW⟩ := hW
            refine wald rfl (Or.inl (aK12_0 hL)) (aN12_0 hL) (by decide) q3 ?_
            refine wif_ne rfl hW (fun hW => ?_) (fun hW => ?_)
            · iterate 2 (refine kst rfl rfl ?_)
              have z9 := k4 (x2, (x3 + 1), (h.sI 198 (ix (112 + x3)) ((h.I 198 (ix (112 + x3))) - 1))) hW hL
              refine wjp ?_ z9
              exact ⟨rfl, rfl, rfl, rfl, trivial⟩
            · iterate 8 (refine kst rfl rfl ?_)
              have z9 := k4 ((x2 ||| (ishl 1 x3)), (x3 + 1), (h.sI 198 (ix (112 + x3)) ((h.I 198 (ix (112 + x3))) - 1))) hW hL
              refine wjp ?_ z9
              exact ⟨rfl, rfl, rfl, rfl, trivial⟩
          · iterate 3 (refine kst rfl rfl ?_)
            have z9 := k4 (x2, (x3 + 1), h) hW hL
            refine wjp ?_ z9
            exact ⟨rfl, rfl, rfl, rfl, trivial⟩
theorem R269 {d : Nat} {a1 : Int32} {h : TH} {C : Int32 → TH → Prop} (hL : Lay h) (hW : W269 a1 h C) : xPk (d + 1) 269 [.ref 197, .int a1] h.X (postI C) := by
  unfold W269 at hW
  refine kin (Nat.le_of_ble_eq_true rfl) ?_
  iterate 4 (refine kst rfl rfl ?_)
  refine wjp ?_ (R269_4 (h := h) hL hW)
  exact ⟨rfl, rfl, rfl, rfl, trivial⟩
/-- 270: FourPotsModel stands -/
def F270_2 (a1 : Int32) (a2 : Int32) (C : TH → Prop) (X2 : Int32 × TH → Prop) : Int32 × TH → Prop := fun
  | (x3, h) =>
    if (h.I 198 (ix 0)) ≤ x3 then (C ((h.sI 198 (ix 2) a1).sI 198 (ix 3) (((h.sI 198 (ix 2) a1).I 198 (ix 3)) &&& a1))) else (W250 a2 x3 h (fun v1 => if v1 = 0 then (X2 ((x3 + 1), h)) else (W251 x3 2 h (fun v2 => inb (112 + x3) 2200 ∧ X2 ((x3 + 1), (h.sI 198 (ix (112 + x3)) v2))))))
def B270_2 (a1 : Int32) (a2 : Int32) (x3 : Int32) (h : TH) (C : TH → Prop) : Prop := LFP (F270_2 a1 a2 C) (x3, h)
def W270 (a1 : Int32) (a2 : Int32) (h : TH) (C : TH → Prop) : Prop :=
  B270_2 a1 a2 0 h C

theorem R270_2 {d : Nat} {a1 : Int32} {a2 : Int32} {x3 : Int32} {h : TH} {C : TH → Prop} (hL : Lay h) (hW : B270_2 a1 a2 x3 h C) : xEk (d + 1) 270 (2, [(0, .ref 197), (1, .int a1), (2, .int a2), (3, .int x3)], [], h.X) (postV C) := by
  refine hW (fun s => Lay (s.2) → xEk (d + 1) 270 (2, [(0, .ref 197), (1, .int a1), (2, .int a2), (3, .int (s.1))], [], (TH.X (s.2))) (postV C)) ?_ hL
  rintro ⟨x3, h⟩ hW hL
  have k2 : ∀ s : Int32 × TH, (fun s => Lay (s.2) → xEk (d + 1) 270 (2, [(0, .ref 197), (1, .int a1), (2, .int a2), (3, .int (s.1))], [], (TH.X (s.2))) (postV C)) s → Lay (s.2) → xEk (d + 1) 270 (2, [(0, .ref 197), (1, .int a1), (2, .int a2), (3, .int (s.1))], [], (TH.X (s.2))) (postV C) := fun s hs => hs
  unfold F270_2 at hW
  dsimp only at hW
  iterate 2 (refine kst rfl rfl ?_)
  refine wgetP (b := 198) rfl (oK12 hL rfl) rfl (oP12_0 hL) ?_
  refine kst rfl rfl ?_
  refine wald rfl (Or.inl (aK12_0 hL)) (aN12_0 hL) (by decide) ⟨by decide, by decide⟩ ?_
  refine wcm_ge rfl hW (fun hW => ?_) (fun hW => ?_)
  · refine kst rfl rfl ?_
    refine wgetP (b := 198) rfl (oK12 hL rfl) rfl (oP12_0 hL) ?_
    iterate 2 (refine kst rfl rfl ?_)
    refine wast rfl (aK12_0 hL) (aN12_0 hL) (by decide) ⟨by decide, by decide⟩ ?_
    replace hL : Lay (h.sI 198 (ix 2) a1) := lsI hL
    refine kst rfl rfl ?_
    refine wgetP (b := 198) rfl (oK12 hL rfl) rfl (oP12_0 hL) ?_
    iterate 2 (refine kst rfl rfl ?_)
    refine wald rfl (Or.inl (aK12_0 hL)) (aN12_0 hL) (by decide) ⟨by decide, by decide⟩ ?_
    iterate 2 (refine kst rfl rfl ?_)
    refine wast rfl (aK12_0 hL) (aN12_0 hL) (by decide) ⟨by decide, by decide⟩ ?_
    replace hL : Lay ((h.sI 198 (ix 2) a1).sI 198 (ix 3) (((h.sI 198 (ix 2) a1).I 198 (ix 3)) &&& a1)) := lsI hL
    refine kre rfl rfl ?_
    exact ⟨_, rfl, hL, hW⟩
  · iterate 2 (refine kst rfl rfl ?_)
    refine qcaI rfl rfl (R250 (d := d + 0) (h := h) hL hW) (fun v1 hW => ?_)
    refine wif_eq rfl hW (fun hW => ?_) (fun hW => ?_)
    · iterate 2 (refine kst rfl rfl ?_)
      have z9 := k2 ((x3 + 1), h) hW hL
      refine wjp ?_ z9
      exact ⟨rfl, rfl, rfl, rfl, trivial⟩
    · refine kst rfl rfl ?_
      refine wgetP (b := 198) rfl (oK12 hL rfl) rfl (oP12_0 hL) ?_
      iterate 6 (refine kst rfl rfl ?_)
      refine qcvI rfl (oK12 hL rfl) rfl rfl (R251 (d := d + 0) (h := h) hL hW) (fun v2 hW => ?_)
      obtain ⟨q1, hW⟩ := hW
      refine wast rfl (aK12_0 hL) (aN12_0 hL) (by decide) q1 ?_
      replace hL : Lay (h.sI 198 (ix (112 + x3)) v2) := lsI hL
      iterate 2 (refine kst rfl rfl ?_)
      have z9 := k2 ((x3 + 1), (h.sI 198 (ix (112 + x3)) v2)) hW hL
      refine wjp ?_ z9
      exact ⟨rfl, rfl, rfl, rfl, trivial⟩
theorem R270 {d : Nat} {a1 : Int32} {a2 : Int32} {h : TH} {C : TH → Prop} (hL : Lay h) (hW : W270 a1 a2 h C) : xPk (d + 1) 270 [.ref 197, .int a1, .int a2] h.X (postV C) := by
  unfold W270 at hW
  refine kin (Nat.le_of_ble_eq_true rfl) ?_
  iterate 2 (refine kst rfl rfl ?_)
  refine wjp ?_ (R270_2 (h := h) hL hW)
  exact ⟨rfl, rfl, rfl, rfl, trivial⟩
/-- 271: FourPotsModel doneBy -/
def W271 (a1 : Int32) (a2 : Int32) (h : TH) (C : Int32 → TH → Prop) : Prop :=
  ∀ h1, h1 = ((h.sI 198 (ix 4) ((h.I 198 (ix 4)) + a1)).sI 198 (ix 5) (((h.sI 198 (ix 4) ((h.I 198 (ix 4)) + a1)).I 198 (ix 5)) + 1)) → W269 a2 h1 (fun v2 h3 => W206 (h3.I 198 (ix 2)) h3 (fun v4 h5 => C v4 h5))

theorem R271 {d : Nat} {a1 : Int32} {a2 : Int32} {h : TH} {C : Int32 → TH → Prop} (hL : Lay h) (hW : W271 a1 a2 h C) : xPk (d + 2) 271 [.ref 197, .int a1, .int a2] h.X (postI C) := by
  unfold W271 at hW
  refine kin (Nat.le_of_ble_eq_true rfl) ?_
  refine kst rfl rfl ?_
  refine wgetP (b := 198) rfl (oK12 hL rfl) rfl (oP12_0 hL) ?_
  iterate 2 (refine kst rfl rfl ?_)
  refine wald rfl (Or.inl (aK12_0 hL)) (aN12_0 hL) (by decide) ⟨by decide, by decide⟩ ?_
  iterate 2 (refine kst rfl rfl ?_)
  refine wast rfl (aK12_0 hL) (aN12_0 hL) (by decide) ⟨by decide, by decide⟩ ?_
  replace hL : Lay (h.sI 198 (ix 4) ((h.I 198 (ix 4)) + a1)) := lsI hL
  refine kst rfl rfl ?_
  refine wgetP (b := 198) rfl (oK12 hL rfl) rfl (oP12_0 hL) ?_
  iterate 2 (refine kst rfl rfl ?_)
  refine wald rfl (Or.inl (aK12_0 hL)) (aN12_0 hL) (by decide) ⟨by decide, by decide⟩ ?_
  iterate 2 (refine kst rfl rfl ?_)
  refine wast rfl (aK12_0 hL) (aN12_0 hL) (by decide) ⟨by decide, by decide⟩ ?_
  replace hL : Lay ((h.sI 198 (ix 4) ((h.I 198 (ix 4)) + a1)).sI 198 (ix 5) (((h.sI 198 (ix 4) ((h.I 198 (ix 4)) + a1)).I 198 (ix 5)) + 1)) := lsI hL
  iterate 2 (refine kst rfl rfl ?_)
  refine whb (h := ((h.sI 198 (ix 4) ((h.I 198 (ix 4)) + a1)).sI 198 (ix 5) (((h.sI 198 (ix 4) ((h.I 198 (ix 4)) + a1)).I 198 (ix 5)) + 1))) (fun h1 eh1 => ?_)
  replace hW := hW h1 eh1
  replace hL : Lay h1 := by rw [eh1]; exact hL
  clear eh1
  refine wcvI rfl (oK12 hL rfl) rfl rfl (R269 (d := d + 0) (h := h1) hL hW) (fun v2 h3 hL hW => ?_)
  iterate 3 (refine kst rfl rfl ?_)
  refine wgetP (b := 198) rfl (oK12 hL rfl) rfl (oP12_0 hL) ?_
  refine kst rfl rfl ?_
  refine wald rfl (Or.inl (aK12_0 hL)) (aN12_0 hL) (by decide) ⟨by decide, by decide⟩ ?_
  refine wcvI rfl (oK12 hL rfl) rfl rfl (R206 (d := d + 1) (h := h3) hL hW) (fun v4 h5 hL hW => ?_)
  refine kre rfl rfl ?_
  exact ⟨_, _, rfl, hL, hW⟩
/-- 272: FourPotsModel makesNow -/
def W272 (a1 : Int32) (h : TH) (C : Int32 → TH → Prop) : Prop :=
  W261 0 (-1) h (fun h1 => W267 (h1.I 198 (ix 2)) a1 h1 (fun v2 => if ¬ v2 = (-1) then (W253 a1 h1 (fun v3 => W270 v2 v3 h1 (fun h4 => C 1 h4))) else (C 0 h1)))

theorem R272 {d : Nat} {a1 : Int32} {h : TH} {C : Int32 → TH → Prop} (hL : Lay h) (hW : W272 a1 h C) : xPk (d + 4) 272 [.ref 197, .int a1] h.X (postI C) := by
  unfold W272 at hW
  refine kin (Nat.le_of_ble_eq_true rfl) ?_
  iterate 3 (refine kst rfl rfl ?_)
  refine wcvV rfl (oK12 hL rfl) rfl rfl (R261 (d := d + 3) (h := h) hL hW) (fun h1 hL hW => ?_)
  iterate 2 (refine kst rfl rfl ?_)
  refine wgetP (b := 198) rfl (oK12 hL rfl) rfl (oP12_0 hL) ?_
  refine kst rfl rfl ?_
  refine wald rfl (Or.inl (aK12_0 hL)) (aN12_0 hL) (by decide) ⟨by decide, by decide⟩ ?_
  refine kst rfl rfl ?_
  refine qcvI rfl (oK12 hL rfl) rfl rfl (R267 (d := d + 0) (h := h1) hL hW) (fun v2 hW => ?_)
  iterate 3 (refine kst rfl rfl ?_)
  refine wcm_ne rfl hW (fun hW => ?_) (fun hW => ?_)
  · iterate 4 (refine kst rfl rfl ?_)
    refine qcvI rfl (oK12 hL rfl) rfl rfl (R253 (d := d + 1) (h := h1) hL hW) (fun v3 hW => ?_)
    refine wcvV rfl (oK12 hL rfl) rfl rfl (R270 (d := d + 2) (h := h1) hL hW) (fun h4 hL hW => ?_)
    refine kst rfl rfl ?_
    refine kre rfl rfl ?_
    exact ⟨_, _, rfl, hL, hW⟩
  · refine kst rfl rfl ?_
    refine kre rfl rfl ?_
    exact ⟨_, _, rfl, hL, hW⟩
/-- 273: FourPotsModel poursNow -/
def W273 (a1 : Int32) (a2 : Int32) (h : TH) (C : Int32 → TH → Prop) : Prop :=
  W261 0 (-1) h (fun h1 => W268 (h1.I 198 (ix 2)) ((h1.I 198 (ix 2)) &&& ((h1.I 198 (ix 3)) ^^^ (-1))) a1 a2 h1 (fun v2 => if ¬ v2 = (-1) then (W270 v2 (ishl 1 a1) h1 (fun h3 => C 1 h3)) else (C 0 h1)))

theorem R273 {d : Nat} {a1 : Int32} {a2 : Int32} {h : TH} {C : Int32 → TH → Prop} (hL : Lay h) (hW : W273 a1 a2 h C) : xPk (d + 3) 273 [.ref 197, .int a1, .int a2] h.X (postI C) := by
  unfold W273 at hW
  refine kin (Nat.le_of_ble_eq_true rfl) ?_
  iterate 3 (refine kst rfl rfl ?_)
  refine wcvV rfl (oK12 hL rfl) rfl rfl (R261 (d := d + 2) (h := h) hL hW) (fun h1 hL hW => ?_)
  iterate 2 (refine kst rfl rfl ?_)
  refine wgetP (b := 198) rfl (oK12 hL rfl) rfl (oP12_0 hL) ?_
  refine kst rfl rfl ?_
  refine wald rfl (Or.inl (aK12_0 hL)) (aN12_0 hL) (by decide) ⟨by decide, by decide⟩ ?_
  refine kst rfl rfl ?_
  refine wgetP (b := 198) rfl (oK12 hL rfl) rfl (oP12_0 hL) ?_
  refine kst rfl rfl ?_
  refine wald rfl (Or.inl (aK12_0 hL)) (aN12_0 hL) (by decide) ⟨by decide, by decide⟩ ?_
  refine kst rfl rfl ?_
  refine wgetP (b := 198) rfl (oK12 hL rfl) rfl (oP12_0 hL) ?_
  refine kst rfl rfl ?_
  refine wald rfl (Or.inl (aK12_0 hL)) (aN12_0 hL) (by decide) ⟨by decide, by decide⟩ ?_
  iterate 5 (refine kst rfl rfl ?_)
  refine qcvI rfl (oK12 hL rfl) rfl rfl (R268 (d := d + 0) (h := h1) hL hW) (fun v2 hW => ?_)
  iterate 3 (refine kst rfl rfl ?_)
  refine wcm_ne rfl hW (fun hW => ?_) (fun hW => ?_)
  · iterate 5 (refine kst rfl rfl ?_)
    refine wcvV rfl (oK12 hL rfl) rfl rfl (R270 (d := d + 1) (h := h1) hL hW) (fun h3 hL hW => ?_)
    refine kst rfl rfl ?_
    refine kre rfl rfl ?_
    exact ⟨_, _, rfl, hL, hW⟩
  · refine kst rfl rfl ?_
    refine kre rfl rfl ?_
    exact ⟨_, _, rfl, hL, hW⟩
/-- 274: FourPotsModel washesNow -/
def W274 (a1 : Int32) (h : TH) (C : Int32 → TH → Prop) : Prop :=
  W250 ((h.I 198 (ix 2)) &&& ((h.I 198 (ix 3)) ^^^ (-1))) a1 h (fun v1 => if ¬ v1 = 0 then (C 1 (h.sI 198 (ix 2) ((h.I 198 (ix 2)) &&& ((ishl 1 a1) ^^^ (-1))))) else (C 0 h))

theorem R274 {d : Nat} {a1 : Int32} {h : TH} {C : Int32 → TH → Prop} (hL : Lay h) (hW : W274 a1 h C) : xPk (d + 1) 274 [.ref 197, .int a1] h.X (postI C) := by
  unfold W274 at hW
  refine kin (Nat.le_of_ble_eq_true rfl) ?_
  refine kst rfl rfl ?_
  refine wgetP (b := 198) rfl (oK12 hL rfl) rfl (oP12_0 hL) ?_
  refine kst rfl rfl ?_
  refine wald rfl (Or.inl (aK12_0 hL)) (aN12_0 hL) (by decide) ⟨by decide, by decide⟩ ?_
  refine kst rfl rfl ?_
  refine wgetP (b := 198) rfl (oK12 hL rfl) rfl (oP12_0 hL) ?_
  refine kst rfl rfl ?_
  refine wald rfl (Or.inl (aK12_0 hL)) (aN12_0 hL) (by decide) ⟨by decide, by decide⟩ ?_
  iterate 4 (refine kst rfl rfl ?_)
  refine qcaI rfl rfl (R250 (d := d + 0) (h := h) hL hW) (fun v1 hW => ?_)
  refine wif_ne rfl hW (fun hW => ?_) (fun hW => ?_)
  · refine kst rfl rfl ?_
    refine wgetP (b := 198) rfl (oK12 hL rfl) rfl (oP12_0 hL) ?_
    iterate 2 (refine kst rfl rfl ?_)
    refine wald rfl (Or.inl (aK12_0 hL)) (aN12_0 hL) (by decide) ⟨by decide, by decide⟩ ?_
    iterate 6 (refine kst rfl rfl ?_)
    refine wast rfl (aK12_0 hL) (aN12_0 hL) (by decide) ⟨by decide, by decide⟩ ?_
    replace hL : Lay (h.sI 198 (ix 2) ((h.I 198 (ix 2)) &&& ((ishl 1 a1) ^^^ (-1)))) := lsI hL
    refine kst rfl rfl ?_
    refine kre rfl rfl ?_
    exact ⟨_, _, rfl, hL, hW⟩
  · refine kst rfl rfl ?_
    refine kre rfl rfl ?_
    exact ⟨_, _, rfl, hL, hW⟩
/-- 275: FourPotsModel trustsNow -/
def W275 (a1 : Int32) (h : TH) (C : Int32 → TH → Prop) : Prop :=
  W261 0 (-1) h (fun h1 => W250 (h1.I 198 (ix 2)) a1 h1 (fun v2 => if ¬ v2 = 0 then (C 0 h1) else (W262 ((h1.I 198 (ix 2)) ||| (ishl 1 a1)) h1 (fun v3 => if ¬ v3 = 0 then (C 1 ((h1.sI 198 (ix 2) ((h1.I 198 (ix 2)) ||| (ishl 1 a1))).sI 198 (ix 3) (((h1.sI 198 (ix 2) ((h1.I 198 (ix 2)) ||| (ishl 1 a1))).I 198 (ix 3)) ||| (ishl 1 a1)))) else (C 0 h1)))))

theorem R275 {d : Nat} {a1 : Int32} {h : TH} {C : Int32 → TH → Prop} (hL : Lay h) (hW : W275 a1 h C) : xPk (d + 2) 275 [.ref 197, .int a1] h.X (postI C) := by
  unfold W275 at hW
  refine kin (Nat.le_of_ble_eq_true rfl) ?_
  iterate 3 (refine kst rfl rfl ?_)
  refine wcvV rfl (oK12 hL rfl) rfl rfl (R261 (d := d + 1) (h := h) hL hW) (fun h1 hL hW => ?_)
  refine kst rfl rfl ?_
  refine wgetP (b := 198) rfl (oK12 hL rfl) rfl (oP12_0 hL) ?_
  refine kst rfl rfl ?_
  refine wald rfl (Or.inl (aK12_0 hL)) (aN12_0 hL) (by decide) ⟨by decide, by decide⟩ ?_
  refine kst rfl rfl ?_
  refine qcaI rfl rfl (R250 (d := d + 1) (h := h1) hL hW) (fun v2 hW => ?_)
  refine wif_ne rfl hW (fun hW => ?_) (fun hW => ?_)
  · refine kst rfl rfl ?_
    refine kre rfl rfl ?_
    exact ⟨_, _, rfl, hL, hW⟩
  · iterate 2 (refine kst rfl rfl ?_)
    refine wgetP (b := 198) rfl (oK12 hL rfl) rfl (oP12_0 hL) ?_
    refine kst rfl rfl ?_
    refine wald rfl (Or.inl (aK12_0 hL)) (aN12_0 hL) (by decide) ⟨by decide, by decide⟩ ?_
    iterate 4 (refine kst rfl rfl ?_)
    refine qcvI rfl (oK12 hL rfl) rfl rfl (R262 (d := d + 0) (h := h1) hL hW) (fun v3 hW => ?_)
    refine wif_ne rfl hW (fun hW => ?_) (fun hW => ?_)
    · refine kst rfl rfl ?_
      refine wgetP (b := 198) rfl (oK12 hL rfl) rfl (oP12_0 hL) ?_
      iterate 2 (refine kst rfl rfl ?_)
      refine wald rfl (Or.inl (aK12_0 hL)) (aN12_0 hL) (by decide) ⟨by decide, by decide⟩ ?_
      iterate 4 (refine kst rfl rfl ?_)
      refine wast rfl (aK12_0 hL) (aN12_0 hL) (by decide) ⟨by decide, by decide⟩ ?_
      replace hL : Lay (h1.sI 198 (ix 2) ((h1.I 198 (ix 2)) ||| (ishl 1 a1))) := lsI hL
      refine kst rfl rfl ?_
      refine wgetP (b := 198) rfl (oK12 hL rfl) rfl (oP12_0 hL) ?_
      iterate 2 (refine kst rfl rfl ?_)
      refine wald rfl (Or.inl (aK12_0 hL)) (aN12_0 hL) (by decide) ⟨by decide, by decide⟩ ?_
      iterate 4 (refine kst rfl rfl ?_)
      refine wast rfl (aK12_0 hL) (aN12_0 hL) (by decide) ⟨by decide, by decide⟩ ?_
      replace hL : Lay ((h1.sI 198 (ix 2) ((h1.I 198 (ix 2)) ||| (ishl 1 a1))).sI 198 (ix 3) (((h1.sI 198 (ix 2) ((h1.I 198 (ix 2)) ||| (ishl 1 a1))).I 198 (ix 3)) ||| (ishl 1 a1))) := lsI hL
      refine kst rfl rfl ?_
      refine kre rfl rfl ?_
      exact ⟨_, _, rfl, hL, hW⟩
    · refine kst rfl rfl ?_
      refine kre rfl rfl ?_
      exact ⟨_, _, rfl, hL, hW⟩
/-- 276: FourPotsModel showsNow -/
def W276 (a1 : Int32) (h : TH) (C : Int32 → TH → Prop) : Prop :=
  W250 (h.I 198 (ix 3)) a1 h (fun v1 => if v1 = 0 then (C 0 h) else (W251 a1 4 h (fun v2 => if (v2 &&& ((h.I 198 (ix 2)) ^^^ (-1))) = 0 then (C 1 ((h.sI 198 (ix 2) ((h.I 198 (ix 2)) &&& ((ishl 1 a1) ^^^ (-1)))).sI 198 (ix 3) (((h.sI 198 (ix 2) ((h.I 198 (ix 2)) &&& ((ishl 1 a1) ^^^ (-1)))).I 198 (ix 3)) &&& ((ishl 1 a1) ^^^ (-1))))) else (C 0 h))))

theorem R276 {d : Nat} {a1 : Int32} {h : TH} {C : Int32 → TH → Prop} (hL : Lay h) (hW : W276 a1 h C) : xPk (d + 1) 276 [.ref 197, .int a1] h.X (postI C) := by
  unfold W276 at hW
  refine kin (Nat.le_of_ble_eq_true rfl) ?_
  refine kst rfl rfl ?_
  refine wgetP (b := 198) rfl (oK12 hL rfl) rfl (oP12_0 hL) ?_
  refine kst rfl rfl ?_
  refine wald rfl (Or.inl (aK12_0 hL)) (aN12_0 hL) (by decide) ⟨by decide, by decide⟩ ?_
  refine kst rfl rfl ?_
  refine qcaI rfl rfl (R250 (d := d + 0) (h := h) hL hW) (fun v1 hW => ?_)
  refine wif_eq rfl hW (fun hW => ?_) (fun hW => ?_)
  · refine kst rfl rfl ?_
    refine kre rfl rfl ?_
    exact ⟨_, _, rfl, hL, hW⟩
  · iterate 3 (refine kst rfl rfl ?_)
    refine qcvI rfl (oK12 hL rfl) rfl rfl (R251 (d := d + 0) (h := h) hL hW) (fun v2 hW => ?_)
    refine kst rfl rfl ?_
    refine wgetP (b := 198) rfl (oK12 hL rfl) rfl (oP12_0 hL) ?_
    refine kst rfl rfl ?_
    refine wald rfl (Or.inl (aK12_0 hL)) (aN12_0 hL) (by decide) ⟨by decide, by decide⟩ ?_
    iterate 3 (refine kst rfl rfl ?_)
    refine wif_eq rfl hW (fun hW => ?_) (fun hW => ?_)
    · refine kst rfl rfl ?_
      refine wgetP (b := 198) rfl (oK12 hL rfl) rfl (oP12_0 hL) ?_
      iterate 2 (refine kst rfl rfl ?_)
      refine wald rfl (Or.inl (aK12_0 hL)) (aN12_0 hL) (by decide) ⟨by decide, by decide⟩ ?_
      iterate 6 (refine kst rfl rfl ?_)
      refine wast rfl (aK12_0 hL) (aN12_0 hL) (by decide) ⟨by decide, by decide⟩ ?_
      replace hL : Lay (h.sI 198 (ix 2) ((h.I 198 (ix 2)) &&& ((ishl 1 a1) ^^^ (-1)))) := lsI hL
      refine kst rfl rfl ?_
      refine wgetP (b := 198) rfl (oK12 hL rfl) rfl (oP12_0 hL) ?_
      iterate 2 (refine kst rfl rfl ?_)
      refine wald rfl (Or.inl (aK12_0 hL)) (aN12_0 hL) (by decide) ⟨by decide, by decide⟩ ?_
      iterate 6 (refine kst rfl rfl ?_)
      refine wast rfl (aK12_0 hL) (aN12_0 hL) (by decide) ⟨by decide, by decide⟩ ?_
      replace hL : Lay ((h.sI 198 (ix 2) ((h.I 198 (ix 2)) &&& ((ishl 1 a1) ^^^ (-1)))).sI 198 (ix 3) (((h.sI 198 (ix 2) ((h.I 198 (ix 2)) &&& ((ishl 1 a1) ^^^ (-1)))).I 198 (ix 3)) &&& ((ishl 1 a1) ^^^ (-1)))) := lsI hL
      refine kst rfl rfl ?_
      refine kre rfl rfl ?_
      exact ⟨_, _, rfl, hL, hW⟩
    · refine kst rfl rfl ?_
      refine kre rfl rfl ?_
      exact ⟨_, _, rfl, hL, hW⟩
/-- 277: FourPotsModel make -/
def W277 (a1 : Int32) (h : TH) (C : Int32 → TH → Prop) : Prop :=
  W247 a1 h (fun v1 => if ¬ v1 = 0 then (W272 a1 h (fun v2 h3 => if v2 = 0 then (W205 7 h3 (fun v4 h5 => C v4 h5)) else (W255 a1 h3 (fun v6 => W271 v6 (h.I 198 (ix 2)) h3 (fun v7 h8 => C v7 h8))))) else (W205 1 h (fun v9 h10 => C v9 h10)))

theorem R277 {d : Nat} {a1 : Int32} {h : TH} {C : Int32 → TH → Prop} (hL : Lay h) (hW : W277 a1 h C) : xPk (d + 5) 277 [.ref 197, .int a1] h.X (postI C) := by
  unfold W277 at hW
  refine kin (Nat.le_of_ble_eq_true rfl) ?_
  iterate 2 (refine kst rfl rfl ?_)
  refine qcvI rfl (oK12 hL rfl) rfl rfl (R247 (d := d + 4) (h := h) hL hW) (fun v1 hW => ?_)
  refine wif_ne rfl hW (fun hW => ?_) (fun hW => ?_)
  · refine kst rfl rfl ?_
    refine wgetP (b := 198) rfl (oK12 hL rfl) rfl (oP12_0 hL) ?_
    refine kst rfl rfl ?_
    refine wald rfl (Or.inl (aK12_0 hL)) (aN12_0 hL) (by decide) ⟨by decide, by decide⟩ ?_
    iterate 3 (refine kst rfl rfl ?_)
    refine wcvI rfl (oK12 hL rfl) rfl rfl (R272 (d := d + 0) (h := h) hL hW) (fun v2 h3 hL hW => ?_)
    refine wif_eq rfl hW (fun hW => ?_) (fun hW => ?_)
    · iterate 2 (refine kst rfl rfl ?_)
      refine wcvI rfl (oK12 hL rfl) rfl rfl (R205 (d := d + 4) (h := h3) hL hW) (fun v4 h5 hL hW => ?_)
      refine kre rfl rfl ?_
      exact ⟨_, _, rfl, hL, hW⟩
    · iterate 3 (refine kst rfl rfl ?_)
      refine qcvI rfl (oK12 hL rfl) rfl rfl (R255 (d := d + 2) (h := h3) hL hW) (fun v6 hW => ?_)
      refine kst rfl rfl ?_
      refine wcvI rfl (oK12 hL rfl) rfl rfl (R271 (d := d + 2) (h := h3) hL hW) (fun v7 h8 hL hW => ?_)
      refine kst rfl rfl ?_
      refine kre rfl rfl ?_
      exact ⟨_, _, rfl, hL, hW⟩
  · iterate 2 (refine kst rfl rfl ?_)
    refine wcvI rfl (oK12 hL rfl) rfl rfl (R205 (d := d + 4) (h := h) hL hW) (fun v9 h10 hL hW => ?_)
    refine kre rfl rfl ?_
    exact ⟨_, _, rfl, hL, hW⟩
/-- 278: FourPotsModel pourOver -/
def W278 (a1 : Int32) (a2 : Int32) (h : TH) (C : Int32 → TH → Prop) : Prop :=
  W247 a1 h (fun v1 => if v1 = 0 then (W205 1 h (fun v2 h3 => C v2 h3)) else (W247 a2 h (fun v4 => if ¬ v4 = 0 then (W273 a1 a2 h (fun v5 h6 => if v5 = 0 then (W205 7 h6 (fun v7 h8 => C v7 h8)) else (W251 a1 0 h6 (fun v9 => W271 v9 (h.I 198 (ix 2)) h6 (fun v10 h11 => C v10 h11))))) else (W205 1 h (fun v12 h13 => C v12 h13)))))

theorem R278 {d : Nat} {a1 : Int32} {a2 : Int32} {h : TH} {C : Int32 → TH → Prop} (hL : Lay h) (hW : W278 a1 a2 h C) : xPk (d + 4) 278 [.ref 197, .int a1, .int a2] h.X (postI C) := by
  unfold W278 at hW
  refine kin (Nat.le_of_ble_eq_true rfl) ?_
  iterate 2 (refine kst rfl rfl ?_)
  refine qcvI rfl (oK12 hL rfl) rfl rfl (R247 (d := d + 3) (h := h) hL hW) (fun v1 hW => ?_)
  refine wif_eq rfl hW (fun hW => ?_) (fun hW => ?_)
  · iterate 2 (refine kst rfl rfl ?_)
    refine wcvI rfl (oK12 hL rfl) rfl rfl (R205 (d := d + 3) (h := h) hL hW) (fun v2 h3 hL hW => ?_)
    refine kre rfl rfl ?_
    exact ⟨_, _, rfl, hL, hW⟩
  · iterate 2 (refine kst rfl rfl ?_)
    refine qcvI rfl (oK12 hL rfl) rfl rfl (R247 (d := d + 3) (h := h) hL hW) (fun v4 hW => ?_)
    refine wif_ne rfl hW (fun hW => ?_) (fun hW => ?_)
    · refine kst rfl rfl ?_
      refine wgetP (b := 198) rfl (oK12 hL rfl) rfl (oP12_0 hL) ?_
      refine kst rfl rfl ?_
      refine wald rfl (Or.inl (aK12_0 hL)) (aN12_0 hL) (by decide) ⟨by decide, by decide⟩ ?_
      iterate 4 (refine kst rfl rfl ?_)
      refine wcvI rfl (oK12 hL rfl) rfl rfl (R273 (d := d + 0) (h := h) hL hW) (fun v5 h6 hL hW => ?_)
      refine wif_eq rfl hW (fun hW => ?_) (fun hW => ?_)
      · iterate 2 (refine kst rfl rfl ?_)
        refine wcvI rfl (oK12 hL rfl) rfl rfl (R205 (d := d + 3) (h := h6) hL hW) (fun v7 h8 hL hW => ?_)
        refine kre rfl rfl ?_
        exact ⟨_, _, rfl, hL, hW⟩
      · iterate 4 (refine kst rfl rfl ?_)
        refine qcvI rfl (oK12 hL rfl) rfl rfl (R251 (d := d + 3) (h := h6) hL hW) (fun v9 hW => ?_)
        refine kst rfl rfl ?_
        refine wcvI rfl (oK12 hL rfl) rfl rfl (R271 (d := d + 1) (h := h6) hL hW) (fun v10 h11 hL hW => ?_)
        refine kst rfl rfl ?_
        refine kre rfl rfl ?_
        exact ⟨_, _, rfl, hL, hW⟩
    · iterate 2 (refine kst rfl rfl ?_)
      refine wcvI rfl (oK12 hL rfl) rfl rfl (R205 (d := d + 3) (h := h) hL hW) (fun v12 h13 hL hW => ?_)
      refine kre rfl rfl ?_
      exact ⟨_, _, rfl, hL, hW⟩
/-- 279: FourPotsModel wash -/
def W279 (a1 : Int32) (h : TH) (C : Int32 → TH → Prop) : Prop :=
  W247 a1 h (fun v1 => if ¬ v1 = 0 then (W274 a1 h (fun v2 h3 => if v2 = 0 then (W205 7 h3 (fun v4 h5 => C v4 h5)) else (W271 0 (h.I 198 (ix 2)) h3 (fun v6 h7 => C v6 h7)))) else (W205 1 h (fun v8 h9 => C v8 h9)))

theorem R279 {d : Nat} {a1 : Int32} {h : TH} {C : Int32 → TH → Prop} (hL : Lay h) (hW : W279 a1 h C) : xPk (d + 3) 279 [.ref 197, .int a1] h.X (postI C) := by
  unfold W279 at hW
  refine kin (Nat.le_of_ble_eq_true rfl) ?_
  iterate 2 (refine kst rfl rfl ?_)
  refine qcvI rfl (oK12 hL rfl) rfl rfl (R247 (d := d + 2) (h := h) hL hW) (fun v1 hW => ?_)
  refine wif_ne rfl hW (fun hW => ?_) (fun hW => ?_)
  · refine kst rfl rfl ?_
    refine wgetP (b := 198) rfl (oK12 hL rfl) rfl (oP12_0 hL) ?_
    refine kst rfl rfl ?_
    refine wald rfl (Or.inl (aK12_0 hL)) (aN12_0 hL) (by decide) ⟨by decide, by decide⟩ ?_
    iterate 3 (refine kst rfl rfl ?_)
    refine wcvI rfl (oK12 hL rfl) rfl rfl (R274 (d := d + 1) (h := h) hL hW) (fun v2 h3 hL hW => ?_)
    refine wif_eq rfl hW (fun hW => ?_) (fun hW => ?_)
    · iterate 2 (refine kst rfl rfl ?_)
      refine wcvI rfl (oK12 hL rfl) rfl rfl (R205 (d := d + 2) (h := h3) hL hW) (fun v4 h5 hL hW => ?_)
      refine kre rfl rfl ?_
      exact ⟨_, _, rfl, hL, hW⟩
    · iterate 3 (refine kst rfl rfl ?_)
      refine wcvI rfl (oK12 hL rfl) rfl rfl (R271 (d := d + 0) (h := h3) hL hW) (fun v6 h7 hL hW => ?_)
      refine kst rfl rfl ?_
      refine kre rfl rfl ?_
      exact ⟨_, _, rfl, hL, hW⟩
  · iterate 2 (refine kst rfl rfl ?_)
    refine wcvI rfl (oK12 hL rfl) rfl rfl (R205 (d := d + 2) (h := h) hL hW) (fun v8 h9 hL hW => ?_)
    refine kre rfl rfl ?_
    exact ⟨_, _, rfl, hL, hW⟩
/-- 280: FourPotsModel trust -/
def W280 (a1 : Int32) (h : TH) (C : Int32 → TH → Prop) : Prop :=
  W247 a1 h (fun v1 => if ¬ v1 = 0 then (W275 a1 h (fun v2 h3 => if v2 = 0 then (W205 7 h3 (fun v4 h5 => C v4 h5)) else (W271 0 (h.I 198 (ix 2)) h3 (fun v6 h7 => C v6 h7)))) else (W205 1 h (fun v8 h9 => C v8 h9)))

theorem R280 {d : Nat} {a1 : Int32} {h : TH} {C : Int32 → TH → Prop} (hL : Lay h) (hW : W280 a1 h C) : xPk (d + 3) 280 [.ref 197, .int a1] h.X (postI C) := by
  unfold W280 at hW
  refine kin (Nat.le_of_ble_eq_true rfl) ?_
  iterate 2 (refine kst rfl rfl ?_)
  refine qcvI rfl (oK12 hL rfl) rfl rfl (R247 (d := d + 2) (h := h) hL hW) (fun v1 hW => ?_)
  refine wif_ne rfl hW (fun hW => ?_) (fun hW => ?_)
  · refine kst rfl rfl ?_
    refine wgetP (b := 198) rfl (oK12 hL rfl) rfl (oP12_0 hL) ?_
    refine kst rfl rfl ?_
    refine wald rfl (Or.inl (aK12_0 hL)) (aN12_0 hL) (by decide) ⟨by decide, by decide⟩ ?_
    iterate 3 (refine kst rfl rfl ?_)
    refine wcvI rfl (oK12 hL rfl) rfl rfl (R275 (d := d + 0) (h := h) hL hW) (fun v2 h3 hL hW => ?_)
    refine wif_eq rfl hW (fun hW => ?_) (fun hW => ?_)
    · iterate 2 (refine kst rfl rfl ?_)
      refine wcvI rfl (oK12 hL rfl) rfl rfl (R205 (d := d + 2) (h := h3) hL hW) (fun v4 h5 hL hW => ?_)
      refine kre rfl rfl ?_
      exact ⟨_, _, rfl, hL, hW⟩
    · iterate 3 (refine kst rfl rfl ?_)
      refine wcvI rfl (oK12 hL rfl) rfl rfl (R271 (d := d + 0) (h := h3) hL hW) (fun v6 h7 hL hW => ?_)
      refine kst rfl rfl ?_
      refine kre rfl rfl ?_
      exact ⟨_, _, rfl, hL, hW⟩
  · iterate 2 (refine kst rfl rfl ?_)
    refine wcvI rfl (oK12 hL rfl) rfl rfl (R205 (d := d + 2) (h := h) hL hW) (fun v8 h9 hL hW => ?_)
    refine kre rfl rfl ?_
    exact ⟨_, _, rfl, hL, hW⟩
/-- 281: FourPotsModel show -/
def W281 (a1 : Int32) (h : TH) (C : Int32 → TH → Prop) : Prop :=
  W247 a1 h (fun v1 => if ¬ v1 = 0 then (W276 a1 h (fun v2 h3 => if v2 = 0 then (W205 7 h3 (fun v4 h5 => C v4 h5)) else (W271 0 (h.I 198 (ix 2)) h3 (fun v6 h7 => C v6 h7)))) else (W205 1 h (fun v8 h9 => C v8 h9)))

theorem R281 {d : Nat} {a1 : Int32} {h : TH} {C : Int32 → TH → Prop} (hL : Lay h) (hW : W281 a1 h C) : xPk (d + 3) 281 [.ref 197, .int a1] h.X (postI C) := by
  unfold W281 at hW
  refine kin (Nat.le_of_ble_eq_true rfl) ?_
  iterate 2 (refine kst rfl rfl ?_)
  refine qcvI rfl (oK12 hL rfl) rfl rfl (R247 (d := d + 2) (h := h) hL hW) (fun v1 hW => ?_)
  refine wif_ne rfl hW (fun hW => ?_) (fun hW => ?_)
  · refine kst rfl rfl ?_
    refine wgetP (b := 198) rfl (oK12 hL rfl) rfl (oP12_0 hL) ?_
    refine kst rfl rfl ?_
    refine wald rfl (Or.inl (aK12_0 hL)) (aN12_0 hL) (by decide) ⟨by decide, by decide⟩ ?_
    iterate 3 (refine kst rfl rfl ?_)
    refine wcvI rfl (oK12 hL rfl) rfl rfl (R276 (d := d + 1) (h := h) hL hW) (fun v2 h3 hL hW => ?_)
    refine wif_eq rfl hW (fun hW => ?_) (fun hW => ?_)
    · iterate 2 (refine kst rfl rfl ?_)
      refine wcvI rfl (oK12 hL rfl) rfl rfl (R205 (d := d + 2) (h := h3) hL hW) (fun v4 h5 hL hW => ?_)
      refine kre rfl rfl ?_
      exact ⟨_, _, rfl, hL, hW⟩
    · iterate 3 (refine kst rfl rfl ?_)
      refine wcvI rfl (oK12 hL rfl) rfl rfl (R271 (d := d + 0) (h := h3) hL hW) (fun v6 h7 hL hW => ?_)
      refine kst rfl rfl ?_
      refine kre rfl rfl ?_
      exact ⟨_, _, rfl, hL, hW⟩
  · iterate 2 (refine kst rfl rfl ?_)
    refine wcvI rfl (oK12 hL rfl) rfl rfl (R205 (d := d + 2) (h := h) hL hW) (fun v8 h9 hL hW => ?_)
    refine kre rfl rfl ?_
    exact ⟨_, _, rfl, hL, hW⟩
/-- 282: FourPotsModel keeps -/
def W282 (a1 : Int32) (h : TH) (C : Int32 → TH → Prop) : Prop :=
  W247 a1 h (fun v1 => if ¬ v1 = 0 then (W250 (h.I 198 (ix 2)) a1 h (fun v2 => if ¬ v2 = 0 then (W250 (h.I 198 (ix 3)) a1 h (fun v3 => if ¬ v3 = 0 then (W206 0 h (fun v4 h5 => C v4 h5)) else (W251 a1 2 h (fun v6 => if ¬ v6 = 0 then (inb (112 + a1) 2200 ∧ W206 (h.I 198 (ix (112 + a1))) h (fun v7 h8 => C v7 h8)) else (W206 0 h (fun v9 h10 => C v9 h10)))))) else (W205 6 h (fun v11 h12 => C v11 h12)))) else (W205 1 h (fun v13 h14 => C v13 h14)))

theorem R282 {d : Nat} {a1 : Int32} {h : TH} {C : Int32 → TH → Prop} (hL : Lay h) (hW : W282 a1 h C) : xPk (d + 1) 282 [.ref 197, .int a1] h.X (postI C) := by
  unfold W282 at hW
  refine kin (Nat.le_of_ble_eq_true rfl) ?_
  iterate 2 (refine kst rfl rfl ?_)
  refine qcvI rfl (oK12 hL rfl) rfl rfl (R247 (d := d + 0) (h := h) hL hW) (fun v1 hW => ?_)
  refine wif_ne rfl hW (fun hW => ?_) (fun hW => ?_)
  · refine kst rfl rfl ?_
    refine wgetP (b := 198) rfl (oK12 hL rfl) rfl (oP12_0 hL) ?_
    refine kst rfl rfl ?_
    refine wald rfl (Or.inl (aK12_0 hL)) (aN12_0 hL) (by decide) ⟨by decide, by decide⟩ ?_
    refine kst rfl rfl ?_
    refine qcaI rfl rfl (R250 (d := d + 0) (h := h) hL hW) (fun v2 hW => ?_)
    refine wif_ne rfl hW (fun hW => ?_) (fun hW => ?_)
    · iterate 2 (refine kst rfl rfl ?_)
      refine wgetP (b := 198) rfl (oK12 hL rfl) rfl (oP12_0 hL) ?_
      refine kst rfl rfl ?_
      refine wald rfl (Or.inl (aK12_0 hL)) (aN12_0 hL) (by decide) ⟨by decide, by decide⟩ ?_
      refine kst rfl rfl ?_
      refine qcaI rfl rfl (R250 (d := d + 0) (h := h) hL hW) (fun v3 hW => ?_)
      refine wif_ne rfl hW (fun hW => ?_) (fun hW => ?_)
      · iterate 2 (refine kst rfl rfl ?_)
        refine wcvI rfl (oK12 hL rfl) rfl rfl (R206 (d := d + 0) (h := h) hL hW) (fun v4 h5 hL hW => ?_)
        refine kre rfl rfl ?_
        exact ⟨_, _, rfl, hL, hW⟩
      · iterate 3 (refine kst rfl rfl ?_)
        refine qcvI rfl (oK12 hL rfl) rfl rfl (R251 (d := d + 0) (h := h) hL hW) (fun v6 hW => ?_)
        refine wif_ne rfl hW (fun hW => ?_) (fun hW => ?_)
        · refine kst rfl rfl ?_
          refine wgetP (b := 198) rfl (oK12 hL rfl) rfl (oP12_0 hL) ?_
          iterate 3 (refine kst rfl rfl ?_)
          obtain ⟨q1, hW⟩ := hW
          refine wald rfl (Or.inl (aK12_0 hL)) (aN12_0 hL) (by decide) q1 ?_
          refine wcvI rfl (oK12 hL rfl) rfl rfl (R206 (d := d + 0) (h := h) hL hW) (fun v7 h8 hL hW => ?_)
          refine kre rfl rfl ?_
          exact ⟨_, _, rfl, hL, hW⟩
        · iterate 2 (refine kst rfl rfl ?_)
          refine wcvI rfl (oK12 hL rfl) rfl rfl (R206 (d := d + 0) (h := h) hL hW) (fun v9 h10 hL hW => ?_)
          refine kre rfl rfl ?_
          exact ⟨_, _, rfl, hL, hW⟩
    · iterate 2 (refine kst rfl rfl ?_)
      refine wcvI rfl (oK12 hL rfl) rfl rfl (R205 (d := d + 0) (h := h) hL hW) (fun v11 h12 hL hW => ?_)
      refine kre rfl rfl ?_
      exact ⟨_, _, rfl, hL, hW⟩
  · iterate 2 (refine kst rfl rfl ?_)
    refine wcvI rfl (oK12 hL rfl) rfl rfl (R205 (d := d + 0) (h := h) hL hW) (fun v13 h14 hL hW => ?_)
    refine kre rfl rfl ?_
    exact ⟨_, _, rfl, hL, hW⟩
/-- 283: FourPotsModel empty -/
def F283_2 (C : Int32 → TH → Prop) (X2 : Int32 × TH → Prop) : Int32 × TH → Prop := fun
  | (x1, h) =>
    if 5 < x1 then (W204 0 h (fun v1 h2 => (v1 = 0 ∨ v1 = 1) ∧ C v1 h2)) else (inb x1 2200 ∧ X2 ((x1 + 1), (h.sI 198 (ix x1) 0)))
def B283_2 (x1 : Int32) (h : TH) (C : Int32 → TH → Prop) : Prop := LFP (F283_2 C) (x1, h)
def W283 (h : TH) (C : Int32 → TH → Prop) : Prop :=
  B283_2 2 h C

theorem R283_2 {d : Nat} {x1 : Int32} {h : TH} {C : Int32 → TH → Prop} (hL : Lay h) (hW : B283_2 x1 h C) : xEk (d + 1) 283 (2, [(0, .ref 197), (1, .int x1)], [], h.X) (postI C) := by
  refine hW (fun s => Lay (s.2) → xEk (d + 1) 283 (2, [(0, .ref 197), (1, .int (s.1))], [], (TH.X (s.2))) (postI C)) ?_ hL
  rintro ⟨x1, h⟩ hW hL
  have k2 : ∀ s : Int32 × TH, (fun s => Lay (s.2) → xEk (d + 1) 283 (2, [(0, .ref 197), (1, .int (s.1))], [], (TH.X (s.2))) (postI C)) s → Lay (s.2) → xEk (d + 1) 283 (2, [(0, .ref 197), (1, .int (s.1))], [], (TH.X (s.2))) (postI C) := fun s hs => hs
  unfold F283_2 at hW
  dsimp only at hW
  iterate 2 (refine kst rfl rfl ?_)
  refine wcm_gt rfl hW (fun hW => ?_) (fun hW => ?_)
  · iterate 2 (refine kst rfl rfl ?_)
    refine wcvI rfl (oK12 hL rfl) rfl rfl (R204 (d := d + 0) (h := h) hL hW) (fun v1 h2 hL hW => ?_)
    obtain ⟨q1, hW⟩ := hW
    refine wrZ rfl q1 ?_
    exact ⟨_, _, rfl, hL, hW⟩
  · refine kst rfl rfl ?_
    refine wgetP (b := 198) rfl (oK12 hL rfl) rfl (oP12_0 hL) ?_
    iterate 2 (refine kst rfl rfl ?_)
    obtain ⟨q1, hW⟩ := hW
    refine wast rfl (aK12_0 hL) (aN12_0 hL) (by decide) q1 ?_
    replace hL : Lay (h.sI 198 (ix x1) 0) := lsI hL
    iterate 2 (refine kst rfl rfl ?_)
    have z9 := k2 ((x1 + 1), (h.sI 198 (ix x1) 0)) hW hL
    refine wjp ?_ z9
    exact ⟨rfl, rfl, trivial⟩
theorem R283 {d : Nat} {h : TH} {C : Int32 → TH → Prop} (hL : Lay h) (hW : W283  h C) : xPk (d + 1) 283 [.ref 197] h.X (postI C) := by
  unfold W283 at hW
  refine kin (Nat.le_of_ble_eq_true rfl) ?_
  iterate 2 (refine kst rfl rfl ?_)
  refine wjp ?_ (R283_2 (h := h) hL hW)
  exact ⟨rfl, rfl, trivial⟩
