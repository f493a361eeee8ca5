/-! WHAT EACH METHOD NEEDS: W: the condition; R: the small machine keeps it (printed by wgen.py) -/
/-- 54: Menu derive -/
def B54_35 (t : Nat) (x2 : Int32) (s0 : Int32) (h : TH) (C : TH → Prop) (X7 : Int32 × TH → Prop) : Prop :=
  inb x2 12 ∧ inb x2 12 ∧ inb s0 12 ∧ inb x2 12 ∧ ∀ h2, h2 = ((h.sI (t + 9) (ix x2) ((ishl 1 x2) ||| (ishl 1 s0))).sI (t + 10) (ix x2) (((h.sI (t + 9) (ix x2) ((ishl 1 x2) ||| (ishl 1 s0))).I (t + 6) (ix x2)) ||| ((h.sI (t + 9) (ix x2) ((ishl 1 x2) ||| (ishl 1 s0))).I (t + 6) (ix s0)))) → inb x2 12 ∧ inb s0 12 ∧ inb x2 12 ∧ X7 ((x2 + 1), (h2.sI (t + 11) (ix x2) (imax (h2.I (t + 2) (ix x2)) (h2.I (t + 2) (ix s0)))))
def F54_7 (t : Nat) (C : TH → Prop) (X7 : Int32 × TH → Prop) : Int32 × TH → Prop := fun
  | (x2, h) =>
    if (h.I t 1) ≤ x2 then (W109 (t + 12) t 0 h (fun h1 => C h1)) else (inb x2 12 ∧ if ¬ (h.I (t + 7) (ix x2)) = (-1) then (inb x2 12 ∧ B54_35 t x2 (h.I (t + 7) (ix x2)) h C X7) else (B54_35 t x2 x2 h C X7))
def B54_7 (t : Nat) (x2 : Int32) (h : TH) (C : TH → Prop) : Prop := LFP (F54_7 t C) (x2, h)
def W54 (t : Nat) (a1 : Int32) (h : TH) (C : TH → Prop) : Prop :=
  B54_7 t 0 (h.sI t 0 a1) C

theorem R54_35 {d : Nat} {t : Nat} {x2 : Int32} {s0 : Int32} {h : TH} {C : TH → Prop} {X7 : Int32 × TH → Prop} (k7 : ∀ s : Int32 × TH, X7 s → Lay (s.2) → xEk (d + 3) 54 (7, [(0, .ref t), (2, .int (s.1))], [], (TH.X (s.2))) (postV C)) (ht : is3 t) (hL : Lay h) (hW : B54_35 t x2 s0 h C X7) : xEk (d + 3) 54 (35, [(0, .ref t), (2, .int x2)], [.int s0], h.X) (postV C) := by
  unfold B54_35 at hW
  iterate 2 (refine kst rfl rfl ?_)
  refine wgetP (b := (t + 9)) rfl (oK3 hL ht) rfl (oP3_13 hL ht) ?_
  iterate 8 (refine kst rfl rfl ?_)
  obtain ⟨q3, hW⟩ := hW
  refine wast rfl (aK3_13 hL ht) (aN3_13 hL ht) (by decide) q3 ?_
  replace hL : Lay (h.sI (t + 9) (ix x2) ((ishl 1 x2) ||| (ishl 1 s0))) := lsI hL
  refine kst rfl rfl ?_
  refine wgetP (b := (t + 10)) rfl (oK3 hL ht) rfl (oP3_14 hL ht) ?_
  iterate 2 (refine kst rfl rfl ?_)
  refine wgetP (b := (t + 6)) rfl (oK3 hL ht) rfl (oP3_10 hL ht) ?_
  refine kst rfl rfl ?_
  obtain ⟨q4, hW⟩ := hW
  refine wald rfl (Or.inl (aK3_10 hL ht)) (aN3_10 hL ht) (by decide) q4 ?_
  refine kst rfl rfl ?_
  refine wgetP (b := (t + 6)) rfl (oK3 hL ht) rfl (oP3_10 hL ht) ?_
  refine kst rfl rfl ?_
  obtain ⟨q5, hW⟩ := hW
  refine wald rfl (Or.inl (aK3_10 hL ht)) (aN3_10 hL ht) (by decide) q5 ?_
  refine kst rfl rfl ?_
  obtain ⟨q6, hW⟩ := hW
  refine wast rfl (aK3_14 hL ht) (aN3_14 hL ht) (by decide) q6 ?_
  replace hL : Lay ((h.sI (t + 9) (ix x2) ((ishl 1 x2) ||| (ishl 1 s0))).sI (t + 10) (ix x2) (((h.sI (t + 9) (ix x2) ((ishl 1 x2) ||| (ishl 1 s0))).I (t + 6) (ix x2)) ||| ((h.sI (t + 9) (ix x2) ((ishl 1 x2) ||| (ishl 1 s0))).I (t + 6) (ix s0)))) := lsI hL
  refine kst rfl rfl ?_
  refine whb (h := ((h.sI (t + 9) (ix x2) ((ishl 1 x2) ||| (ishl 1 s0))).sI (t + 10) (ix x2) (((h.sI (t + 9) (ix x2) ((ishl 1 x2) ||| (ishl 1 s0))).I (t + 6) (ix x2)) ||| ((h.sI (t + 9) (ix x2) ((ishl 1 x2) ||| (ishl 1 s0))).I (t + 6) (ix s0))))) (fun h2 eh2 => ?_)
  replace hW := hW h2 eh2
  replace hL : Lay h2 := by rw [eh2]; exact hL
  clear eh2
  refine wgetP (b := (t + 11)) rfl (oK3 hL ht) rfl (oP3_15 hL ht) ?_
  iterate 2 (refine kst rfl rfl ?_)
  refine wgetP (b := (t + 2)) rfl (oK3 hL ht) rfl (oP3_6 hL ht) ?_
  refine kst rfl rfl ?_
  obtain ⟨q7, hW⟩ := hW
  refine wald rfl (Or.inl (aK3_6 hL ht)) (aN3_6 hL ht) (by decide) q7 ?_
  refine kst rfl rfl ?_
  refine wgetP (b := (t + 2)) rfl (oK3 hL ht) rfl (oP3_6 hL ht) ?_
  refine kst rfl rfl ?_
  obtain ⟨q8, hW⟩ := hW
  refine wald rfl (Or.inl (aK3_6 hL ht)) (aN3_6 hL ht) (by decide) q8 ?_
  refine kst rfl rfl ?_
  obtain ⟨q9, hW⟩ := hW
  refine wast rfl (aK3_15 hL ht) (aN3_15 hL ht) (by decide) q9 ?_
  replace hL : Lay (h2.sI (t + 11) (ix x2) (imax (h2.I (t + 2) (ix x2)) (h2.I (t + 2) (ix s0)))) := lsI hL
  iterate 2 (refine kst rfl rfl ?_)
  have z9 := k7 ((x2 + 1), (h2.sI (t + 11) (ix x2) (imax (h2.I (t + 2) (ix x2)) (h2.I (t + 2) (ix s0))))) hW hL
  refine wjp ?_ z9
  exact ⟨rfl, rfl, trivial⟩
theorem R54_7 {d : Nat} {t : Nat} {x2 : Int32} {h : TH} {C : TH → Prop} (ht : is3 t) (hL : Lay h) (hW : B54_7 t x2 h C) : xEk (d + 3) 54 (7, [(0, .ref t), (2, .int x2)], [], h.X) (postV C) := by
  refine hW (fun s => Lay (s.2) → xEk (d + 3) 54 (7, [(0, .ref t), (2, .int (s.1))], [], (TH.X (s.2))) (postV C)) ?_ hL
  rintro ⟨x2, h⟩ hW hL
  have k7 : ∀ s : Int32 × TH, (fun s => Lay (s.2) → xEk (d + 3) 54 (7, [(0, .ref t), (2, .int (s.1))], [], (TH.X (s.2))) (postV C)) s → Lay (s.2) → xEk (d + 3) 54 (7, [(0, .ref t), (2, .int (s.1))], [], (TH.X (s.2))) (postV C) := fun s hs => hs
  unfold F54_7 at hW
  dsimp only at hW
  iterate 2 (refine kst rfl rfl ?_)
  refine wgetI rfl (oK3 hL ht) rfl ?_
  refine wcm_ge rfl hW (fun hW => ?_) (fun hW => ?_)
  · refine kst rfl rfl ?_
    refine wgetP (b := (t + 12)) rfl (oK3 hL ht) rfl (oP3_16 hL ht) ?_
    iterate 2 (refine kst rfl rfl ?_)
    refine wcvV rfl (oK7 hL (is_3_16 ht)) rfl rfl (R109 (d := d + 0) (h := h) (is_3_16 ht) ht hL hW) (fun h1 hL hW => ?_)
    refine kre rfl rfl ?_
    exact ⟨_, rfl, hL, hW⟩
  · refine kst rfl rfl ?_
    refine wgetP (b := (t + 7)) rfl (oK3 hL ht) rfl (oP3_11 hL ht) ?_
    refine kst rfl rfl ?_
    obtain ⟨q1, hW⟩ := hW
    refine wald rfl (Or.inl (aK3_11 hL ht)) (aN3_11 hL ht) (by decide) q1 ?_
    refine kst rfl rfl ?_
    refine wcm_ne rfl hW (fun hW => ?_) (fun hW => ?_)
    · refine kst rfl rfl ?_
      refine wgetP (b := (t + 7)) rfl (oK3 hL ht) rfl (oP3_11 hL ht) ?_
      refine kst rfl rfl ?_
      obtain ⟨q2, hW⟩ := hW
      refine wald rfl (Or.inl (aK3_11 hL ht)) (aN3_11 hL ht) (by decide) q2 ?_
      refine wjp ?_ (R54_35 (h := h) k7 ht hL hW)
      exact ⟨rfl, rfl, trivial⟩
    · iterate 2 (refine kst rfl rfl ?_)
      refine wjp ?_ (R54_35 (h := h) k7 ht hL hW)
      exact ⟨rfl, rfl, trivial⟩
theorem R54 {d : Nat} {t : Nat} {a1 : Int32} {h : TH} {C : TH → Prop} (ht : is3 t) (hL : Lay h) (hW : W54 t a1 h C) : xPk (d + 3) 54 [.ref t, .int a1] h.X (postV C) := by
  unfold W54 at hW
  refine kin (Nat.le_of_ble_eq_true rfl) ?_
  iterate 2 (refine kst rfl rfl ?_)
  refine wputI rfl (oK3 hL ht) rfl ?_
  replace hL : Lay (h.sI t 0 a1) := lsI hL
  iterate 2 (refine kst rfl rfl ?_)
  refine wjp ?_ (R54_7 (h := (h.sI t 0 a1)) ht hL hW)
  exact ⟨rfl, rfl, trivial⟩
/-- 55: Menu has -/
def W55 (t : Nat) (a1 : Int32) (h : TH) (C : Int32 → Prop) : Prop :=
  if a1 < 0 then (C 0) else (if (h.I t 1) ≤ a1 then (C 0) else (C 1))

theorem R55 {d : Nat} {t : Nat} {a1 : Int32} {h : TH} {C : Int32 → Prop} (ht : is3 t) (hL : Lay h) (hW : W55 t a1 h C) : xPk d 55 [.ref t, .int a1] h.X (qostI h C) := by
  unfold W55 at hW
  refine kin (Nat.le_of_ble_eq_true rfl) ?_
  refine kst rfl rfl ?_
  refine wif_lt rfl hW (fun hW => ?_) (fun hW => ?_)
  · refine kst rfl rfl ?_
    refine kre rfl rfl ?_
    exact ⟨_, rfl, hW⟩
  · iterate 2 (refine kst rfl rfl ?_)
    refine wgetI rfl (oK3 hL ht) rfl ?_
    refine wcm_ge rfl hW (fun hW => ?_) (fun hW => ?_)
    · refine kst rfl rfl ?_
      refine kre rfl rfl ?_
      exact ⟨_, rfl, hW⟩
    · iterate 2 (refine kst rfl rfl ?_)
      refine kre rfl rfl ?_
      exact ⟨_, rfl, hW⟩
/-- 56: Menu hasSet -/
def W56 (t : Nat) (a1 : Int32) (h : TH) (C : Int32 → Prop) : Prop :=
  if a1 < 0 then (C 0) else (if (ishl 1 (h.I t 1)) ≤ a1 then (C 0) else (C 1))

theorem R56 {d : Nat} {t : Nat} {a1 : Int32} {h : TH} {C : Int32 → Prop} (ht : is3 t) (hL : Lay h) (hW : W56 t a1 h C) : xPk d 56 [.ref t, .int a1] h.X (qostI h C) := by
  unfold W56 at hW
  refine kin (Nat.le_of_ble_eq_true rfl) ?_
  refine kst rfl rfl ?_
  refine wif_lt rfl hW (fun hW => ?_) (fun hW => ?_)
  · refine kst rfl rfl ?_
    refine kre rfl rfl ?_
    exact ⟨_, rfl, hW⟩
  · iterate 3 (refine kst rfl rfl ?_)
    refine wgetI rfl (oK3 hL ht) rfl ?_
    refine kst rfl rfl ?_
    refine wcm_ge rfl hW (fun hW => ?_) (fun hW => ?_)
    · refine kst rfl rfl ?_
      refine kre rfl rfl ?_
      exact ⟨_, rfl, hW⟩
    · iterate 2 (refine kst rfl rfl ?_)
      refine kre rfl rfl ?_
      exact ⟨_, rfl, hW⟩
/-- 59: Menu dishNamed -/
def F59_2 (t : Nat) (a1 : Int64) (h : TH) (C : Int32 → Prop) (X2 : Int32 → Prop) : Int32 → Prop := fun
  | x3 =>
    if (h.I t 1) ≤ x3 then (C (-1)) else (inb x3 12 ∧ if ¬ (lg_cmp (h.J (t + 1) (ix x3)) a1) = 0 then (X2 (x3 + 1)) else (C x3))
def B59_2 (t : Nat) (a1 : Int64) (x3 : Int32) (h : TH) (C : Int32 → Prop) : Prop := LFP (F59_2 t a1 h C) x3
def W59 (t : Nat) (a1 : Int64) (h : TH) (C : Int32 → Prop) : Prop :=
  B59_2 t a1 0 h C

theorem R59_2 {d : Nat} {t : Nat} {a1 : Int64} {x3 : Int32} {h : TH} {C : Int32 → Prop} (ht : is3 t) (hL : Lay h) (hW : B59_2 t a1 x3 h C) : xEk d 59 (2, [(0, .ref t), (1, .long a1), (3, .int x3)], [], h.X) (qostI h C) := by
  refine hW (fun s => xEk d 59 (2, [(0, .ref t), (1, .long a1), (3, .int s)], [], (TH.X (h))) (qostI h C)) ?_
  rintro x3 hW 
  have k2 : ∀ s : Int32, (fun s => xEk d 59 (2, [(0, .ref t), (1, .long a1), (3, .int s)], [], (TH.X (h))) (qostI h C)) s → xEk d 59 (2, [(0, .ref t), (1, .long a1), (3, .int s)], [], (TH.X (h))) (qostI h C) := fun s hs => hs
  unfold F59_2 at hW
  dsimp only at hW
  iterate 2 (refine kst rfl rfl ?_)
  refine wgetI rfl (oK3 hL ht) rfl ?_
  refine wcm_ge rfl hW (fun hW => ?_) (fun hW => ?_)
  · refine kst rfl rfl ?_
    refine kre rfl rfl ?_
    exact ⟨_, rfl, hW⟩
  · refine kst rfl rfl ?_
    refine wgetP (b := (t + 1)) rfl (oK3 hL ht) rfl (oP3_5 hL ht) ?_
    refine kst rfl rfl ?_
    obtain ⟨q1, hW⟩ := hW
    refine wlald rfl (aK3_5 hL ht) (aN3_5 hL ht) (by decide) q1 ?_
    iterate 2 (refine kst rfl rfl ?_)
    refine wif_ne rfl hW (fun hW => ?_) (fun hW => ?_)
    · iterate 2 (refine kst rfl rfl ?_)
      have z9 := k2 (x3 + 1) hW
      refine wjp ?_ z9
      exact ⟨rfl, rfl, rfl, trivial⟩
    · refine kst rfl rfl ?_
      refine kre rfl rfl ?_
      exact ⟨_, rfl, hW⟩
theorem R59 {d : Nat} {t : Nat} {a1 : Int64} {h : TH} {C : Int32 → Prop} (ht : is3 t) (hL : Lay h) (hW : W59 t a1 h C) : xPk d 59 [.ref t, .long a1] h.X (qostI h C) := by
  unfold W59 at hW
  refine kin (Nat.le_of_ble_eq_true rfl) ?_
  iterate 2 (refine kst rfl rfl ?_)
  refine wjp ?_ (R59_2 (h := h) ht hL hW)
  exact ⟨rfl, rfl, rfl, trivial⟩
/-- 65: Menu layerOf -/
def F65_15 (t : Nat) (a1 : Int32) (x2 : Nat) (x3 : Int32) (C : Int32 → TH → Prop) (X7 : Int32 × TH → Prop) (X15 : Int32 × TH → Prop) : Int32 × TH → Prop := fun
  | (x4, h) =>
    if x3 ≤ x4 then (X7 ((x3 + 1), h)) else (inb x3 12 ∧ if ((h.I (t + 6) (ix x3)) &&& (ishl 1 x4)) = 0 then (X15 ((x4 + 1), h)) else (okA h x2 100 x3 ∧ okA h x2 100 x4 ∧ okA h x2 100 x3 ∧ X15 ((x4 + 1), (h.sI x2 (ix x3) (imax (h.I x2 (ix x3)) ((h.I x2 (ix x4)) + 1))))))
def B65_15 (t : Nat) (a1 : Int32) (x2 : Nat) (x3 : Int32) (x4 : Int32) (h : TH) (C : Int32 → TH → Prop) (X7 : Int32 × TH → Prop) : Prop := LFP (F65_15 t a1 x2 x3 C X7) (x4, h)
def F65_7 (t : Nat) (a1 : Int32) (x2 : Nat) (C : Int32 → TH → Prop) (X7 : Int32 × TH → Prop) : Int32 × TH → Prop := fun
  | (x3, h) =>
    if a1 < x3 then (okA h x2 100 a1 ∧ C (h.I x2 (ix a1)) h) else (B65_15 t a1 x2 x3 0 h C X7)
def B65_7 (t : Nat) (a1 : Int32) (x2 : Nat) (x3 : Int32) (h : TH) (C : Int32 → TH → Prop) : Prop := LFP (F65_7 t a1 x2 C) (x3, h)
def W65 (t : Nat) (a1 : Int32) (h : TH) (C : Int32 → TH → Prop) : Prop :=
  h.n < 1000000 ∧ B65_7 t a1 h.n 0 (h.new 100 (ix 12) (ix 12)) C

theorem R65_15 {d : Nat} {t : Nat} {a1 : Int32} {x2 : Nat} {x3 : Int32} {x4 : Int32} {h : TH} {C : Int32 → TH → Prop} {X7 : Int32 × TH → Prop} (k7 : ∀ s : Int32 × TH, X7 s → Lay (s.2) → xEk d 65 (7, [(0, .ref t), (1, .int a1), (2, .ref x2), (3, .int (s.1))], [], (TH.X (s.2))) (postI C)) (ht : is3 t) (hL : Lay h) (hW : B65_15 t a1 x2 x3 x4 h C X7) : xEk d 65 (15, [(0, .ref t), (1, .int a1), (2, .ref x2), (3, .int x3), (4, .int x4)], [], h.X) (postI C) := by
  refine hW (fun s => Lay (s.2) → xEk d 65 (15, [(0, .ref t), (1, .int a1), (2, .ref x2), (3, .int x3), (4, .int (s.1))], [], (TH.X (s.2))) (postI C)) ?_ hL
  rintro ⟨x4, h⟩ hW hL
  have k15 : ∀ s : Int32 × TH, (fun s => Lay (s.2) → xEk d 65 (15, [(0, .ref t), (1, .int a1), (2, .ref x2), (3, .int x3), (4, .int (s.1))], [], (TH.X (s.2))) (postI C)) s → Lay (s.2) → xEk d 65 (15, [(0, .ref t), (1, .int a1), (2, .ref x2), (3, .int x3), (4, .int (s.1))], [], (TH.X (s.2))) (postI C) := fun s hs => hs
  unfold F65_15 at hW
  dsimp only at hW
  iterate 2 (refine kst rfl rfl ?_)
  refine wcm_ge rfl hW (fun hW => ?_) (fun hW => ?_)
  · iterate 2 (refine kst rfl rfl ?_)
    have z9 := k7 ((x3 + 1), h) hW hL
    refine wjp ?_ z9
    exact ⟨rfl, rfl, rfl, rfl, trivial⟩
  · refine kst rfl rfl ?_
    refine wgetP (b := (t + 6)) rfl (oK3 hL ht) rfl (oP3_10 hL ht) ?_
    refine kst rfl rfl ?_
    obtain ⟨q2, hW⟩ := hW
    refine wald rfl (Or.inl (aK3_10 hL ht)) (aN3_10 hL ht) (by decide) q2 ?_
    iterate 4 (refine kst rfl rfl ?_)
    refine wif_eq rfl hW (fun hW => ?_) (fun hW => ?_)
    · iterate 2 (refine kst rfl rfl ?_)
      have z9 := k15 ((x4 + 1), h) hW hL
      refine wjp ?_ z9
      exact ⟨rfl, rfl, rfl, rfl, rfl, trivial⟩
    · iterate 4 (refine kst rfl rfl ?_)
      obtain ⟨q3, hW⟩ := hW
      refine wald rfl (Or.inl q3.1) rfl q3.2.2 q3.2.1 ?_
      iterate 2 (refine kst rfl rfl ?_)
      obtain ⟨q4, hW⟩ := hW
      refine wald rfl (Or.inl q4.1) rfl q4.2.2 q4.2.1 ?_
      iterate 3 (refine kst rfl rfl ?_)
      obtain ⟨q5, hW⟩ := hW
      refine wast rfl q5.1 rfl q5.2.2 q5.2.1 ?_
      replace hL : Lay (h.sI x2 (ix x3) (imax (h.I x2 (ix x3)) ((h.I x2 (ix x4)) + 1))) := lsI hL
      iterate 2 (refine kst rfl rfl ?_)
      have z9 := k15 ((x4 + 1), (h.sI x2 (ix x3) (imax (h.I x2 (ix x3)) ((h.I x2 (ix x4)) + 1)))) hW hL
      refine wjp ?_ z9
      exact ⟨rfl, rfl, rfl, rfl, rfl, trivial⟩
theorem R65_7 {d : Nat} {t : Nat} {a1 : Int32} {x2 : Nat} {x3 : Int32} {h : TH} {C : Int32 → TH → Prop} (ht : is3 t) (hL : Lay h) (hW : B65_7 t a1 x2 x3 h C) : xEk d 65 (7, [(0, .ref t), (1, .int a1), (2, .ref x2), (3, .int x3)], [], h.X) (postI C) := by
  refine hW (fun s => Lay (s.2) → xEk d 65 (7, [(0, .ref t), (1, .int a1), (2, .ref x2), (3, .int (s.1))], [], (TH.X (s.2))) (postI C)) ?_ hL
  rintro ⟨x3, h⟩ hW hL
  have k7 : ∀ s : Int32 × TH, (fun s => Lay (s.2) → xEk d 65 (7, [(0, .ref t), (1, .int a1), (2, .ref x2), (3, .int (s.1))], [], (TH.X (s.2))) (postI C)) s → Lay (s.2) → xEk d 65 (7, [(0, .ref t), (1, .int a1), (2, .ref x2), (3, .int (s.1))], [], (TH.X (s.2))) (postI C) := fun s hs => hs
  unfold F65_7 at hW
  dsimp only at hW
  iterate 2 (refine kst rfl rfl ?_)
  refine wcm_gt rfl hW (fun hW => ?_) (fun hW => ?_)
  · iterate 2 (refine kst rfl rfl ?_)
    obtain ⟨q2, hW⟩ := hW
    refine wald rfl (Or.inl q2.1) rfl q2.2.2 q2.2.1 ?_
    refine kre rfl rfl ?_
    exact ⟨_, _, rfl, hL, hW⟩
  · iterate 2 (refine kst rfl rfl ?_)
    refine wjp ?_ (R65_15 (h := h) k7 ht hL hW)
    exact ⟨rfl, rfl, rfl, rfl, rfl, trivial⟩
theorem R65 {d : Nat} {t : Nat} {a1 : Int32} {h : TH} {C : Int32 → TH → Prop} (ht : is3 t) (hL : Lay h) (hW : W65 t a1 h C) : xPk d 65 [.ref t, .int a1] h.X (postI C) := by
  unfold W65 at hW
  refine kin (Nat.le_of_ble_eq_true rfl) ?_
  refine kst rfl rfl ?_
  obtain ⟨q1, hW⟩ := hW
  refine wnewA rfl (by decide) ⟨by decide, by decide⟩ ?_
  replace hL := lnew hL (k := 100) (l := (ix 12)) (m := (ix 12)) q1
  iterate 3 (refine kst rfl rfl ?_)
  refine wjp ?_ (R65_7 (h := (h.new 100 (ix 12) (ix 12))) ht hL hW)
  exact ⟨rfl, rfl, rfl, rfl, trivial⟩
/-- 64: Menu tellDish -/
def W64 (t : Nat) (a1 : Int32) (a2 : Int32) (h : TH) (C : Int32 → TH → Prop) : Prop :=
  if a2 = 0 then (inb a1 12 ∧ C (h.I (t + 2) (ix a1)) h) else if a2 = 1 then (inb a1 12 ∧ C (h.I (t + 3) (ix a1)) h) else if a2 = 2 then (inb a1 12 ∧ C (h.I (t + 4) (ix a1)) h) else if a2 = 3 then (inb a1 12 ∧ C (h.I (t + 5) (ix a1)) h) else if a2 = 4 then (inb a1 12 ∧ C (h.I (t + 6) (ix a1)) h) else if a2 = 5 then (C ((ishr (h.I t 3) a1) &&& 1) h) else if a2 = 6 then (C ((ishr (h.I t 4) a1) &&& 1) h) else if a2 = 7 then (inb a1 12 ∧ C (h.I (t + 7) (ix a1)) h) else (W65 t a1 h (fun v1 h2 => C v1 h2))

theorem R64 {d : Nat} {t : Nat} {a1 : Int32} {a2 : Int32} {h : TH} {C : Int32 → TH → Prop} (ht : is3 t) (hL : Lay h) (hW : W64 t a1 a2 h C) : xPk (d + 1) 64 [.ref t, .int a1, .int a2] h.X (postI C) := by
  unfold W64 at hW
  refine kin (Nat.le_of_ble_eq_true rfl) ?_
  refine kst rfl rfl ?_
  refine wsw hW (fun c0 hW => ?_) (fun c0 hW => ?_)
  · refine wswi (t := 48) rfl (fun _ => rfl) (swc c0 rfl) ?_
    refine kst rfl rfl ?_
    refine wgetP (b := (t + 2)) rfl (oK3 hL ht) rfl (oP3_6 hL ht) ?_
    refine kst rfl rfl ?_
    obtain ⟨q1, hW⟩ := hW
    refine wald rfl (Or.inl (aK3_6 hL ht)) (aN3_6 hL ht) (by decide) q1 ?_
    refine kre rfl rfl ?_
    exact ⟨_, _, rfl, hL, hW⟩
  refine wsw hW (fun c1 hW => ?_) (fun c1 hW => ?_)
  · refine wswi (t := 55) rfl (fun _ => rfl) (swc c1 rfl) ?_
    refine kst rfl rfl ?_
    refine wgetP (b := (t + 3)) rfl (oK3 hL ht) rfl (oP3_7 hL ht) ?_
    refine kst rfl rfl ?_
    obtain ⟨q2, hW⟩ := hW
    refine wald rfl (Or.inl (aK3_7 hL ht)) (aN3_7 hL ht) (by decide) q2 ?_
    refine kre rfl rfl ?_
    exact ⟨_, _, rfl, hL, hW⟩
  refine wsw hW (fun c2 hW => ?_) (fun c2 hW => ?_)
  · refine wswi (t := 62) rfl (fun _ => rfl) (swc c2 rfl) ?_
    refine kst rfl rfl ?_
    refine wgetP (b := (t + 4)) rfl (oK3 hL ht) rfl (oP3_8 hL ht) ?_
    refine kst rfl rfl ?_
    obtain ⟨q3, hW⟩ := hW
    refine wald rfl (Or.inl (aK3_8 hL ht)) (aN3_8 hL ht) (by decide) q3 ?_
    refine kre rfl rfl ?_
    exact ⟨_, _, rfl, hL, hW⟩
  refine wsw hW (fun c3 hW => ?_) (fun c3 hW => ?_)
  · refine wswi (t := 69) rfl (fun _ => rfl) (swc c3 rfl) ?_
    refine kst rfl rfl ?_
    refine wgetP (b := (t + 5)) rfl (oK3 hL ht) rfl (oP3_9 hL ht) ?_
    refine kst rfl rfl ?_
    obtain ⟨q4, hW⟩ := hW
    refine wald rfl (Or.inl (aK3_9 hL ht)) (aN3_9 hL ht) (by decide) q4 ?_
    refine kre rfl rfl ?_
    exact ⟨_, _, rfl, hL, hW⟩
  refine wsw hW (fun c4 hW => ?_) (fun c4 hW => ?_)
  · refine wswi (t := 76) rfl (fun _ => rfl) (swc c4 rfl) ?_
    refine kst rfl rfl ?_
    refine wgetP (b := (t + 6)) rfl (oK3 hL ht) rfl (oP3_10 hL ht) ?_
    refine kst rfl rfl ?_
    obtain ⟨q5, hW⟩ := hW
    refine wald rfl (Or.inl (aK3_10 hL ht)) (aN3_10 hL ht) (by decide) q5 ?_
    refine kre rfl rfl ?_
    exact ⟨_, _, rfl, hL, hW⟩
  refine wsw hW (fun c5 hW => ?_) (fun c5 hW => ?_)
  · refine wswi (t := 83) rfl (fun _ => rfl) (swc c5 rfl) ?_
    refine kst rfl rfl ?_
    refine wgetI rfl (oK3 hL ht) rfl ?_
    iterate 4 (refine kst rfl rfl ?_)
    refine kre rfl rfl ?_
    exact ⟨_, _, rfl, hL, hW⟩
  refine wsw hW (fun c6 hW => ?_) (fun c6 hW => ?_)
  · refine wswi (t := 92) rfl (fun _ => rfl) (swc c6 rfl) ?_
    refine kst rfl rfl ?_
    refine wgetI rfl (oK3 hL ht) rfl ?_
    iterate 4 (refine kst rfl rfl ?_)
    refine kre rfl rfl ?_
    exact ⟨_, _, rfl, hL, hW⟩
  refine wsw hW (fun c7 hW => ?_) (fun c7 hW => ?_)
  · refine wswi (t := 101) rfl (fun _ => rfl) (swc c7 rfl) ?_
    refine kst rfl rfl ?_
    refine wgetP (b := (t + 7)) rfl (oK3 hL ht) rfl (oP3_11 hL ht) ?_
    refine kst rfl rfl ?_
    obtain ⟨q6, hW⟩ := hW
    refine wald rfl (Or.inl (aK3_11 hL ht)) (aN3_11 hL ht) (by decide) q6 ?_
    refine kre rfl rfl ?_
    exact ⟨_, _, rfl, hL, hW⟩
  refine wswi (t := 108) rfl (fun _ => rfl) (tswD (by have z0 := i32ne (k := 0) c0 rfl; have z1 := i32ne (k := 1) c1 rfl; have z2 := i32ne (k := 2) c2 rfl; have z3 := i32ne (k := 3) c3 rfl; have z4 := i32ne (k := 4) c4 rfl; have z5 := i32ne (k := 5) c5 rfl; have z6 := i32ne (k := 6) c6 rfl; have z7 := i32ne (k := 7) c7 rfl; first | omega | (have z9 := i32ne c0 rfl; omega)) rfl) ?_
  iterate 2 (refine kst rfl rfl ?_)
  refine wcvI rfl (oK3 hL ht) rfl rfl (R65 (d := d + 0) (h := h) ht hL hW) (fun v1 h2 hL hW => ?_)
  refine kre rfl rfl ?_
  exact ⟨_, _, rfl, hL, hW⟩
/-- 66: Menu deepNeeds -/
def F66_11 (t : Nat) (h : TH) (C : Int32 → Prop) (X11 : Int32 × Int32 → Prop) : Int32 × Int32 → Prop := fun
  | (x2, x3) =>
    if x3 < 0 then (C x2) else (if (x2 &&& (ishl 1 x3)) = 0 then (X11 (x2, (x3 + (-1)))) else (inb x3 12 ∧ X11 ((x2 ||| (h.I (t + 6) (ix x3))), (x3 + (-1)))))
def B66_11 (t : Nat) (x2 : Int32) (x3 : Int32) (h : TH) (C : Int32 → Prop) : Prop := LFP (F66_11 t h C) (x2, x3)
def W66 (t : Nat) (a1 : Int32) (h : TH) (C : Int32 → Prop) : Prop :=
  inb a1 12 ∧ B66_11 t (h.I (t + 6) (ix a1)) (a1 - 1) h C

theorem R66_11 {d : Nat} {t : Nat} {x2 : Int32} {x3 : Int32} {h : TH} {C : Int32 → Prop} (ht : is3 t) (hL : Lay h) (hW : B66_11 t x2 x3 h C) : xEk d 66 (11, [(0, .ref t), (2, .int x2), (3, .int x3)], [], h.X) (qostI h C) := by
  refine hW (fun s => xEk d 66 (11, [(0, .ref t), (2, .int (s.1)), (3, .int (s.2))], [], (TH.X (h))) (qostI h C)) ?_
  rintro ⟨x2, x3⟩ hW 
  have k11 : ∀ s : Int32 × Int32, (fun s => xEk d 66 (11, [(0, .ref t), (2, .int (s.1)), (3, .int (s.2))], [], (TH.X (h))) (qostI h C)) s → xEk d 66 (11, [(0, .ref t), (2, .int (s.1)), (3, .int (s.2))], [], (TH.X (h))) (qostI h C) := fun s hs => hs
  unfold F66_11 at hW
  dsimp only at hW
  refine kst rfl rfl ?_
  refine wif_lt rfl hW (fun hW => ?_) (fun hW => ?_)
  · refine kst rfl rfl ?_
    refine kre rfl rfl ?_
    exact ⟨_, rfl, hW⟩
  · iterate 5 (refine kst rfl rfl ?_)
    refine wif_eq rfl hW (fun hW => ?_) (fun hW => ?_)
    · iterate 2 (refine kst rfl rfl ?_)
      have z9 := k11 (x2, (x3 + (-1))) hW
      refine wjp ?_ z9
      exact ⟨rfl, rfl, rfl, trivial⟩
    · iterate 2 (refine kst rfl rfl ?_)
      refine wgetP (b := (t + 6)) rfl (oK3 hL ht) rfl (oP3_10 hL ht) ?_
      refine kst rfl rfl ?_
      obtain ⟨q2, hW⟩ := hW
      refine wald rfl (Or.inl (aK3_10 hL ht)) (aN3_10 hL ht) (by decide) q2 ?_
      iterate 4 (refine kst rfl rfl ?_)
      have z9 := k11 ((x2 ||| (h.I (t + 6) (ix x3))), (x3 + (-1))) hW
      refine wjp ?_ z9
      exact ⟨rfl, rfl, rfl, trivial⟩
theorem R66 {d : Nat} {t : Nat} {a1 : Int32} {h : TH} {C : Int32 → Prop} (ht : is3 t) (hL : Lay h) (hW : W66 t a1 h C) : xPk d 66 [.ref t, .int a1] h.X (qostI h C) := by
  unfold W66 at hW
  refine kin (Nat.le_of_ble_eq_true rfl) ?_
  refine kst rfl rfl ?_
  refine wgetP (b := (t + 6)) rfl (oK3 hL ht) rfl (oP3_10 hL ht) ?_
  refine kst rfl rfl ?_
  obtain ⟨q1, hW⟩ := hW
  refine wald rfl (Or.inl (aK3_10 hL ht)) (aN3_10 hL ht) (by decide) q1 ?_
  iterate 5 (refine kst rfl rfl ?_)
  refine wjp ?_ (R66_11 (h := h) ht hL hW)
  exact ⟨rfl, rfl, rfl, trivial⟩
/-- 67: Menu allNeeded -/
def F67_29 (t : Nat) (x3 : Int32) (x4 : Int32) (h : TH) (C : Int32 → Prop) (X7 : Int32 × Int32 × Int32 → Prop) (X29 : Int32 × Int32 → Prop) : Int32 × Int32 → Prop := fun
  | (x2, x5) =>
    if x5 < 0 then (X7 (x2, x3, (x4 + 1))) else (if (x2 &&& (ishl 1 x5)) = 0 then (X29 (x2, (x5 + (-1)))) else (inb x5 12 ∧ inb x5 12 ∧ X29 ((x2 ||| ((h.I (t + 9) (ix x5)) ||| (h.I (t + 10) (ix x5)))), (x5 + (-1)))))
def B67_29 (t : Nat) (x3 : Int32) (x4 : Int32) (x2 : Int32) (x5 : Int32) (h : TH) (C : Int32 → Prop) (X7 : Int32 × Int32 × Int32 → Prop) : Prop := LFP (F67_29 t x3 x4 h C X7) (x2, x5)
def F67_7 (t : Nat) (h : TH) (C : Int32 → Prop) (X7 : Int32 × Int32 × Int32 → Prop) : Int32 × Int32 × Int32 → Prop := fun
  | (x2, x3, x4) =>
    if 12 < x4 then (C x2) else (if x2 = x3 then (C x2) else (B67_29 t x2 x4 x2 ((h.I t 1) - 1) h C X7))
def B67_7 (t : Nat) (x2 : Int32) (x3 : Int32) (x4 : Int32) (h : TH) (C : Int32 → Prop) : Prop := LFP (F67_7 t h C) (x2, x3, x4)
def W67 (t : Nat) (a1 : Int32) (h : TH) (C : Int32 → Prop) : Prop :=
  B67_7 t a1 (-1) 0 h C

theorem R67_29 {d : Nat} {t : Nat} {x3 : Int32} {x4 : Int32} {x2 : Int32} {x5 : Int32} {h : TH} {C : Int32 → Prop} {X7 : Int32 × Int32 × Int32 → Prop} (k7 : ∀ s : Int32 × Int32 × Int32, X7 s → xEk d 67 (7, [(0, .ref t), (2, .int (s.1)), (3, .int (s.2.1)), (4, .int (s.2.2))], [], (TH.X (h))) (qostI h C)) (ht : is3 t) (hL : Lay h) (hW : B67_29 t x3 x4 x2 x5 h C X7) : xEk d 67 (29, [(0, .ref t), (2, .int x2), (3, .int x3), (4, .int x4), (5, .int x5)], [], h.X) (qostI h C) := by
  refine hW (fun s => xEk d 67 (29, [(0, .ref t), (2, .int (s.1)), (3, .int x3), (4, .int x4), (5, .int (s.2))], [], (TH.X (h))) (qostI h C)) ?_
  rintro ⟨x2, x5⟩ hW 
  have k29 : ∀ s : Int32 × Int32, (fun s => xEk d 67 (29, [(0, .ref t), (2, .int (s.1)), (3, .int x3), (4, .int x4), (5, .int (s.2))], [], (TH.X (h))) (qostI h C)) s → xEk d 67 (29, [(0, .ref t), (2, .int (s.1)), (3, .int x3), (4, .int x4), (5, .int (s.2))], [], (TH.X (h))) (qostI h C) := fun s hs => hs
  unfold F67_29 at hW
  dsimp only at hW
  refine kst rfl rfl ?_
  refine wif_lt rfl hW (fun hW => ?_) (fun hW => ?_)
  · iterate 2 (refine kst rfl rfl ?_)
    have z9 := k7 (x2, x3, (x4 + 1)) hW
    refine wjp ?_ z9
    exact ⟨rfl, rfl, rfl, rfl, trivial⟩
  · iterate 5 (refine kst rfl rfl ?_)
    refine wif_eq rfl hW (fun hW => ?_) (fun hW => ?_)
    · iterate 2 (refine kst rfl rfl ?_)
      have z9 := k29 (x2, (x5 + (-1))) hW
      refine wjp ?_ z9
      exact ⟨rfl, rfl, rfl, rfl, rfl, trivial⟩
    · iterate 2 (refine kst rfl rfl ?_)
      refine wgetP (b := (t + 9)) rfl (oK3 hL ht) rfl (oP3_13 hL ht) ?_
      refine kst rfl rfl ?_
      obtain ⟨q1, hW⟩ := hW
      refine wald rfl (Or.inl (aK3_13 hL ht)) (aN3_13 hL ht) (by decide) q1 ?_
      refine kst rfl rfl ?_
      refine wgetP (b := (t + 10)) rfl (oK3 hL ht) rfl (oP3_14 hL ht) ?_
      refine kst rfl rfl ?_
      obtain ⟨q2, hW⟩ := hW
      refine wald rfl (Or.inl (aK3_14 hL ht)) (aN3_14 hL ht) (by decide) q2 ?_
      iterate 5 (refine kst rfl rfl ?_)
      have z9 := k29 ((x2 ||| ((h.I (t + 9) (ix x5)) ||| (h.I (t + 10) (ix x5)))), (x5 + (-1))) hW
      refine wjp ?_ z9
      exact ⟨rfl, rfl, rfl, rfl, rfl, trivial⟩
theorem R67_7 {d : Nat} {t : Nat} {x2 : Int32} {x3 : Int32} {x4 : Int32} {h : TH} {C : Int32 → Prop} (ht : is3 t) (hL : Lay h) (hW : B67_7 t x2 x3 x4 h C) : xEk d 67 (7, [(0, .ref t), (2, .int x2), (3, .int x3), (4, .int x4)], [], h.X) (qostI h C) := by
  refine hW (fun s => xEk d 67 (7, [(0, .ref t), (2, .int (s.1)), (3, .int (s.2.1)), (4, .int (s.2.2))], [], (TH.X (h))) (qostI h C)) ?_
  rintro ⟨x2, x3, x4⟩ hW 
  have k7 : ∀ s : Int32 × Int32 × Int32, (fun s => xEk d 67 (7, [(0, .ref t), (2, .int (s.1)), (3, .int (s.2.1)), (4, .int (s.2.2))], [], (TH.X (h))) (qostI h C)) s → xEk d 67 (7, [(0, .ref t), (2, .int (s.1)), (3, .int (s.2.1)), (4, .int (s.2.2))], [], (TH.X (h))) (qostI h C) := fun s hs => hs
  unfold F67_7 at hW
  dsimp only at hW
  iterate 2 (refine kst rfl rfl ?_)
  refine wcm_gt rfl hW (fun hW => ?_) (fun hW => ?_)
  · refine kst rfl rfl ?_
    refine kre rfl rfl ?_
    exact ⟨_, rfl, hW⟩
  · iterate 2 (refine kst rfl rfl ?_)
    refine wcm_eq rfl hW (fun hW => ?_) (fun hW => ?_)
    · refine kst rfl rfl ?_
      refine kre rfl rfl ?_
      exact ⟨_, rfl, hW⟩
    · iterate 3 (refine kst rfl rfl ?_)
      refine wgetI rfl (oK3 hL ht) rfl ?_
      iterate 3 (refine kst rfl rfl ?_)
      refine wjp ?_ (R67_29 (h := h) k7 ht hL hW)
      exact ⟨rfl, rfl, rfl, rfl, rfl, trivial⟩
theorem R67 {d : Nat} {t : Nat} {a1 : Int32} {h : TH} {C : Int32 → Prop} (ht : is3 t) (hL : Lay h) (hW : W67 t a1 h C) : xPk d 67 [.ref t, .int a1] h.X (qostI h C) := by
  unfold W67 at hW
  refine kin (Nat.le_of_ble_eq_true rfl) ?_
  iterate 6 (refine kst rfl rfl ?_)
  refine wjp ?_ (R67_7 (h := h) ht hL hW)
  exact ⟨rfl, rfl, rfl, rfl, trivial⟩
/-- 68: Menu workOnce -/
def F68_11 (t : Nat) (x2 : Int32) (h : TH) (C : Int32 → Prop) (X11 : Int32 × Int32 → Prop) : Int32 × Int32 → Prop := fun
  | (x3, x4) =>
    if (h.I t 1) ≤ x4 then (C x3) else (if (x2 &&& (ishl 1 x4)) = 0 then (X11 (x3, (x4 + 1))) else (W62 t x4 h (fun v2 => if v2 = 0 then (X11 (x3, (x4 + 1))) else (inb x4 12 ∧ X11 ((x3 + (h.I (t + 11) (ix x4))), (x4 + 1))))))
def B68_11 (t : Nat) (x2 : Int32) (x3 : Int32) (x4 : Int32) (h : TH) (C : Int32 → Prop) : Prop := LFP (F68_11 t x2 h C) (x3, x4)
def W68 (t : Nat) (a1 : Int32) (h : TH) (C : Int32 → Prop) : Prop :=
  W67 t a1 h (fun v1 => B68_11 t v1 0 0 h C)

theorem R68_11 {d : Nat} {t : Nat} {x2 : Int32} {x3 : Int32} {x4 : Int32} {h : TH} {C : Int32 → Prop} (ht : is3 t) (hL : Lay h) (hW : B68_11 t x2 x3 x4 h C) : xEk (d + 1) 68 (11, [(0, .ref t), (2, .int x2), (3, .int x3), (4, .int x4)], [], h.X) (qostI h C) := by
  refine hW (fun s => xEk (d + 1) 68 (11, [(0, .ref t), (2, .int x2), (3, .int (s.1)), (4, .int (s.2))], [], (TH.X (h))) (qostI h C)) ?_
  rintro ⟨x3, x4⟩ hW 
  have k11 : ∀ s : Int32 × Int32, (fun s => xEk (d + 1) 68 (11, [(0, .ref t), (2, .int x2), (3, .int (s.1)), (4, .int (s.2))], [], (TH.X (h))) (qostI h C)) s → xEk (d + 1) 68 (11, [(0, .ref t), (2, .int x2), (3, .int (s.1)), (4, .int (s.2))], [], (TH.X (h))) (qostI h C) := fun s hs => hs
  unfold F68_11 at hW
  dsimp only at hW
  iterate 2 (refine kst rfl rfl ?_)
  refine wgetI rfl (oK3 hL ht) rfl ?_
  refine wcm_ge rfl hW (fun hW => ?_) (fun hW => ?_)
  · refine kst rfl rfl ?_
    refine kre rfl rfl ?_
    exact ⟨_, rfl, hW⟩
  · iterate 5 (refine kst rfl rfl ?_)
    refine wif_eq rfl hW (fun hW => ?_) (fun hW => ?_)
    · iterate 2 (refine kst rfl rfl ?_)
      have z9 := k11 (x3, (x4 + 1)) hW
      refine wjp ?_ z9
      exact ⟨rfl, rfl, rfl, rfl, trivial⟩
    · iterate 2 (refine kst rfl rfl ?_)
      refine qcvI rfl (oK3 hL ht) rfl rfl (R62 (d := d + 0) (h := h) ht hL hW) (fun v2 hW => ?_)
      refine wif_eq rfl hW (fun hW => ?_) (fun hW => ?_)
      · iterate 2 (refine kst rfl rfl ?_)
        have z9 := k11 (x3, (x4 + 1)) hW
        refine wjp ?_ z9
        exact ⟨rfl, rfl, rfl, rfl, trivial⟩
      · iterate 2 (refine kst rfl rfl ?_)
        refine wgetP (b := (t + 11)) rfl (oK3 hL ht) rfl (oP3_15 hL ht) ?_
        refine kst rfl rfl ?_
        obtain ⟨q1, hW⟩ := hW
        refine wald rfl (Or.inl (aK3_15 hL ht)) (aN3_15 hL ht) (by decide) q1 ?_
        iterate 4 (refine kst rfl rfl ?_)
        have z9 := k11 ((x3 + (h.I (t + 11) (ix x4))), (x4 + 1)) hW
        refine wjp ?_ z9
        exact ⟨rfl, rfl, rfl, rfl, trivial⟩
theorem R68 {d : Nat} {t : Nat} {a1 : Int32} {h : TH} {C : Int32 → Prop} (ht : is3 t) (hL : Lay h) (hW : W68 t a1 h C) : xPk (d + 1) 68 [.ref t, .int a1] h.X (qostI h C) := by
  unfold W68 at hW
  refine kin (Nat.le_of_ble_eq_true rfl) ?_
  iterate 2 (refine kst rfl rfl ?_)
  refine qcvI rfl (oK3 hL ht) rfl rfl (R67 (d := d + 0) (h := h) ht hL hW) (fun v1 hW => ?_)
  iterate 5 (refine kst rfl rfl ?_)
  refine wjp ?_ (R68_11 (h := h) ht hL hW)
  exact ⟨rfl, rfl, rfl, rfl, trivial⟩
/-- 70: Menu ownBound -/
def W70 (t : Nat) (a1 : Int32) (h : TH) (C : Int32 → Prop) : Prop :=
  inb a1 12 ∧ W327 (h.I (t + 6) (ix a1)) h (fun v1 => W60 t a1 h (fun v2 => if v2 = 0 then (C (v1 + 1)) else (C (v1 + 0))))

theorem R70 {d : Nat} {t : Nat} {a1 : Int32} {h : TH} {C : Int32 → Prop} (ht : is3 t) (hL : Lay h) (hW : W70 t a1 h C) : xPk (d + 1) 70 [.ref t, .int a1] h.X (qostI h C) := by
  unfold W70 at hW
  refine kin (Nat.le_of_ble_eq_true rfl) ?_
  refine kst rfl rfl ?_
  refine wgetP (b := (t + 6)) rfl (oK3 hL ht) rfl (oP3_10 hL ht) ?_
  refine kst rfl rfl ?_
  obtain ⟨q1, hW⟩ := hW
  refine wald rfl (Or.inl (aK3_10 hL ht)) (aN3_10 hL ht) (by decide) q1 ?_
  refine qcaI rfl rfl (R327 (d := d + 0) (h := h) hL hW) (fun v1 hW => ?_)
  iterate 2 (refine kst rfl rfl ?_)
  refine qcvI rfl (oK3 hL ht) rfl rfl (R60 (d := d + 0) (h := h) ht hL hW) (fun v2 hW => ?_)
  refine wif_eq rfl hW (fun hW => ?_) (fun hW => ?_)
  · iterate 2 (refine kst rfl rfl ?_)
    refine kre rfl rfl ?_
    exact ⟨_, rfl, hW⟩
  · iterate 3 (refine kst rfl rfl ?_)
    refine kre rfl rfl ?_
    exact ⟨_, rfl, hW⟩
/-- 69: Menu leastBound -/
def F69_14 (t : Nat) (x2 : Int32) (h : TH) (C : Int32 → Prop) (X14 : Int32 × Int32 → Prop) : Int32 × Int32 → Prop := fun
  | (x3, x4) =>
    if (h.I t 1) ≤ x4 then (C x3) else (if (x2 &&& (ishl 1 x4)) = 0 then (X14 (x3, (x4 + 1))) else (W70 t x4 h (fun v3 => X14 ((imax x3 v3), (x4 + 1)))))
def B69_14 (t : Nat) (x2 : Int32) (x3 : Int32) (x4 : Int32) (h : TH) (C : Int32 → Prop) : Prop := LFP (F69_14 t x2 h C) (x3, x4)
def W69 (t : Nat) (a1 : Int32) (h : TH) (C : Int32 → Prop) : Prop :=
  W67 t a1 h (fun v1 => W327 a1 h (fun v2 => B69_14 t v1 v2 0 h C))

theorem R69_14 {d : Nat} {t : Nat} {x2 : Int32} {x3 : Int32} {x4 : Int32} {h : TH} {C : Int32 → Prop} (ht : is3 t) (hL : Lay h) (hW : B69_14 t x2 x3 x4 h C) : xEk (d + 2) 69 (14, [(0, .ref t), (2, .int x2), (3, .int x3), (4, .int x4)], [], h.X) (qostI h C) := by
  refine hW (fun s => xEk (d + 2) 69 (14, [(0, .ref t), (2, .int x2), (3, .int (s.1)), (4, .int (s.2))], [], (TH.X (h))) (qostI h C)) ?_
  rintro ⟨x3, x4⟩ hW 
  have k14 : ∀ s : Int32 × Int32, (fun s => xEk (d + 2) 69 (14, [(0, .ref t), (2, .int x2), (3, .int (s.1)), (4, .int (s.2))], [], (TH.X (h))) (qostI h C)) s → xEk (d + 2) 69 (14, [(0, .ref t), (2, .int x2), (3, .int (s.1)), (4, .int (s.2))], [], (TH.X (h))) (qostI h C) := fun s hs => hs
  unfold F69_14 at hW
  dsimp only at hW
  iterate 2 (refine kst rfl rfl ?_)
  refine wgetI rfl (oK3 hL ht) rfl ?_
  refine wcm_ge rfl hW (fun hW => ?_) (fun hW => ?_)
  · refine kst rfl rfl ?_
    refine kre rfl rfl ?_
    exact ⟨_, rfl, hW⟩
  · iterate 5 (refine kst rfl rfl ?_)
    refine wif_eq rfl hW (fun hW => ?_) (fun hW => ?_)
    · iterate 2 (refine kst rfl rfl ?_)
      have z9 := k14 (x3, (x4 + 1)) hW
      refine wjp ?_ z9
      exact ⟨rfl, rfl, rfl, rfl, trivial⟩
    · iterate 3 (refine kst rfl rfl ?_)
      refine qcvI rfl (oK3 hL ht) rfl rfl (R70 (d := d + 0) (h := h) ht hL hW) (fun v3 hW => ?_)
      iterate 4 (refine kst rfl rfl ?_)
      have z9 := k14 ((imax x3 v3), (x4 + 1)) hW
      refine wjp ?_ z9
      exact ⟨rfl, rfl, rfl, rfl, trivial⟩
theorem R69 {d : Nat} {t : Nat} {a1 : Int32} {h : TH} {C : Int32 → Prop} (ht : is3 t) (hL : Lay h) (hW : W69 t a1 h C) : xPk (d + 2) 69 [.ref t, .int a1] h.X (qostI h C) := by
  unfold W69 at hW
  refine kin (Nat.le_of_ble_eq_true rfl) ?_
  iterate 2 (refine kst rfl rfl ?_)
  refine qcvI rfl (oK3 hL ht) rfl rfl (R67 (d := d + 1) (h := h) ht hL hW) (fun v1 hW => ?_)
  iterate 2 (refine kst rfl rfl ?_)
  refine qcaI rfl rfl (R327 (d := d + 1) (h := h) hL hW) (fun v2 hW => ?_)
  iterate 3 (refine kst rfl rfl ?_)
  refine wjp ?_ (R69_14 (h := h) ht hL hW)
  exact ⟨rfl, rfl, rfl, rfl, trivial⟩
/-- 72: Menu isTree -/
def F72_4 (t : Nat) (a1 : Int32) (h : TH) (C : Int32 → Prop) (X4 : Int32 × Int32 → Prop) : Int32 × Int32 → Prop := fun
  | (x2, x3) =>
    if (h.I t 1) ≤ x3 then (if ¬ (a1 &&& (h.I t 4)) = 0 then (C 0) else (C 1)) else (if (a1 &&& (ishl 1 x3)) = 0 then (X4 (x2, (x3 + 1))) else (W61 t x3 h (fun v1 => if v1 = 0 then (C 0) else (inb x3 12 ∧ if (x2 &&& (h.I (t + 6) (ix x3))) = 0 then (inb x3 12 ∧ X4 ((x2 ||| (h.I (t + 6) (ix x3))), (x3 + 1))) else (C 0)))))
def B72_4 (t : Nat) (a1 : Int32) (x2 : Int32) (x3 : Int32) (h : TH) (C : Int32 → Prop) : Prop := LFP (F72_4 t a1 h C) (x2, x3)
def W72 (t : Nat) (a1 : Int32) (h : TH) (C : Int32 → Prop) : Prop :=
  B72_4 t a1 0 0 h C

theorem R72_4 {d : Nat} {t : Nat} {a1 : Int32} {x2 : Int32} {x3 : Int32} {h : TH} {C : Int32 → Prop} (ht : is3 t) (hL : Lay h) (hW : B72_4 t a1 x2 x3 h C) : xEk (d + 1) 72 (4, [(0, .ref t), (1, .int a1), (2, .int x2), (3, .int x3)], [], h.X) (qostI h C) := by
  refine hW (fun s => xEk (d + 1) 72 (4, [(0, .ref t), (1, .int a1), (2, .int (s.1)), (3, .int (s.2))], [], (TH.X (h))) (qostI h C)) ?_
  rintro ⟨x2, x3⟩ hW 
  have k4 : ∀ s : Int32 × Int32, (fun s => xEk (d + 1) 72 (4, [(0, .ref t), (1, .int a1), (2, .int (s.1)), (3, .int (s.2))], [], (TH.X (h))) (qostI h C)) s → xEk (d + 1) 72 (4, [(0, .ref t), (1, .int a1), (2, .int (s.1)), (3, .int (s.2))], [], (TH.X (h))) (qostI h C) := fun s hs => hs
  unfold F72_4 at hW
  dsimp only at hW
  iterate 2 (refine kst rfl rfl ?_)
  refine wgetI rfl (oK3 hL ht) rfl ?_
  refine wcm_ge rfl hW (fun hW => ?_) (fun hW => ?_)
  · iterate 2 (refine kst rfl rfl ?_)
    refine wgetI rfl (oK3 hL ht) rfl ?_
    refine kst rfl rfl ?_
    refine wif_ne rfl hW (fun hW => ?_) (fun hW => ?_)
    · refine kst rfl rfl ?_
      refine kre rfl rfl ?_
      exact ⟨_, rfl, hW⟩
    · iterate 2 (refine kst rfl rfl ?_)
      refine kre rfl rfl ?_
      exact ⟨_, rfl, hW⟩
  · iterate 5 (refine kst rfl rfl ?_)
    refine wif_eq rfl hW (fun hW => ?_) (fun hW => ?_)
    · iterate 2 (refine kst rfl rfl ?_)
      have z9 := k4 (x2, (x3 + 1)) hW
      refine wjp ?_ z9
      exact ⟨rfl, rfl, rfl, rfl, trivial⟩
    · iterate 2 (refine kst rfl rfl ?_)
      refine qcvI rfl (oK3 hL ht) rfl rfl (R61 (d := d + 0) (h := h) ht hL hW) (fun v1 hW => ?_)
      refine wif_eq rfl hW (fun hW => ?_) (fun hW => ?_)
      · refine kst rfl rfl ?_
        refine kre rfl rfl ?_
        exact ⟨_, rfl, hW⟩
      · iterate 2 (refine kst rfl rfl ?_)
        refine wgetP (b := (t + 6)) rfl (oK3 hL ht) rfl (oP3_10 hL ht) ?_
        refine kst rfl rfl ?_
        obtain ⟨q1, hW⟩ := hW
        refine wald rfl (Or.inl (aK3_10 hL ht)) (aN3_10 hL ht) (by decide) q1 ?_
        refine kst rfl rfl ?_
        refine wif_eq rfl hW (fun hW => ?_) (fun hW => ?_)
        · iterate 2 (refine kst rfl rfl ?_)
          refine wgetP (b := (t + 6)) rfl (oK3 hL ht) rfl (oP3_10 hL ht) ?_
          refine kst rfl rfl ?_
          obtain ⟨q2, hW⟩ := hW
          refine wald rfl (Or.inl (aK3_10 hL ht)) (aN3_10 hL ht) (by decide) q2 ?_
          iterate 4 (refine kst rfl rfl ?_)
          have z9 := k4 ((x2 ||| (h.I (t + 6) (ix x3))), (x3 + 1)) hW
          refine wjp ?_ z9
          exact ⟨rfl, rfl, rfl, rfl, trivial⟩
        · refine kst rfl rfl ?_
          refine kre rfl rfl ?_
          exact ⟨_, rfl, hW⟩
theorem R72 {d : Nat} {t : Nat} {a1 : Int32} {h : TH} {C : Int32 → Prop} (ht : is3 t) (hL : Lay h) (hW : W72 t a1 h C) : xPk (d + 1) 72 [.ref t, .int a1] h.X (qostI h C) := by
  unfold W72 at hW
  refine kin (Nat.le_of_ble_eq_true rfl) ?_
  iterate 4 (refine kst rfl rfl ?_)
  refine wjp ?_ (R72_4 (h := h) ht hL hW)
  exact ⟨rfl, rfl, rfl, rfl, trivial⟩
/-- 326: java/lang/Integer numberOfTrailingZeros -/
def B326_62 (x0 : Int32) (x1 : Int32) (h : TH) (C : Int32 → Prop) : Prop :=
  if x0 ≤ 4 then (C (x1 + (iushr x0 1))) else (C ((x1 + 2) + (iushr (iushr x0 2) 1)))
def B326_49 (x0 : Int32) (x1 : Int32) (h : TH) (C : Int32 → Prop) : Prop :=
  if x0 ≤ 16 then (B326_62 x0 x1 h C) else (B326_62 (iushr x0 4) (x1 + 4) h C)
def B326_34 (x0 : Int32) (x1 : Int32) (h : TH) (C : Int32 → Prop) : Prop :=
  if x0 ≤ 256 then (B326_49 x0 x1 h C) else (B326_49 (iushr x0 8) (x1 + 8) h C)
def W326 (a1 : Int32) (h : TH) (C : Int32 → Prop) : Prop :=
  if 0 < ((a1 ^^^ (-1)) &&& (a1 - 1)) then (if ((a1 ^^^ (-1)) &&& (a1 - 1)) ≤ 65536 then (B326_34 ((a1 ^^^ (-1)) &&& (a1 - 1)) 1 h C) else (B326_34 (iushr ((a1 ^^^ (-1)) &&& (a1 - 1)) 16) 17 h C)) else (C (((a1 ^^^ (-1)) &&& (a1 - 1)) &&& 32))

theorem R326_62 {d : Nat} {x0 : Int32} {x1 : Int32} {h : TH} {C : Int32 → Prop} (hL : Lay h) (hW : B326_62 x0 x1 h C) : xEk d 326 (62, [(0, .int x0), (1, .int x1)], [], h.X) (qostI h C) := by
  unfold B326_62 at hW
  iterate 2 (refine kst rfl rfl ?_)
  refine wcm_le rfl hW (fun hW => ?_) (fun hW => ?_)
  · iterate 5 (refine kst rfl rfl ?_)
    refine kre rfl rfl ?_
    exact ⟨_, rfl, hW⟩
  · iterate 10 (refine kst rfl rfl ?_)
    refine kre rfl rfl ?_
    exact ⟨_, rfl, hW⟩
theorem R326_49 {d : Nat} {x0 : Int32} {x1 : Int32} {h : TH} {C : Int32 → Prop} (hL : Lay h) (hW : B326_49 x0 x1 h C) : xEk d 326 (49, [(0, .int x0), (1, .int x1)], [], h.X) (qostI h C) := by
  unfold B326_49 at hW
  iterate 2 (refine kst rfl rfl ?_)
  refine wcm_le rfl hW (fun hW => ?_) (fun hW => ?_)
  · refine wjp ?_ (R326_62 (h := h) hL hW)
    exact ⟨rfl, rfl, trivial⟩
  · iterate 5 (refine kst rfl rfl ?_)
    refine wjp ?_ (R326_62 (h := h) hL hW)
    exact ⟨rfl, rfl, trivial⟩
theorem R326_34 {d : Nat} {x0 : Int32} {x1 : Int32} {h : TH} {C : Int32 → Prop} (hL : Lay h) (hW : B326_34 x0 x1 h C) : xEk d 326 (34, [(0, .int x0), (1, .int x1)], [], h.X) (qostI h C) := by
  unfold B326_34 at hW
  iterate 2 (refine kst rfl rfl ?_)
  refine wcm_le rfl hW (fun hW => ?_) (fun hW => ?_)
  · refine wjp ?_ (R326_49 (h := h) hL hW)
    exact ⟨rfl, rfl, trivial⟩
  · iterate 5 (refine kst rfl rfl ?_)
    refine wjp ?_ (R326_49 (h := h) hL hW)
    exact ⟨rfl, rfl, trivial⟩
theorem R326 {d : Nat} {a1 : Int32} {h : TH} {C : Int32 → Prop} (hL : Lay h) (hW : W326 a1 h C) : xPk d 326 [.int a1] h.X (qostI h C) := by
  unfold W326 at hW
  refine kin (Nat.le_of_ble_eq_true rfl) ?_
  iterate 9 (refine kst rfl rfl ?_)
  refine wif_gt rfl hW (fun hW => ?_) (fun hW => ?_)
  · iterate 4 (refine kst rfl rfl ?_)
    refine wcm_le rfl hW (fun hW => ?_) (fun hW => ?_)
    · refine wjp ?_ (R326_34 (h := h) hL hW)
      exact ⟨rfl, rfl, trivial⟩
    · iterate 5 (refine kst rfl rfl ?_)
      refine wjp ?_ (R326_34 (h := h) hL hW)
      exact ⟨rfl, rfl, trivial⟩
  · iterate 3 (refine kst rfl rfl ?_)
    refine kre rfl rfl ?_
    exact ⟨_, rfl, hW⟩
/-- 74: Menu greatestOf -/
def F74_10 (a1 : Int32) (a2 : Nat) (h : TH) (C : Int32 → Prop) (X10 : Int32 × Int32 → Prop) : Int32 × Int32 → Prop := fun
  | (x2, x3) =>
    if 12 ≤ x3 then (C x2) else (if (a1 &&& (ishl 1 x3)) = 0 then (X10 (x2, (x3 + 1))) else (okA h a2 100 x3 ∧ okA h a2 100 x2 ∧ if (h.I a2 (ix x3)) ≤ (h.I a2 (ix x2)) then (X10 (x2, (x3 + 1))) else (X10 (x3, (x3 + 1)))))
def B74_10 (a1 : Int32) (a2 : Nat) (x2 : Int32) (x3 : Int32) (h : TH) (C : Int32 → Prop) : Prop := LFP (F74_10 a1 a2 h C) (x2, x3)
def W74 (a1 : Int32) (a2 : Nat) (h : TH) (C : Int32 → Prop) : Prop :=
  W326 a1 h (fun v1 => B74_10 a1 a2 (irem v1 12) (irem v1 12) h C)

theorem R74_10 {d : Nat} {a1 : Int32} {a2 : Nat} {x2 : Int32} {x3 : Int32} {h : TH} {C : Int32 → Prop} (hL : Lay h) (hW : B74_10 a1 a2 x2 x3 h C) : xEk (d + 1) 74 (10, [(0, .int a1), (1, .ref a2), (2, .int x2), (3, .int x3)], [], h.X) (qostI h C) := by
  refine hW (fun s => xEk (d + 1) 74 (10, [(0, .int a1), (1, .ref a2), (2, .int (s.1)), (3, .int (s.2))], [], (TH.X (h))) (qostI h C)) ?_
  rintro ⟨x2, x3⟩ hW 
  have k10 : ∀ s : Int32 × Int32, (fun s => xEk (d + 1) 74 (10, [(0, .int a1), (1, .ref a2), (2, .int (s.1)), (3, .int (s.2))], [], (TH.X (h))) (qostI h C)) s → xEk (d + 1) 74 (10, [(0, .int a1), (1, .ref a2), (2, .int (s.1)), (3, .int (s.2))], [], (TH.X (h))) (qostI h C) := fun s hs => hs
  unfold F74_10 at hW
  dsimp only at hW
  iterate 2 (refine kst rfl rfl ?_)
  refine wcm_ge rfl hW (fun hW => ?_) (fun hW => ?_)
  · refine kst rfl rfl ?_
    refine kre rfl rfl ?_
    exact ⟨_, rfl, hW⟩
  · iterate 5 (refine kst rfl rfl ?_)
    refine wif_eq rfl hW (fun hW => ?_) (fun hW => ?_)
    · iterate 2 (refine kst rfl rfl ?_)
      have z9 := k10 (x2, (x3 + 1)) hW
      refine wjp ?_ z9
      exact ⟨rfl, rfl, rfl, rfl, trivial⟩
    · iterate 2 (refine kst rfl rfl ?_)
      obtain ⟨q1, hW⟩ := hW
      refine wald rfl (Or.inl q1.1) rfl q1.2.2 q1.2.1 ?_
      iterate 2 (refine kst rfl rfl ?_)
      obtain ⟨q2, hW⟩ := hW
      refine wald rfl (Or.inl q2.1) rfl q2.2.2 q2.2.1 ?_
      refine wcm_le rfl hW (fun hW => ?_) (fun hW => ?_)
      · iterate 2 (refine kst rfl rfl ?_)
        have z9 := k10 (x2, (x3 + 1)) hW
        refine wjp ?_ z9
        exact ⟨rfl, rfl, rfl, rfl, trivial⟩
      · iterate 4 (refine kst rfl rfl ?_)
        have z9 := k10 (x3, (x3 + 1)) hW
        refine wjp ?_ z9
        exact ⟨rfl, rfl, rfl, rfl, trivial⟩
theorem R74 {d : Nat} {a1 : Int32} {a2 : Nat} {h : TH} {C : Int32 → Prop} (hL : Lay h) (hW : W74 a1 a2 h C) : xPk (d + 1) 74 [.int a1, .ref a2] h.X (qostI h C) := by
  unfold W74 at hW
  refine kin (Nat.le_of_ble_eq_true rfl) ?_
  refine kst rfl rfl ?_
  refine qcaI rfl rfl (R326 (d := d + 0) (h := h) hL hW) (fun v1 hW => ?_)
  refine kst rfl rfl ?_
  refine wrem rfl (by decide) ?_
  iterate 3 (refine kst rfl rfl ?_)
  refine wjp ?_ (R74_10 (h := h) hL hW)
  exact ⟨rfl, rfl, rfl, rfl, trivial⟩
/-- 73: Menu numberAbove -/
def F73_17 (a2 : Nat) (h : TH) (C : Int32 → Prop) (X17 : Int32 × Int32 × Int32 → Prop) : Int32 × Int32 × Int32 → Prop := fun
  | (x3, x4, x5) =>
    if 12 ≤ x5 then (C x3) else (if x4 = 0 then (C x3) else (W74 x4 a2 h (fun v2 => okA h a2 100 v2 ∧ X17 ((imax x3 ((h.I a2 (ix v2)) + x5)), (x4 &&& ((ishl 1 v2) ^^^ (-1))), (x5 + 1)))))
def B73_17 (a2 : Nat) (x3 : Int32) (x4 : Int32) (x5 : Int32) (h : TH) (C : Int32 → Prop) : Prop := LFP (F73_17 a2 h C) (x3, x4, x5)
def W73 (t : Nat) (a1 : Int32) (a2 : Nat) (h : TH) (C : Int32 → Prop) : Prop :=
  W70 t a1 h (fun v1 => inb a1 12 ∧ B73_17 a2 v1 (h.I (t + 6) (ix a1)) 0 h C)

theorem R73_17 {d : Nat} {a2 : Nat} {x3 : Int32} {x4 : Int32} {x5 : Int32} {h : TH} {C : Int32 → Prop} (hL : Lay h) (hW : B73_17 a2 x3 x4 x5 h C) : xEk (d + 2) 73 (17, [(2, .ref a2), (3, .int x3), (4, .int x4), (5, .int x5)], [], h.X) (qostI h C) := by
  refine hW (fun s => xEk (d + 2) 73 (17, [(2, .ref a2), (3, .int (s.1)), (4, .int (s.2.1)), (5, .int (s.2.2))], [], (TH.X (h))) (qostI h C)) ?_
  rintro ⟨x3, x4, x5⟩ hW 
  have k17 : ∀ s : Int32 × Int32 × Int32, (fun s => xEk (d + 2) 73 (17, [(2, .ref a2), (3, .int (s.1)), (4, .int (s.2.1)), (5, .int (s.2.2))], [], (TH.X (h))) (qostI h C)) s → xEk (d + 2) 73 (17, [(2, .ref a2), (3, .int (s.1)), (4, .int (s.2.1)), (5, .int (s.2.2))], [], (TH.X (h))) (qostI h C) := fun s hs => hs
  unfold F73_17 at hW
  dsimp only at hW
  iterate 2 (refine kst rfl rfl ?_)
  refine wcm_ge rfl hW (fun hW => ?_) (fun hW => ?_)
  · refine kst rfl rfl ?_
    refine kre rfl rfl ?_
    exact ⟨_, rfl, hW⟩
  · refine kst rfl rfl ?_
    refine wif_eq rfl hW (fun hW => ?_) (fun hW => ?_)
    · refine kst rfl rfl ?_
      refine kre rfl rfl ?_
      exact ⟨_, rfl, hW⟩
    · iterate 2 (refine kst rfl rfl ?_)
      refine qcaI rfl rfl (R74 (d := d + 0) (h := h) hL hW) (fun v2 hW => ?_)
      iterate 4 (refine kst rfl rfl ?_)
      obtain ⟨q2, hW⟩ := hW
      refine wald rfl (Or.inl q2.1) rfl q2.2.2 q2.2.1 ?_
      iterate 14 (refine kst rfl rfl ?_)
      have z9 := k17 ((imax x3 ((h.I a2 (ix v2)) + x5)), (x4 &&& ((ishl 1 v2) ^^^ (-1))), (x5 + 1)) hW
      refine wjp ?_ z9
      exact ⟨rfl, rfl, rfl, rfl, trivial⟩
theorem R73 {d : Nat} {t : Nat} {a1 : Int32} {a2 : Nat} {h : TH} {C : Int32 → Prop} (ht : is3 t) (hL : Lay h) (hW : W73 t a1 a2 h C) : xPk (d + 2) 73 [.ref t, .int a1, .ref a2] h.X (qostI h C) := by
  unfold W73 at hW
  refine kin (Nat.le_of_ble_eq_true rfl) ?_
  iterate 2 (refine kst rfl rfl ?_)
  refine qcvI rfl (oK3 hL ht) rfl rfl (R70 (d := d + 0) (h := h) ht hL hW) (fun v1 hW => ?_)
  iterate 2 (refine kst rfl rfl ?_)
  refine wgetP (b := (t + 6)) rfl (oK3 hL ht) rfl (oP3_10 hL ht) ?_
  refine kst rfl rfl ?_
  obtain ⟨q1, hW⟩ := hW
  refine wald rfl (Or.inl (aK3_10 hL ht)) (aN3_10 hL ht) (by decide) q1 ?_
  iterate 3 (refine kst rfl rfl ?_)
  refine wjp ?_ (R73_17 (h := h) hL hW)
  exact ⟨rfl, rfl, rfl, rfl, trivial⟩
/-- 71: Menu treeNumber -/
def F71_26 (t : Nat) (a1 : Int32) (x2 : Int32) (x3 : Nat) (C : Int32 → TH → Prop) (X26 : Int32 × TH → Prop) : Int32 × TH → Prop := fun
  | (x4, h) =>
    if a1 < x4 then (okA h x3 100 a1 ∧ C (h.I x3 (ix a1)) h) else (if (x2 &&& (ishl 1 x4)) = 0 then (X26 ((x4 + 1), h)) else (W73 t x4 x3 h (fun v3 => okA h x3 100 x4 ∧ X26 ((x4 + 1), (h.sI x3 (ix x4) v3)))))
def B71_26 (t : Nat) (a1 : Int32) (x2 : Int32) (x3 : Nat) (x4 : Int32) (h : TH) (C : Int32 → TH → Prop) : Prop := LFP (F71_26 t a1 x2 x3 C) (x4, h)
def W71 (t : Nat) (a1 : Int32) (h : TH) (C : Int32 → TH → Prop) : Prop :=
  W67 t (ishl 1 a1) h (fun v1 => W72 t v1 h (fun v2 => if ¬ v2 = 0 then (h.n < 1000000 ∧ B71_26 t a1 v1 h.n 0 (h.new 100 (ix 12) (ix 12)) C) else (C (-1) h)))

theorem R71_26 {d : Nat} {t : Nat} {a1 : Int32} {x2 : Int32} {x3 : Nat} {x4 : Int32} {h : TH} {C : Int32 → TH → Prop} (ht : is3 t) (hL : Lay h) (hW : B71_26 t a1 x2 x3 x4 h C) : xEk (d + 3) 71 (26, [(0, .ref t), (1, .int a1), (2, .int x2), (3, .ref x3), (4, .int x4)], [], h.X) (postI C) := by
  refine hW (fun s => Lay (s.2) → xEk (d + 3) 71 (26, [(0, .ref t), (1, .int a1), (2, .int x2), (3, .ref x3), (4, .int (s.1))], [], (TH.X (s.2))) (postI C)) ?_ hL
  rintro ⟨x4, h⟩ hW hL
  have k26 : ∀ s : Int32 × TH, (fun s => Lay (s.2) → xEk (d + 3) 71 (26, [(0, .ref t), (1, .int a1), (2, .int x2), (3, .ref x3), (4, .int (s.1))], [], (TH.X (s.2))) (postI C)) s → Lay (s.2) → xEk (d + 3) 71 (26, [(0, .ref t), (1, .int a1), (2, .int x2), (3, .ref x3), (4, .int (s.1))], [], (TH.X (s.2))) (postI C) := fun s hs => hs
  unfold F71_26 at hW
  dsimp only at hW
  iterate 2 (refine kst rfl rfl ?_)
  refine wcm_gt rfl hW (fun hW => ?_) (fun hW => ?_)
  · iterate 2 (refine kst rfl rfl ?_)
    obtain ⟨q2, hW⟩ := hW
    refine wald rfl (Or.inl q2.1) rfl q2.2.2 q2.2.1 ?_
    refine kre rfl rfl ?_
    exact ⟨_, _, rfl, hL, hW⟩
  · iterate 5 (refine kst rfl rfl ?_)
    refine wif_eq rfl hW (fun hW => ?_) (fun hW => ?_)
    · iterate 2 (refine kst rfl rfl ?_)
      have z9 := k26 ((x4 + 1), h) hW hL
      refine wjp ?_ z9
      exact ⟨rfl, rfl, rfl, rfl, rfl, trivial⟩
    · iterate 5 (refine kst rfl rfl ?_)
      refine qcvI rfl (oK3 hL ht) rfl rfl (R73 (d := d + 0) (h := h) ht hL hW) (fun v3 hW => ?_)
      obtain ⟨q2, hW⟩ := hW
      refine wast rfl q2.1 rfl q2.2.2 q2.2.1 ?_
      replace hL : Lay (h.sI x3 (ix x4) v3) := lsI hL
      iterate 2 (refine kst rfl rfl ?_)
      have z9 := k26 ((x4 + 1), (h.sI x3 (ix x4) v3)) hW hL
      refine wjp ?_ z9
      exact ⟨rfl, rfl, rfl, rfl, rfl, trivial⟩
theorem R71 {d : Nat} {t : Nat} {a1 : Int32} {h : TH} {C : Int32 → TH → Prop} (ht : is3 t) (hL : Lay h) (hW : W71 t a1 h C) : xPk (d + 3) 71 [.ref t, .int a1] h.X (postI C) := by
  unfold W71 at hW
  refine kin (Nat.le_of_ble_eq_true rfl) ?_
  iterate 4 (refine kst rfl rfl ?_)
  refine qcvI rfl (oK3 hL ht) rfl rfl (R67 (d := d + 2) (h := h) ht hL hW) (fun v1 hW => ?_)
  iterate 3 (refine kst rfl rfl ?_)
  refine qcvI rfl (oK3 hL ht) rfl rfl (R72 (d := d + 1) (h := h) ht hL hW) (fun v2 hW => ?_)
  refine wif_ne rfl hW (fun hW => ?_) (fun hW => ?_)
  · refine kst rfl rfl ?_
    obtain ⟨q1, hW⟩ := hW
    refine wnewA rfl (by decide) ⟨by decide, by decide⟩ ?_
    replace hL := lnew hL (k := 100) (l := (ix 12)) (m := (ix 12)) q1
    iterate 3 (refine kst rfl rfl ?_)
    refine wjp ?_ (R71_26 (h := (h.new 100 (ix 12) (ix 12))) ht hL hW)
    exact ⟨rfl, rfl, rfl, rfl, rfl, trivial⟩
  · refine kst rfl rfl ?_
    refine kre rfl rfl ?_
    exact ⟨_, _, rfl, hL, hW⟩
/-- 127: Text skipBlanks -/
def B127_35 (x1 : Int32) (h : TH) (C : TH → Prop) (X5 : Int32 × TH → Prop) : Prop :=
  X5 ((x1 + 1), (h.sI 9 7 (x1 + 1)))
def F127_5 (C : TH → Prop) (X5 : Int32 × TH → Prop) : Int32 × TH → Prop := fun
  | (x1, h) =>
    if (h.I 9 6) ≤ x1 then (C h) else (inb x1 900 ∧ if (h.I 10 (ix x1)) = 10 then (B127_35 x1 h C X5) else (inb x1 900 ∧ if ¬ (h.I 10 (ix x1)) = 32 then (C h) else (B127_35 x1 h C X5)))
def B127_5 (x1 : Int32) (h : TH) (C : TH → Prop) : Prop := LFP (F127_5 C) (x1, h)
def W127 (h : TH) (C : TH → Prop) : Prop :=
  B127_5 (h.I 9 7) h C

theorem R127_35 {d : Nat} {x1 : Int32} {h : TH} {C : TH → Prop} {X5 : Int32 × TH → Prop} (k5 : ∀ s : Int32 × TH, X5 s → Lay (s.2) → xEk d 127 (5, [(0, .ref 9), (1, .int (s.1))], [], (TH.X (s.2))) (postV C)) (hL : Lay h) (hW : B127_35 x1 h C X5) : xEk d 127 (35, [(0, .ref 9), (1, .int x1)], [], h.X) (postV C) := by
  unfold B127_35 at hW
  iterate 4 (refine kst rfl rfl ?_)
  refine wputI rfl (oK9 hL rfl) rfl ?_
  replace hL : Lay (h.sI 9 7 (x1 + 1)) := lsI hL
  iterate 2 (refine kst rfl rfl ?_)
  have z9 := k5 ((x1 + 1), (h.sI 9 7 (x1 + 1))) hW hL
  refine wjp ?_ z9
  exact ⟨rfl, rfl, trivial⟩
theorem R127_5 {d : Nat} {x1 : Int32} {h : TH} {C : TH → Prop} (hL : Lay h) (hW : B127_5 x1 h C) : xEk d 127 (5, [(0, .ref 9), (1, .int x1)], [], h.X) (postV C) := by
  refine hW (fun s => Lay (s.2) → xEk d 127 (5, [(0, .ref 9), (1, .int (s.1))], [], (TH.X (s.2))) (postV C)) ?_ hL
  rintro ⟨x1, h⟩ hW hL
  have k5 : ∀ s : Int32 × TH, (fun s => Lay (s.2) → xEk d 127 (5, [(0, .ref 9), (1, .int (s.1))], [], (TH.X (s.2))) (postV C)) s → Lay (s.2) → xEk d 127 (5, [(0, .ref 9), (1, .int (s.1))], [], (TH.X (s.2))) (postV C) := fun s hs => hs
  unfold F127_5 at hW
  dsimp only at hW
  iterate 2 (refine kst rfl rfl ?_)
  refine wgetI rfl (oK9 hL rfl) rfl ?_
  refine wcm_ge rfl hW (fun hW => ?_) (fun hW => ?_)
  · refine kre rfl rfl ?_
    exact ⟨_, rfl, hL, hW⟩
  · refine kst rfl rfl ?_
    refine wgetP (b := 10) rfl (oK9 hL rfl) rfl (oP9_0 hL) ?_
    refine kst rfl rfl ?_
    obtain ⟨q1, hW⟩ := hW
    refine wald rfl (Or.inl (aK9_0 hL)) (aN9_0 hL) (by decide) q1 ?_
    refine kst rfl rfl ?_
    refine wcm_eq rfl hW (fun hW => ?_) (fun hW => ?_)
    · refine wjp ?_ (R127_35 (h := h) k5 hL hW)
      exact ⟨rfl, rfl, trivial⟩
    · refine kst rfl rfl ?_
      refine wgetP (b := 10) rfl (oK9 hL rfl) rfl (oP9_0 hL) ?_
      refine kst rfl rfl ?_
      obtain ⟨q2, hW⟩ := hW
      refine wald rfl (Or.inl (aK9_0 hL)) (aN9_0 hL) (by decide) q2 ?_
      refine kst rfl rfl ?_
      refine wcm_ne rfl hW (fun hW => ?_) (fun hW => ?_)
      · refine kre rfl rfl ?_
        exact ⟨_, rfl, hL, hW⟩
      · refine wjp ?_ (R127_35 (h := h) k5 hL hW)
        exact ⟨rfl, rfl, trivial⟩
theorem R127 {d : Nat} {h : TH} {C : TH → Prop} (hL : Lay h) (hW : W127  h C) : xPk d 127 [.ref 9] h.X (postV C) := by
  unfold W127 at hW
  refine kin (Nat.le_of_ble_eq_true rfl) ?_
  refine kst rfl rfl ?_
  refine wgetI rfl (oK9 hL rfl) rfl ?_
  refine kst rfl rfl ?_
  refine wjp ?_ (R127_5 (h := h) hL hW)
  exact ⟨rfl, rfl, trivial⟩
/-- 129: Text isLetter -/
def W129 (a1 : Int32) (h : TH) (C : Int32 → Prop) : Prop :=
  if a1 < 97 then (C 0) else (if 122 < a1 then (C 0) else (C 1))

theorem R129 {d : Nat} {a1 : Int32} {h : TH} {C : Int32 → Prop} (hL : Lay h) (hW : W129 a1 h C) : xPk d 129 [.int a1] h.X (qostI h C) := by
  unfold W129 at hW
  refine kin (Nat.le_of_ble_eq_true rfl) ?_
  iterate 2 (refine kst rfl rfl ?_)
  refine wcm_lt rfl hW (fun hW => ?_) (fun hW => ?_)
  · refine kst rfl rfl ?_
    refine kre rfl rfl ?_
    exact ⟨_, rfl, hW⟩
  · iterate 2 (refine kst rfl rfl ?_)
    refine wcm_gt rfl hW (fun hW => ?_) (fun hW => ?_)
    · refine kst rfl rfl ?_
      refine kre rfl rfl ?_
      exact ⟨_, rfl, hW⟩
    · iterate 2 (refine kst rfl rfl ?_)
      refine kre rfl rfl ?_
      exact ⟨_, rfl, hW⟩
/-- 122: Text withLetter -/
def W122 (a1 : Int64) (a2 : Int32) (h : TH) (C : Int64 → Prop) : Prop :=
  C ((a1 * 32) + (((a2 - 97) + 1)).toInt64)

theorem R122 {d : Nat} {a1 : Int64} {a2 : Int32} {h : TH} {C : Int64 → Prop} (hL : Lay h) (hW : W122 a1 a2 h C) : xPk d 122 [.long a1, .int a2] h.X (qostL h C) := by
  unfold W122 at hW
  refine kin (Nat.le_of_ble_eq_true rfl) ?_
  iterate 10 (refine kst rfl rfl ?_)
  refine kre rfl rfl ?_
  exact ⟨_, rfl, hW⟩
/-- 131: Text cutWord -/
def F131_85 (x2 : Int64) (C : Int32 → TH → Prop) (X85 : Int32 × TH → Prop) : Int32 × TH → Prop := fun
  | (x4, h) =>
    if 23 ≤ x4 then (C 30 h) else (inb x4 23 ∧ if ¬ (lg_cmp (h.J 11 (ix x4)) x2) = 0 then (X85 ((x4 + 1), h)) else (C x4 h))
def B131_85 (x2 : Int64) (x4 : Int32) (h : TH) (C : Int32 → TH → Prop) : Prop := LFP (F131_85 x2 C) (x4, h)
def B131_56 (a1 : Int32) (x2 : Int64) (h : TH) (C : Int32 → TH → Prop) : Prop :=
  inb a1 901 ∧ inb a1 901 ∧ if (((h.sJ 14 (ix a1) x2).I 9 7) - ((h.sJ 14 (ix a1) x2).I 13 (ix a1))) ≤ 8 then (B131_85 x2 0 (h.sJ 14 (ix a1) x2) C) else (C 31 (h.sJ 14 (ix a1) x2))
def F131_8 (a1 : Int32) (C : Int32 → TH → Prop) (X8 : Int64 × Int32 × TH → Prop) : Int64 × Int32 × TH → Prop := fun
  | (x2, x4, h) =>
    if (h.I 9 6) ≤ x4 then (B131_56 a1 x2 h C) else (inb x4 900 ∧ W129 (h.I 10 (ix x4)) h (fun v1 => if v1 = 0 then (B131_56 a1 x2 h C) else (inb x4 900 ∧ W122 x2 (h.I 10 (ix x4)) h (fun v2 => X8 (v2, (x4 + 1), (h.sI 9 7 (x4 + 1)))))))
def B131_8 (a1 : Int32) (x2 : Int64) (x4 : Int32) (h : TH) (C : Int32 → TH → Prop) : Prop := LFP (F131_8 a1 C) (x2, x4, h)
def W131 (a1 : Int32) (h : TH) (C : Int32 → TH → Prop) : Prop :=
  B131_8 a1 0 (h.I 9 7) h C

theorem R131_85 {d : Nat} {x2 : Int64} {x4 : Int32} {h : TH} {C : Int32 → TH → Prop} (hL : Lay h) (hW : B131_85 x2 x4 h C) : xEk (d + 1) 131 (85, [(0, .ref 9), (2, .long x2), (4, .int x4)], [], h.X) (postI C) := by
  refine hW (fun s => Lay (s.2) → xEk (d + 1) 131 (85, [(0, .ref 9), (2, .long x2), (4, .int (s.1))], [], (TH.X (s.2))) (postI C)) ?_ hL
  rintro ⟨x4, h⟩ hW hL
  have k85 : ∀ s : Int32 × TH, (fun s => Lay (s.2) → xEk (d + 1) 131 (85, [(0, .ref 9), (2, .long x2), (4, .int (s.1))], [], (TH.X (s.2))) (postI C)) s → Lay (s.2) → xEk (d + 1) 131 (85, [(0, .ref 9), (2, .long x2), (4, .int (s.1))], [], (TH.X (s.2))) (postI C) := fun s hs => hs
  unfold F131_85 at hW
  dsimp only at hW
  iterate 2 (refine kst rfl rfl ?_)
  refine wcm_ge rfl hW (fun hW => ?_) (fun hW => ?_)
  · refine kst rfl rfl ?_
    refine kre rfl rfl ?_
    exact ⟨_, _, rfl, hL, hW⟩
  · refine kst rfl rfl ?_
    refine wgetP (b := 11) rfl (oK9 hL rfl) rfl (oP9_2 hL) ?_
    refine kst rfl rfl ?_
    obtain ⟨q3, hW⟩ := hW
    refine wlald rfl (aK9_2 hL) (aN9_2 hL) (by decide) q3 ?_
    iterate 2 (refine kst rfl rfl ?_)
    refine wif_ne rfl hW (fun hW => ?_) (fun hW => ?_)
    · iterate 2 (refine kst rfl rfl ?_)
      have z9 := k85 ((x4 + 1), h) hW hL
      refine wjp ?_ z9
      exact ⟨rfl, rfl, rfl, trivial⟩
    · refine kst rfl rfl ?_
      refine kre rfl rfl ?_
      exact ⟨_, _, rfl, hL, hW⟩
theorem R131_56 {d : Nat} {a1 : Int32} {x2 : Int64} {h : TH} {C : Int32 → TH → Prop} (hL : Lay h) (hW : B131_56 a1 x2 h C) : xEk (d + 1) 131 (56, [(0, .ref 9), (1, .int a1), (2, .long x2)], [], h.X) (postI C) := by
  unfold B131_56 at hW
  refine kst rfl rfl ?_
  refine wgetP (b := 14) rfl (oK9 hL rfl) rfl (oP9_5 hL) ?_
  iterate 2 (refine kst rfl rfl ?_)
  obtain ⟨q1, hW⟩ := hW
  refine wlast rfl (aK9_5 hL) (aN9_5 hL) (by decide) q1 ?_
  replace hL : Lay (h.sJ 14 (ix a1) x2) := lsJ hL
  refine kst rfl rfl ?_
  refine wgetI rfl (oK9 hL rfl) rfl ?_
  refine kst rfl rfl ?_
  refine wgetP (b := 13) rfl (oK9 hL rfl) rfl (oP9_4 hL) ?_
  refine kst rfl rfl ?_
  obtain ⟨q2, hW⟩ := hW
  refine wald rfl (Or.inl (aK9_4 hL)) (aN9_4 hL) (by decide) q2 ?_
  iterate 2 (refine kst rfl rfl ?_)
  refine wcm_le rfl hW (fun hW => ?_) (fun hW => ?_)
  · iterate 2 (refine kst rfl rfl ?_)
    refine wjp ?_ (R131_85 (h := (h.sJ 14 (ix a1) x2)) hL hW)
    exact ⟨rfl, rfl, rfl, trivial⟩
  · refine kst rfl rfl ?_
    refine kre rfl rfl ?_
    exact ⟨_, _, rfl, hL, hW⟩
theorem R131_8 {d : Nat} {a1 : Int32} {x2 : Int64} {x4 : Int32} {h : TH} {C : Int32 → TH → Prop} (hL : Lay h) (hW : B131_8 a1 x2 x4 h C) : xEk (d + 1) 131 (8, [(0, .ref 9), (1, .int a1), (2, .long x2), (4, .int x4)], [], h.X) (postI C) := by
  refine hW (fun s => Lay (s.2.2) → xEk (d + 1) 131 (8, [(0, .ref 9), (1, .int a1), (2, .long (s.1)), (4, .int (s.2.1))], [], (TH.X (s.2.2))) (postI C)) ?_ hL
  rintro ⟨x2, x4, h⟩ hW hL
  have k8 : ∀ s : Int64 × Int32 × TH, (fun s => Lay (s.2.2) → xEk (d + 1) 131 (8, [(0, .ref 9), (1, .int a1), (2, .long (s.1)), (4, .int (s.2.1))], [], (TH.X (s.2.2))) (postI C)) s → Lay (s.2.2) → xEk (d + 1) 131 (8, [(0, .ref 9), (1, .int a1), (2, .long (s.1)), (4, .int (s.2.1))], [], (TH.X (s.2.2))) (postI C) := fun s hs => hs
  unfold F131_8 at hW
  dsimp only at hW
  iterate 2 (refine kst rfl rfl ?_)
  refine wgetI rfl (oK9 hL rfl) rfl ?_
  refine wcm_ge rfl hW (fun hW => ?_) (fun hW => ?_)
  · refine wjp ?_ (R131_56 (h := h) hL hW)
    exact ⟨rfl, rfl, rfl, trivial⟩
  · refine kst rfl rfl ?_
    refine wgetP (b := 10) rfl (oK9 hL rfl) rfl (oP9_0 hL) ?_
    refine kst rfl rfl ?_
    obtain ⟨q1, hW⟩ := hW
    refine wald rfl (Or.inl (aK9_0 hL)) (aN9_0 hL) (by decide) q1 ?_
    refine qcaI rfl rfl (R129 (d := d + 0) (h := h) hL hW) (fun v1 hW => ?_)
    refine wif_eq rfl hW (fun hW => ?_) (fun hW => ?_)
    · refine wjp ?_ (R131_56 (h := h) hL hW)
      exact ⟨rfl, rfl, rfl, trivial⟩
    · iterate 2 (refine kst rfl rfl ?_)
      refine wgetP (b := 10) rfl (oK9 hL rfl) rfl (oP9_0 hL) ?_
      refine kst rfl rfl ?_
      obtain ⟨q2, hW⟩ := hW
      refine wald rfl (Or.inl (aK9_0 hL)) (aN9_0 hL) (by decide) q2 ?_
      refine qcaL rfl rfl (R122 (d := d + 0) (h := h) hL hW) (fun v2 hW => ?_)
      iterate 5 (refine kst rfl rfl ?_)
      refine wputI rfl (oK9 hL rfl) rfl ?_
      replace hL : Lay (h.sI 9 7 (x4 + 1)) := lsI hL
      iterate 2 (refine kst rfl rfl ?_)
      have z9 := k8 (v2, (x4 + 1), (h.sI 9 7 (x4 + 1))) hW hL
      refine wjp ?_ z9
      exact ⟨rfl, rfl, rfl, rfl, trivial⟩
theorem R131 {d : Nat} {a1 : Int32} {h : TH} {C : Int32 → TH → Prop} (hL : Lay h) (hW : W131 a1 h C) : xPk (d + 1) 131 [.ref 9, .int a1] h.X (postI C) := by
  unfold W131 at hW
  refine kin (Nat.le_of_ble_eq_true rfl) ?_
  iterate 3 (refine kst rfl rfl ?_)
  refine wgetI rfl (oK9 hL rfl) rfl ?_
  refine kst rfl rfl ?_
  refine wjp ?_ (R131_8 (h := h) hL hW)
  exact ⟨rfl, rfl, rfl, rfl, trivial⟩
/-- 130: Text isDigit -/
def W130 (a1 : Int32) (h : TH) (C : Int32 → Prop) : Prop :=
  if a1 < 48 then (C 0) else (if 57 < a1 then (C 0) else (C 1))

theorem R130 {d : Nat} {a1 : Int32} {h : TH} {C : Int32 → Prop} (hL : Lay h) (hW : W130 a1 h C) : xPk d 130 [.int a1] h.X (qostI h C) := by
  unfold W130 at hW
  refine kin (Nat.le_of_ble_eq_true rfl) ?_
  iterate 2 (refine kst rfl rfl ?_)
  refine wcm_lt rfl hW (fun hW => ?_) (fun hW => ?_)
  · refine kst rfl rfl ?_
    refine kre rfl rfl ?_
    exact ⟨_, rfl, hW⟩
  · iterate 2 (refine kst rfl rfl ?_)
    refine wcm_gt rfl hW (fun hW => ?_) (fun hW => ?_)
    · refine kst rfl rfl ?_
      refine kre rfl rfl ?_
      exact ⟨_, rfl, hW⟩
    · iterate 2 (refine kst rfl rfl ?_)
      refine kre rfl rfl ?_
      exact ⟨_, rfl, hW⟩
/-- 132: Text cutNumber -/
def B132_62 (a1 : Int32) (x2 : Int64) (h : TH) (C : Int32 → TH → Prop) : Prop :=
  inb a1 901 ∧ inb a1 901 ∧ if (((h.sJ 14 (ix a1) x2).I 9 7) - ((h.sJ 14 (ix a1) x2).I 13 (ix a1))) ≤ 4 then (C 32 (h.sJ 14 (ix a1) x2)) else (C 35 (h.sJ 14 (ix a1) x2))
def F132_8 (a1 : Int32) (C : Int32 → TH → Prop) (X8 : Int64 × Int32 × TH → Prop) : Int64 × Int32 × TH → Prop := fun
  | (x2, x4, h) =>
    if (h.I 9 6) ≤ x4 then (B132_62 a1 x2 h C) else (inb x4 900 ∧ W130 (h.I 10 (ix x4)) h (fun v1 => if v1 = 0 then (B132_62 a1 x2 h C) else (inb x4 900 ∧ X8 (((x2 * 10) + (((h.I 10 (ix x4)) - 48)).toInt64), (x4 + 1), (h.sI 9 7 (x4 + 1))))))
def B132_8 (a1 : Int32) (x2 : Int64) (x4 : Int32) (h : TH) (C : Int32 → TH → Prop) : Prop := LFP (F132_8 a1 C) (x2, x4, h)
def W132 (a1 : Int32) (h : TH) (C : Int32 → TH → Prop) : Prop :=
  B132_8 a1 0 (h.I 9 7) h C

theorem R132_62 {d : Nat} {a1 : Int32} {x2 : Int64} {h : TH} {C : Int32 → TH → Prop} (hL : Lay h) (hW : B132_62 a1 x2 h C) : xEk (d + 1) 132 (62, [(0, .ref 9), (1, .int a1), (2, .long x2)], [], h.X) (postI C) := by
  unfold B132_62 at hW
  refine kst rfl rfl ?_
  refine wgetP (b := 14) rfl (oK9 hL rfl) rfl (oP9_5 hL) ?_
  iterate 2 (refine kst rfl rfl ?_)
  obtain ⟨q1, hW⟩ := hW
  refine wlast rfl (aK9_5 hL) (aN9_5 hL) (by decide) q1 ?_
  replace hL : Lay (h.sJ 14 (ix a1) x2) := lsJ hL
  refine kst rfl rfl ?_
  refine wgetI rfl (oK9 hL rfl) rfl ?_
  refine kst rfl rfl ?_
  refine wgetP (b := 13) rfl (oK9 hL rfl) rfl (oP9_4 hL) ?_
  refine kst rfl rfl ?_
  obtain ⟨q2, hW⟩ := hW
  refine wald rfl (Or.inl (aK9_4 hL)) (aN9_4 hL) (by decide) q2 ?_
  iterate 2 (refine kst rfl rfl ?_)
  refine wcm_le rfl hW (fun hW => ?_) (fun hW => ?_)
  · refine kst rfl rfl ?_
    refine kre rfl rfl ?_
    exact ⟨_, _, rfl, hL, hW⟩
  · iterate 2 (refine kst rfl rfl ?_)
    refine kre rfl rfl ?_
    exact ⟨_, _, rfl, hL, hW⟩
theorem R132_8 {d : Nat} {a1 : Int32} {x2 : Int64} {x4 : Int32} {h : TH} {C : Int32 → TH → Prop} (hL : Lay h) (hW : B132_8 a1 x2 x4 h C) : xEk (d + 1) 132 (8, [(0, .ref 9), (1, .int a1), (2, .long x2), (4, .int x4)], [], h.X) (postI C) := by
  refine hW (fun s => Lay (s.2.2) → xEk (d + 1) 132 (8, [(0, .ref 9), (1, .int a1), (2, .long (s.1)), (4, .int (s.2.1))], [], (TH.X (s.2.2))) (postI C)) ?_ hL
  rintro ⟨x2, x4, h⟩ hW hL
  have k8 : ∀ s : Int64 × Int32 × TH, (fun s => Lay (s.2.2) → xEk (d + 1) 132 (8, [(0, .ref 9), (1, .int a1), (2, .long (s.1)), (4, .int (s.2.1))], [], (TH.X (s.2.2))) (postI C)) s → Lay (s.2.2) → xEk (d + 1) 132 (8, [(0, .ref 9), (1, .int a1), (2, .long (s.1)), (4, .int (s.2.1))], [], (TH.X (s.2.2))) (postI C) := fun s hs => hs
  unfold F132_8 at hW
  dsimp only at hW
  iterate 2 (refine kst rfl rfl ?_)
  refine wgetI rfl (oK9 hL rfl) rfl ?_
  refine wcm_ge rfl hW (fun hW => ?_) (fun hW => ?_)
  · refine wjp ?_ (R132_62 (h := h) hL hW)
    exact ⟨rfl, rfl, rfl, trivial⟩
  · refine kst rfl rfl ?_
    refine wgetP (b := 10) rfl (oK9 hL rfl) rfl (oP9_0 hL) ?_
    refine kst rfl rfl ?_
    obtain ⟨q1, hW⟩ := hW
    refine wald rfl (Or.inl (aK9_0 hL)) (aN9_0 hL) (by decide) q1 ?_
    refine qcaI rfl rfl (R130 (d := d + 0) (h := h) hL hW) (fun v1 hW => ?_)
    refine wif_eq rfl hW (fun hW => ?_) (fun hW => ?_)
    · refine wjp ?_ (R132_62 (h := h) hL hW)
      exact ⟨rfl, rfl, rfl, trivial⟩
    · iterate 4 (refine kst rfl rfl ?_)
      refine wgetP (b := 10) rfl (oK9 hL rfl) rfl (oP9_0 hL) ?_
      refine kst rfl rfl ?_
      obtain ⟨q2, hW⟩ := hW
      refine wald rfl (Or.inl (aK9_0 hL)) (aN9_0 hL) (by decide) q2 ?_
      iterate 9 (refine kst rfl rfl ?_)
      refine wputI rfl (oK9 hL rfl) rfl ?_
      replace hL : Lay (h.sI 9 7 (x4 + 1)) := lsI hL
      iterate 2 (refine kst rfl rfl ?_)
      have z9 := k8 (((x2 * 10) + (((h.I 10 (ix x4)) - 48)).toInt64), (x4 + 1), (h.sI 9 7 (x4 + 1))) hW hL
      refine wjp ?_ z9
      exact ⟨rfl, rfl, rfl, rfl, trivial⟩
theorem R132 {d : Nat} {a1 : Int32} {h : TH} {C : Int32 → TH → Prop} (hL : Lay h) (hW : W132 a1 h C) : xPk (d + 1) 132 [.ref 9, .int a1] h.X (postI C) := by
  unfold W132 at hW
  refine kin (Nat.le_of_ble_eq_true rfl) ?_
  iterate 3 (refine kst rfl rfl ?_)
  refine wgetI rfl (oK9 hL rfl) rfl ?_
  refine kst rfl rfl ?_
  refine wjp ?_ (R132_8 (h := h) hL hW)
  exact ⟨rfl, rfl, rfl, rfl, trivial⟩
/-- 128: Text cutToken -/
def W128 (a1 : Int32) (h : TH) (C : Int32 → TH → Prop) : Prop :=
  if (h.I 9 7) < (h.I 9 6) then (inb (h.I 9 7) 900 ∧ W129 (h.I 10 (ix (h.I 9 7))) h (fun v1 => if v1 = 0 then (inb (h.I 9 7) 900 ∧ W130 (h.I 10 (ix (h.I 9 7))) h (fun v2 => if v2 = 0 then (inb (((h.sI 9 7 ((h.I 9 7) + 1)).I 9 7) - 1) 900 ∧ if ¬ ((h.sI 9 7 ((h.I 9 7) + 1)).I 10 (ix (((h.sI 9 7 ((h.I 9 7) + 1)).I 9 7) - 1))) = 59 then (C 35 (h.sI 9 7 ((h.I 9 7) + 1))) else (C 33 (h.sI 9 7 ((h.I 9 7) + 1)))) else (W132 a1 h (fun v3 h4 => C v3 h4)))) else (W131 a1 h (fun v5 h6 => C v5 h6)))) else (C 34 h)

theorem R128 {d : Nat} {a1 : Int32} {h : TH} {C : Int32 → TH → Prop} (hL : Lay h) (hW : W128 a1 h C) : xPk (d + 2) 128 [.ref 9, .int a1] h.X (postI C) := by
  unfold W128 at hW
  refine kin (Nat.le_of_ble_eq_true rfl) ?_
  refine kst rfl rfl ?_
  refine wgetI rfl (oK9 hL rfl) rfl ?_
  refine kst rfl rfl ?_
  refine wgetI rfl (oK9 hL rfl) rfl ?_
  refine wcm_lt rfl hW (fun hW => ?_) (fun hW => ?_)
  · refine kst rfl rfl ?_
    refine wgetP (b := 10) rfl (oK9 hL rfl) rfl (oP9_0 hL) ?_
    refine kst rfl rfl ?_
    refine wgetI rfl (oK9 hL rfl) rfl ?_
    obtain ⟨q1, hW⟩ := hW
    refine wald rfl (Or.inl (aK9_0 hL)) (aN9_0 hL) (by decide) q1 ?_
    refine qcaI rfl rfl (R129 (d := d + 1) (h := h) hL hW) (fun v1 hW => ?_)
    refine wif_eq rfl hW (fun hW => ?_) (fun hW => ?_)
    · refine kst rfl rfl ?_
      refine wgetP (b := 10) rfl (oK9 hL rfl) rfl (oP9_0 hL) ?_
      refine kst rfl rfl ?_
      refine wgetI rfl (oK9 hL rfl) rfl ?_
      obtain ⟨q2, hW⟩ := hW
      refine wald rfl (Or.inl (aK9_0 hL)) (aN9_0 hL) (by decide) q2 ?_
      refine qcaI rfl rfl (R130 (d := d + 1) (h := h) hL hW) (fun v2 hW => ?_)
      refine wif_eq rfl hW (fun hW => ?_) (fun hW => ?_)
      · iterate 2 (refine kst rfl rfl ?_)
        refine wgetI rfl (oK9 hL rfl) rfl ?_
        iterate 2 (refine kst rfl rfl ?_)
        refine wputI rfl (oK9 hL rfl) rfl ?_
        replace hL : Lay (h.sI 9 7 ((h.I 9 7) + 1)) := lsI hL
        refine kst rfl rfl ?_
        refine wgetP (b := 10) rfl (oK9 hL rfl) rfl (oP9_0 hL) ?_
        refine kst rfl rfl ?_
        refine wgetI rfl (oK9 hL rfl) rfl ?_
        iterate 2 (refine kst rfl rfl ?_)
        obtain ⟨q3, hW⟩ := hW
        refine wald rfl (Or.inl (aK9_0 hL)) (aN9_0 hL) (by decide) q3 ?_
        refine kst rfl rfl ?_
        refine wcm_ne rfl hW (fun hW => ?_) (fun hW => ?_)
        · refine kst rfl rfl ?_
          refine kre rfl rfl ?_
          exact ⟨_, _, rfl, hL, hW⟩
        · iterate 2 (refine kst rfl rfl ?_)
          refine kre rfl rfl ?_
          exact ⟨_, _, rfl, hL, hW⟩
      · iterate 2 (refine kst rfl rfl ?_)
        refine wcvI rfl (oK9 hL rfl) rfl rfl (R132 (d := d + 0) (h := h) hL hW) (fun v3 h4 hL hW => ?_)
        refine kre rfl rfl ?_
        exact ⟨_, _, rfl, hL, hW⟩
    · iterate 2 (refine kst rfl rfl ?_)
      refine wcvI rfl (oK9 hL rfl) rfl rfl (R131 (d := d + 0) (h := h) hL hW) (fun v5 h6 hL hW => ?_)
      refine kre rfl rfl ?_
      exact ⟨_, _, rfl, hL, hW⟩
  · refine kst rfl rfl ?_
    refine kre rfl rfl ?_
    exact ⟨_, _, rfl, hL, hW⟩
/-- 126: Text begin -/
def B126_90 (h : TH) (C : TH → Prop) : Prop :=
  C ((h.sI 9 8 0).sI 9 9 ((h.sI 9 8 0).I 12 (ix 0)))
def F126_31 (C : TH → Prop) (X31 : Int32 × Int32 × TH → Prop) : Int32 × Int32 × TH → Prop := fun
  | (x2, x3, h) =>
    if 900 < x3 then (B126_90 h C) else (if x2 = 0 then (B126_90 h C) else (W127  h (fun h1 => inb x3 901 ∧ W128 x3 (h1.sI 13 (ix x3) (h1.I 9 7)) (fun v2 h3 => inb x3 901 ∧ inb x3 901 ∧ if ((h3.sI 12 (ix x3) v2).I 12 (ix x3)) = 34 then (X31 (0, (x3 + 1), (h3.sI 12 (ix x3) v2))) else (X31 (1, (x3 + 1), (h3.sI 12 (ix x3) v2)))))))
def B126_31 (x2 : Int32) (x3 : Int32) (h : TH) (C : TH → Prop) : Prop := LFP (F126_31 C) (x2, x3, h)
def W126 (a1 : Int32) (h : TH) (C : TH → Prop) : Prop :=
  B126_31 1 0 ((((h.sI 9 6 (imin a1 (h.I 9 1))).sI 9 7 0).sI 9 10 0).sI 9 11 (-1)) C

theorem R126_90 {d : Nat} {h : TH} {C : TH → Prop} (hL : Lay h) (hW : B126_90 h C) : xEk (d + 3) 126 (90, [(0, .ref 9)], [], h.X) (postV C) := by
  unfold B126_90 at hW
  iterate 2 (refine kst rfl rfl ?_)
  refine wputI rfl (oK9 hL rfl) rfl ?_
  replace hL : Lay (h.sI 9 8 0) := lsI hL
  iterate 2 (refine kst rfl rfl ?_)
  refine wgetP (b := 12) rfl (oK9 hL rfl) rfl (oP9_3 hL) ?_
  refine kst rfl rfl ?_
  refine wald rfl (Or.inl (aK9_3 hL)) (aN9_3 hL) (by decide) ⟨by decide, by decide⟩ ?_
  refine wputI rfl (oK9 hL rfl) rfl ?_
  replace hL : Lay ((h.sI 9 8 0).sI 9 9 ((h.sI 9 8 0).I 12 (ix 0))) := lsI hL
  refine kre rfl rfl ?_
  exact ⟨_, rfl, hL, hW⟩
theorem R126_31 {d : Nat} {x2 : Int32} {x3 : Int32} {h : TH} {C : TH → Prop} (hL : Lay h) (hW : B126_31 x2 x3 h C) : xEk (d + 3) 126 (31, [(0, .ref 9), (2, .int x2), (3, .int x3)], [], h.X) (postV C) := by
  refine hW (fun s => Lay (s.2.2) → xEk (d + 3) 126 (31, [(0, .ref 9), (2, .int (s.1)), (3, .int (s.2.1))], [], (TH.X (s.2.2))) (postV C)) ?_ hL
  rintro ⟨x2, x3, h⟩ hW hL
  have k31 : ∀ s : Int32 × Int32 × TH, (fun s => Lay (s.2.2) → xEk (d + 3) 126 (31, [(0, .ref 9), (2, .int (s.1)), (3, .int (s.2.1))], [], (TH.X (s.2.2))) (postV C)) s → Lay (s.2.2) → xEk (d + 3) 126 (31, [(0, .ref 9), (2, .int (s.1)), (3, .int (s.2.1))], [], (TH.X (s.2.2))) (postV C) := fun s hs => hs
  unfold F126_31 at hW
  dsimp only at hW
  iterate 2 (refine kst rfl rfl ?_)
  refine wcm_gt rfl hW (fun hW => ?_) (fun hW => ?_)
  · refine wjp ?_ (R126_90 (h := h) hL hW)
    exact ⟨rfl, trivial⟩
  · refine kst rfl rfl ?_
    refine wif_eq rfl hW (fun hW => ?_) (fun hW => ?_)
    · refine wjp ?_ (R126_90 (h := h) hL hW)
      exact ⟨rfl, trivial⟩
    · refine kst rfl rfl ?_
      refine wcvV rfl (oK9 hL rfl) rfl rfl (R127 (d := d + 2) (h := h) hL hW) (fun h1 hL hW => ?_)
      refine kst rfl rfl ?_
      refine wgetP (b := 13) rfl (oK9 hL rfl) rfl (oP9_4 hL) ?_
      iterate 2 (refine kst rfl rfl ?_)
      refine wgetI rfl (oK9 hL rfl) rfl ?_
      obtain ⟨q1, hW⟩ := hW
      refine wast rfl (aK9_4 hL) (aN9_4 hL) (by decide) q1 ?_
      replace hL : Lay (h1.sI 13 (ix x3) (h1.I 9 7)) := lsI hL
      refine kst rfl rfl ?_
      refine wgetP (b := 12) rfl (oK9 hL rfl) rfl (oP9_3 hL) ?_
      iterate 3 (refine kst rfl rfl ?_)
      refine wcvI rfl (oK9 hL rfl) rfl rfl (R128 (d := d + 0) (h := (h1.sI 13 (ix x3) (h1.I 9 7))) hL hW) (fun v2 h3 hL hW => ?_)
      obtain ⟨q2, hW⟩ := hW
      refine wast rfl (aK9_3 hL) (aN9_3 hL) (by decide) q2 ?_
      replace hL : Lay (h3.sI 12 (ix x3) v2) := lsI hL
      refine kst rfl rfl ?_
      refine wgetP (b := 12) rfl (oK9 hL rfl) rfl (oP9_3 hL) ?_
      refine kst rfl rfl ?_
      obtain ⟨q3, hW⟩ := hW
      refine wald rfl (Or.inl (aK9_3 hL)) (aN9_3 hL) (by decide) q3 ?_
      refine kst rfl rfl ?_
      refine wcm_eq rfl hW (fun hW => ?_) (fun hW => ?_)
      · iterate 4 (refine kst rfl rfl ?_)
        have z9 := k31 (0, (x3 + 1), (h3.sI 12 (ix x3) v2)) hW hL
        refine wjp ?_ z9
        exact ⟨rfl, rfl, rfl, trivial⟩
      · iterate 5 (refine kst rfl rfl ?_)
        have z9 := k31 (1, (x3 + 1), (h3.sI 12 (ix x3) v2)) hW hL
        refine wjp ?_ z9
        exact ⟨rfl, rfl, rfl, trivial⟩
theorem R126 {d : Nat} {a1 : Int32} {h : TH} {C : TH → Prop} (hL : Lay h) (hW : W126 a1 h C) : xPk (d + 3) 126 [.ref 9, .int a1] h.X (postV C) := by
  unfold W126 at hW
  refine kin (Nat.le_of_ble_eq_true rfl) ?_
  iterate 3 (refine kst rfl rfl ?_)
  refine wgetI rfl (oK9 hL rfl) rfl ?_
  refine kst rfl rfl ?_
  refine wputI rfl (oK9 hL rfl) rfl ?_
  replace hL : Lay (h.sI 9 6 (imin a1 (h.I 9 1))) := lsI hL
  iterate 2 (refine kst rfl rfl ?_)
  refine wputI rfl (oK9 hL rfl) rfl ?_
  replace hL : Lay ((h.sI 9 6 (imin a1 (h.I 9 1))).sI 9 7 0) := lsI hL
  iterate 2 (refine kst rfl rfl ?_)
  refine wputI rfl (oK9 hL rfl) rfl ?_
  replace hL : Lay (((h.sI 9 6 (imin a1 (h.I 9 1))).sI 9 7 0).sI 9 10 0) := lsI hL
  iterate 2 (refine kst rfl rfl ?_)
  refine wputI rfl (oK9 hL rfl) rfl ?_
  replace hL : Lay ((((h.sI 9 6 (imin a1 (h.I 9 1))).sI 9 7 0).sI 9 10 0).sI 9 11 (-1)) := lsI hL
  iterate 4 (refine kst rfl rfl ?_)
  refine wjp ?_ (R126_31 (h := ((((h.sI 9 6 (imin a1 (h.I 9 1))).sI 9 7 0).sI 9 10 0).sI 9 11 (-1))) hL hW)
  exact ⟨rfl, rfl, rfl, trivial⟩
/-- 135: Text blame -/
def W135 (a1 : Int32) (h : TH) (C : Int32 → TH → Prop) : Prop :=
  inb ((h.sI 9 10 a1).I 9 8) 901 ∧ C 0 ((h.sI 9 10 a1).sI 9 11 ((h.sI 9 10 a1).I 13 (ix ((h.sI 9 10 a1).I 9 8))))

theorem R135 {d : Nat} {a1 : Int32} {h : TH} {C : Int32 → TH → Prop} (hL : Lay h) (hW : W135 a1 h C) : xPk d 135 [.ref 9, .int a1] h.X (postI C) := by
  unfold W135 at hW
  refine kin (Nat.le_of_ble_eq_true rfl) ?_
  iterate 2 (refine kst rfl rfl ?_)
  refine wputI rfl (oK9 hL rfl) rfl ?_
  replace hL : Lay (h.sI 9 10 a1) := lsI hL
  iterate 2 (refine kst rfl rfl ?_)
  refine wgetP (b := 13) rfl (oK9 hL rfl) rfl (oP9_4 hL) ?_
  refine kst rfl rfl ?_
  refine wgetI rfl (oK9 hL rfl) rfl ?_
  obtain ⟨q1, hW⟩ := hW
  refine wald rfl (Or.inl (aK9_4 hL)) (aN9_4 hL) (by decide) q1 ?_
  refine wputI rfl (oK9 hL rfl) rfl ?_
  replace hL : Lay ((h.sI 9 10 a1).sI 9 11 ((h.sI 9 10 a1).I 13 (ix ((h.sI 9 10 a1).I 9 8)))) := lsI hL
  refine kst rfl rfl ?_
  refine kre rfl rfl ?_
  exact ⟨_, _, rfl, hL, hW⟩
/-- 133: Text advance -/
def W133 (h : TH) (C : TH → Prop) : Prop :=
  if (h.I 9 9) = 34 then (C h) else (if 900 ≤ (h.I 9 8) then (C h) else (inb ((h.sI 9 8 ((h.I 9 8) + 1)).I 9 8) 901 ∧ C ((h.sI 9 8 ((h.I 9 8) + 1)).sI 9 9 ((h.sI 9 8 ((h.I 9 8) + 1)).I 12 (ix ((h.sI 9 8 ((h.I 9 8) + 1)).I 9 8))))))

theorem R133 {d : Nat} {h : TH} {C : TH → Prop} (hL : Lay h) (hW : W133  h C) : xPk d 133 [.ref 9] h.X (postV C) := by
  unfold W133 at hW
  refine kin (Nat.le_of_ble_eq_true rfl) ?_
  refine kst rfl rfl ?_
  refine wgetI rfl (oK9 hL rfl) rfl ?_
  refine kst rfl rfl ?_
  refine wcm_eq rfl hW (fun hW => ?_) (fun hW => ?_)
  · refine kre rfl rfl ?_
    exact ⟨_, rfl, hL, hW⟩
  · refine kst rfl rfl ?_
    refine wgetI rfl (oK9 hL rfl) rfl ?_
    refine kst rfl rfl ?_
    refine wcm_ge rfl hW (fun hW => ?_) (fun hW => ?_)
    · refine kre rfl rfl ?_
      exact ⟨_, rfl, hL, hW⟩
    · iterate 2 (refine kst rfl rfl ?_)
      refine wgetI rfl (oK9 hL rfl) rfl ?_
      iterate 2 (refine kst rfl rfl ?_)
      refine wputI rfl (oK9 hL rfl) rfl ?_
      replace hL : Lay (h.sI 9 8 ((h.I 9 8) + 1)) := lsI hL
      iterate 2 (refine kst rfl rfl ?_)
      refine wgetP (b := 12) rfl (oK9 hL rfl) rfl (oP9_3 hL) ?_
      refine kst rfl rfl ?_
      refine wgetI rfl (oK9 hL rfl) rfl ?_
      obtain ⟨q1, hW⟩ := hW
      refine wald rfl (Or.inl (aK9_3 hL)) (aN9_3 hL) (by decide) q1 ?_
      refine wputI rfl (oK9 hL rfl) rfl ?_
      replace hL : Lay ((h.sI 9 8 ((h.I 9 8) + 1)).sI 9 9 ((h.sI 9 8 ((h.I 9 8) + 1)).I 12 (ix ((h.sI 9 8 ((h.I 9 8) + 1)).I 9 8)))) := lsI hL
      refine kre rfl rfl ?_
      exact ⟨_, rfl, hL, hW⟩
/-- 136: Text misplaced -/
def W136 (h : TH) (C : Int32 → TH → Prop) : Prop :=
  if ¬ (h.I 9 9) = 35 then (W135 2 h (fun v1 h2 => (v1 = 0 ∨ v1 = 1) ∧ C v1 h2)) else (W135 1 h (fun v3 h4 => (v3 = 0 ∨ v3 = 1) ∧ C v3 h4))

theorem R136 {d : Nat} {h : TH} {C : Int32 → TH → Prop} (hL : Lay h) (hW : W136  h C) : xPk (d + 1) 136 [.ref 9] h.X (postI C) := by
  unfold W136 at hW
  refine kin (Nat.le_of_ble_eq_true rfl) ?_
  iterate 2 (refine kst rfl rfl ?_)
  refine wgetI rfl (oK9 hL rfl) rfl ?_
  refine kst rfl rfl ?_
  refine wcm_ne rfl hW (fun hW => ?_) (fun hW => ?_)
  · refine kst rfl rfl ?_
    refine wcvI rfl (oK9 hL rfl) rfl rfl (R135 (d := d + 0) (h := h) hL hW) (fun v1 h2 hL hW => ?_)
    obtain ⟨q1, hW⟩ := hW
    refine wrZ rfl q1 ?_
    exact ⟨_, _, rfl, hL, hW⟩
  · iterate 2 (refine kst rfl rfl ?_)
    refine wcvI rfl (oK9 hL rfl) rfl rfl (R135 (d := d + 0) (h := h) hL hW) (fun v3 h4 hL hW => ?_)
    obtain ⟨q1, hW⟩ := hW
    refine wrZ rfl q1 ?_
    exact ⟨_, _, rfl, hL, hW⟩
/-- 134: Text value -/
def W134 (h : TH) (C : Int64 → Prop) : Prop :=
  inb (h.I 9 8) 901 ∧ C (h.J 14 (ix (h.I 9 8)))

theorem R134 {d : Nat} {h : TH} {C : Int64 → Prop} (hL : Lay h) (hW : W134  h C) : xPk d 134 [.ref 9] h.X (qostL h C) := by
  unfold W134 at hW
  refine kin (Nat.le_of_ble_eq_true rfl) ?_
  refine kst rfl rfl ?_
  refine wgetP (b := 14) rfl (oK9 hL rfl) rfl (oP9_5 hL) ?_
  refine kst rfl rfl ?_
  refine wgetI rfl (oK9 hL rfl) rfl ?_
  obtain ⟨q1, hW⟩ := hW
  refine wlald rfl (aK9_5 hL) (aN9_5 hL) (by decide) q1 ?_
  refine kre rfl rfl ?_
  exact ⟨_, rfl, hW⟩
/-- 78: MenuReader readNewName -/
def W78 (a1 : Int32) (h : TH) (C : Int32 → TH → Prop) : Prop :=
  if (h.I 9 9) = 30 then (W134  h (fun v1 => W59 16 v1 h (fun v2 => if v2 = (-1) then (W134  h (fun v3 => inb a1 12 ∧ W133  (h.sJ (16 + 1) (ix a1) v3) (fun h4 => C 1 h4))) else (W135 3 h (fun v5 h6 => (v5 = 0 ∨ v5 = 1) ∧ C v5 h6))))) else (W136  h (fun v7 h8 => (v7 = 0 ∨ v7 = 1) ∧ C v7 h8))

theorem R78 {d : Nat} {a1 : Int32} {h : TH} {C : Int32 → TH → Prop} (hL : Lay h) (hW : W78 a1 h C) : xPk (d + 2) 78 [.ref 15, .int a1] h.X (postI C) := by
  unfold W78 at hW
  refine kin (Nat.le_of_ble_eq_true rfl) ?_
  refine kst rfl rfl ?_
  refine wgetP (b := 9) rfl (oK4 hL rfl) rfl (oP4_0 hL) ?_
  refine wgetI rfl (oK9 hL rfl) rfl ?_
  refine kst rfl rfl ?_
  refine wcm_eq rfl hW (fun hW => ?_) (fun hW => ?_)
  · refine kst rfl rfl ?_
    refine wgetP (b := 16) rfl (oK4 hL rfl) rfl (oP4_1 hL) ?_
    refine kst rfl rfl ?_
    refine wgetP (b := 9) rfl (oK4 hL rfl) rfl (oP4_0 hL) ?_
    refine qcvL rfl (oK9 hL rfl) rfl rfl (R134 (d := d + 1) (h := h) hL hW) (fun v1 hW => ?_)
    refine qcvI rfl (oK3 hL is_4_1) rfl rfl (R59 (d := d + 1) (h := h) is_4_1 hL hW) (fun v2 hW => ?_)
    refine kst rfl rfl ?_
    refine wcm_eq rfl hW (fun hW => ?_) (fun hW => ?_)
    · refine kst rfl rfl ?_
      refine wgetP (b := 16) rfl (oK4 hL rfl) rfl (oP4_1 hL) ?_
      refine wgetP (b := (16 + 1)) rfl (oK3 hL is_4_1) rfl (oP3_5 hL is_4_1) ?_
      iterate 2 (refine kst rfl rfl ?_)
      refine wgetP (b := 9) rfl (oK4 hL rfl) rfl (oP4_0 hL) ?_
      refine qcvL rfl (oK9 hL rfl) rfl rfl (R134 (d := d + 1) (h := h) hL hW) (fun v3 hW => ?_)
      obtain ⟨q1, hW⟩ := hW
      refine wlast rfl (aK3_5 hL is_4_1) (aN3_5 hL is_4_1) (by decide) q1 ?_
      replace hL : Lay (h.sJ (16 + 1) (ix a1) v3) := lsJ hL
      refine kst rfl rfl ?_
      refine wgetP (b := 9) rfl (oK4 hL rfl) rfl (oP4_0 hL) ?_
      refine wcvV rfl (oK9 hL rfl) rfl rfl (R133 (d := d + 1) (h := (h.sJ (16 + 1) (ix a1) v3)) hL hW) (fun h4 hL hW => ?_)
      refine kst rfl rfl ?_
      refine kre rfl rfl ?_
      exact ⟨_, _, rfl, hL, hW⟩
    · refine kst rfl rfl ?_
      refine wgetP (b := 9) rfl (oK4 hL rfl) rfl (oP4_0 hL) ?_
      refine kst rfl rfl ?_
      refine wcvI rfl (oK9 hL rfl) rfl rfl (R135 (d := d + 1) (h := h) hL hW) (fun v5 h6 hL hW => ?_)
      obtain ⟨q1, hW⟩ := hW
      refine wrZ rfl q1 ?_
      exact ⟨_, _, rfl, hL, hW⟩
  · refine kst rfl rfl ?_
    refine wgetP (b := 9) rfl (oK4 hL rfl) rfl (oP4_0 hL) ?_
    refine wcvI rfl (oK9 hL rfl) rfl rfl (R136 (d := d + 0) (h := h) hL hW) (fun v7 h8 hL hW => ?_)
    obtain ⟨q1, hW⟩ := hW
    refine wrZ rfl q1 ?_
    exact ⟨_, _, rfl, hL, hW⟩
/-- 137: Text takeToken -/
def W137 (a1 : Int32) (h : TH) (C : Int32 → TH → Prop) : Prop :=
  if (h.I 9 9) = a1 then (W133  h (fun h1 => C 1 h1)) else (W136  h (fun v2 h3 => (v2 = 0 ∨ v2 = 1) ∧ C v2 h3))

theorem R137 {d : Nat} {a1 : Int32} {h : TH} {C : Int32 → TH → Prop} (hL : Lay h) (hW : W137 a1 h C) : xPk (d + 2) 137 [.ref 9, .int a1] h.X (postI C) := by
  unfold W137 at hW
  refine kin (Nat.le_of_ble_eq_true rfl) ?_
  refine kst rfl rfl ?_
  refine wgetI rfl (oK9 hL rfl) rfl ?_
  refine kst rfl rfl ?_
  refine wcm_eq rfl hW (fun hW => ?_) (fun hW => ?_)
  · refine kst rfl rfl ?_
    refine wcvV rfl (oK9 hL rfl) rfl rfl (R133 (d := d + 1) (h := h) hL hW) (fun h1 hL hW => ?_)
    refine kst rfl rfl ?_
    refine kre rfl rfl ?_
    exact ⟨_, _, rfl, hL, hW⟩
  · refine kst rfl rfl ?_
    refine wcvI rfl (oK9 hL rfl) rfl rfl (R136 (d := d + 0) (h := h) hL hW) (fun v2 h3 hL hW => ?_)
    obtain ⟨q1, hW⟩ := hW
    refine wrZ rfl q1 ?_
    exact ⟨_, _, rfl, hL, hW⟩
/-- 138: Text takeNumber -/
def W138 (a1 : Int32) (a2 : Int32) (h : TH) (C : Int32 → TH → Prop) : Prop :=
  if (h.I 9 9) = 32 then (inb (h.I 9 8) 901 ∧ if (lg_cmp (h.J 14 (ix (h.I 9 8))) ((a1).toInt64)) < 0 then (W135 4 h (fun v1 h2 => C (-1) h2)) else (if (lg_cmp (h.J 14 (ix (h.I 9 8))) ((a2).toInt64)) ≤ 0 then (W133  h (fun h3 => C (((h.J 14 (ix (h.I 9 8)))).toInt32) h3)) else (W135 4 h (fun v4 h5 => C (-1) h5)))) else (W136  h (fun v6 h7 => C (-1) h7))

theorem R138 {d : Nat} {a1 : Int32} {a2 : Int32} {h : TH} {C : Int32 → TH → Prop} (hL : Lay h) (hW : W138 a1 a2 h C) : xPk (d + 2) 138 [.ref 9, .int a1, .int a2] h.X (postI C) := by
  unfold W138 at hW
  refine kin (Nat.le_of_ble_eq_true rfl) ?_
  refine kst rfl rfl ?_
  refine wgetI rfl (oK9 hL rfl) rfl ?_
  refine kst rfl rfl ?_
  refine wcm_eq rfl hW (fun hW => ?_) (fun hW => ?_)
  · refine kst rfl rfl ?_
    refine wgetP (b := 14) rfl (oK9 hL rfl) rfl (oP9_5 hL) ?_
    refine kst rfl rfl ?_
    refine wgetI rfl (oK9 hL rfl) rfl ?_
    obtain ⟨q1, hW⟩ := hW
    refine wlald rfl (aK9_5 hL) (aN9_5 hL) (by decide) q1 ?_
    iterate 5 (refine kst rfl rfl ?_)
    refine wif_lt rfl hW (fun hW => ?_) (fun hW => ?_)
    · iterate 2 (refine kst rfl rfl ?_)
      refine wcvI rfl (oK9 hL rfl) rfl rfl (R135 (d := d + 1) (h := h) hL hW) (fun v1 h2 hL hW => ?_)
      iterate 2 (refine kst rfl rfl ?_)
      refine kre rfl rfl ?_
      exact ⟨_, _, rfl, hL, hW⟩
    · iterate 4 (refine kst rfl rfl ?_)
      refine wif_le rfl hW (fun hW => ?_) (fun hW => ?_)
      · refine kst rfl rfl ?_
        refine wcvV rfl (oK9 hL rfl) rfl rfl (R133 (d := d + 1) (h := h) hL hW) (fun h3 hL hW => ?_)
        iterate 2 (refine kst rfl rfl ?_)
        refine kre rfl rfl ?_
        exact ⟨_, _, rfl, hL, hW⟩
      · iterate 2 (refine kst rfl rfl ?_)
        refine wcvI rfl (oK9 hL rfl) rfl rfl (R135 (d := d + 1) (h := h) hL hW) (fun v4 h5 hL hW => ?_)
        iterate 2 (refine kst rfl rfl ?_)
        refine kre rfl rfl ?_
        exact ⟨_, _, rfl, hL, hW⟩
  · refine kst rfl rfl ?_
    refine wcvI rfl (oK9 hL rfl) rfl rfl (R136 (d := d + 0) (h := h) hL hW) (fun v6 h7 hL hW => ?_)
    iterate 2 (refine kst rfl rfl ?_)
    refine kre rfl rfl ?_
    exact ⟨_, _, rfl, hL, hW⟩
/-- 80: MenuReader readAmount -/
def W80 (a1 : Int32) (a2 : Int32) (a3 : Int32) (a4 : Int32) (h : TH) (C : Int32 → TH → Prop) : Prop :=
  if (h.I 9 9) = a1 then (W133  h (fun h1 => W138 a2 a3 h1 (fun v2 h3 => C v2 h3))) else (C a4 h)

theorem R80 {d : Nat} {a1 : Int32} {a2 : Int32} {a3 : Int32} {a4 : Int32} {h : TH} {C : Int32 → TH → Prop} (hL : Lay h) (hW : W80 a1 a2 a3 a4 h C) : xPk (d + 3) 80 [.ref 15, .int a1, .int a2, .int a3, .int a4] h.X (postI C) := by
  unfold W80 at hW
  refine kin (Nat.le_of_ble_eq_true rfl) ?_
  refine kst rfl rfl ?_
  refine wgetP (b := 9) rfl (oK4 hL rfl) rfl (oP4_0 hL) ?_
  refine wgetI rfl (oK9 hL rfl) rfl ?_
  refine kst rfl rfl ?_
  refine wcm_eq rfl hW (fun hW => ?_) (fun hW => ?_)
  · refine kst rfl rfl ?_
    refine wgetP (b := 9) rfl (oK4 hL rfl) rfl (oP4_0 hL) ?_
    refine wcvV rfl (oK9 hL rfl) rfl rfl (R133 (d := d + 2) (h := h) hL hW) (fun h1 hL hW => ?_)
    refine kst rfl rfl ?_
    refine wgetP (b := 9) rfl (oK4 hL rfl) rfl (oP4_0 hL) ?_
    iterate 2 (refine kst rfl rfl ?_)
    refine wcvI rfl (oK9 hL rfl) rfl rfl (R138 (d := d + 0) (h := h1) hL hW) (fun v2 h3 hL hW => ?_)
    refine kre rfl rfl ?_
    exact ⟨_, _, rfl, hL, hW⟩
  · refine kst rfl rfl ?_
    refine kre rfl rfl ?_
    exact ⟨_, _, rfl, hL, hW⟩
/-- 79: MenuReader readAmounts -/
def W79 (a1 : Int32) (h : TH) (C : Int32 → TH → Prop) : Prop :=
  W137 1 h (fun v1 h2 => if ¬ v1 = 0 then (W138 0 99 h2 (fun v3 h4 => inb a1 12 ∧ inb a1 12 ∧ if ¬ ((h4.sI (16 + 2) (ix a1) v3).I (16 + 2) (ix a1)) = (-1) then (W80 2 1 9 1 (h4.sI (16 + 2) (ix a1) v3) (fun v5 h6 => inb a1 12 ∧ inb a1 12 ∧ if ¬ ((h6.sI (16 + 3) (ix a1) v5).I (16 + 3) (ix a1)) = (-1) then (W80 3 1 99 0 (h6.sI (16 + 3) (ix a1) v5) (fun v7 h8 => inb a1 12 ∧ inb a1 12 ∧ if ¬ ((h8.sI (16 + 4) (ix a1) v7).I (16 + 4) (ix a1)) = (-1) then (W80 4 0 15 0 (h8.sI (16 + 4) (ix a1) v7) (fun v9 h10 => inb a1 12 ∧ inb a1 12 ∧ if ((h10.sI (16 + 5) (ix a1) v9).I (16 + 5) (ix a1)) = (-1) then (C 0 (h10.sI (16 + 5) (ix a1) v9)) else (C 1 (h10.sI (16 + 5) (ix a1) v9)))) else (C 0 (h8.sI (16 + 4) (ix a1) v7)))) else (C 0 (h6.sI (16 + 3) (ix a1) v5)))) else (C 0 (h4.sI (16 + 2) (ix a1) v3)))) else (C 0 h2))

theorem R79 {d : Nat} {a1 : Int32} {h : TH} {C : Int32 → TH → Prop} (hL : Lay h) (hW : W79 a1 h C) : xPk (d + 4) 79 [.ref 15, .int a1] h.X (postI C) := by
  unfold W79 at hW
  refine kin (Nat.le_of_ble_eq_true rfl) ?_
  refine kst rfl rfl ?_
  refine wgetP (b := 9) rfl (oK4 hL rfl) rfl (oP4_0 hL) ?_
  refine kst rfl rfl ?_
  refine wcvI rfl (oK9 hL rfl) rfl rfl (R137 (d := d + 1) (h := h) hL hW) (fun v1 h2 hL hW => ?_)
  refine wif_ne rfl hW (fun hW => ?_) (fun hW => ?_)
  · refine kst rfl rfl ?_
    refine wgetP (b := 16) rfl (oK4 hL rfl) rfl (oP4_1 hL) ?_
    refine wgetP (b := (16 + 2)) rfl (oK3 hL is_4_1) rfl (oP3_6 hL is_4_1) ?_
    iterate 2 (refine kst rfl rfl ?_)
    refine wgetP (b := 9) rfl (oK4 hL rfl) rfl (oP4_0 hL) ?_
    iterate 2 (refine kst rfl rfl ?_)
    refine wcvI rfl (oK9 hL rfl) rfl rfl (R138 (d := d + 1) (h := h2) hL hW) (fun v3 h4 hL hW => ?_)
    obtain ⟨q1, hW⟩ := hW
    refine wast rfl (aK3_6 hL is_4_1) (aN3_6 hL is_4_1) (by decide) q1 ?_
    replace hL : Lay (h4.sI (16 + 2) (ix a1) v3) := lsI hL
    refine kst rfl rfl ?_
    refine wgetP (b := 16) rfl (oK4 hL rfl) rfl (oP4_1 hL) ?_
    refine wgetP (b := (16 + 2)) rfl (oK3 hL is_4_1) rfl (oP3_6 hL is_4_1) ?_
    refine kst rfl rfl ?_
    obtain ⟨q2, hW⟩ := hW
    refine wald rfl (Or.inl (aK3_6 hL is_4_1)) (aN3_6 hL is_4_1) (by decide) q2 ?_
    refine kst rfl rfl ?_
    refine wcm_ne rfl hW (fun hW => ?_) (fun hW => ?_)
    · refine kst rfl rfl ?_
      refine wgetP (b := 16) rfl (oK4 hL rfl) rfl (oP4_1 hL) ?_
      refine wgetP (b := (16 + 3)) rfl (oK3 hL is_4_1) rfl (oP3_7 hL is_4_1) ?_
      iterate 6 (refine kst rfl rfl ?_)
      refine wcvI rfl (oK4 hL rfl) rfl rfl (R80 (d := d + 0) (h := (h4.sI (16 + 2) (ix a1) v3)) hL hW) (fun v5 h6 hL hW => ?_)
      obtain ⟨q3, hW⟩ := hW
      refine wast rfl (aK3_7 hL is_4_1) (aN3_7 hL is_4_1) (by decide) q3 ?_
      replace hL : Lay (h6.sI (16 + 3) (ix a1) v5) := lsI hL
      refine kst rfl rfl ?_
      refine wgetP (b := 16) rfl (oK4 hL rfl) rfl (oP4_1 hL) ?_
      refine wgetP (b := (16 + 3)) rfl (oK3 hL is_4_1) rfl (oP3_7 hL is_4_1) ?_
      refine kst rfl rfl ?_
      obtain ⟨q4, hW⟩ := hW
      refine wald rfl (Or.inl (aK3_7 hL is_4_1)) (aN3_7 hL is_4_1) (by decide) q4 ?_
      refine kst rfl rfl ?_
      refine wcm_ne rfl hW (fun hW => ?_) (fun hW => ?_)
      · refine kst rfl rfl ?_
        refine wgetP (b := 16) rfl (oK4 hL rfl) rfl (oP4_1 hL) ?_
        refine wgetP (b := (16 + 4)) rfl (oK3 hL is_4_1) rfl (oP3_8 hL is_4_1) ?_
        iterate 6 (refine kst rfl rfl ?_)
        refine wcvI rfl (oK4 hL rfl) rfl rfl (R80 (d := d + 0) (h := (h6.sI (16 + 3) (ix a1) v5)) hL hW) (fun v7 h8 hL hW => ?_)
        obtain ⟨q5, hW⟩ := hW
        refine wast rfl (aK3_8 hL is_4_1) (aN3_8 hL is_4_1) (by decide) q5 ?_
        replace hL : Lay (h8.sI (16 + 4) (ix a1) v7) := lsI hL
        refine kst rfl rfl ?_
        refine wgetP (b := 16) rfl (oK4 hL rfl) rfl (oP4_1 hL) ?_
        refine wgetP (b := (16 + 4)) rfl (oK3 hL is_4_1) rfl (oP3_8 hL is_4_1) ?_
        refine kst rfl rfl ?_
        obtain ⟨q6, hW⟩ := hW
        refine wald rfl (Or.inl (aK3_8 hL is_4_1)) (aN3_8 hL is_4_1) (by decide) q6 ?_
        refine kst rfl rfl ?_
        refine wcm_ne rfl hW (fun hW => ?_) (fun hW => ?_)
        · refine kst rfl rfl ?_
          refine wgetP (b := 16) rfl (oK4 hL rfl) rfl (oP4_1 hL) ?_
          refine wgetP (b := (16 + 5)) rfl (oK3 hL is_4_1) rfl (oP3_9 hL is_4_1) ?_
          iterate 6 (refine kst rfl rfl ?_)
          refine wcvI rfl (oK4 hL rfl) rfl rfl (R80 (d := d + 0) (h := (h8.sI (16 + 4) (ix a1) v7)) hL hW) (fun v9 h10 hL hW => ?_)
          obtain ⟨q7, hW⟩ := hW
          refine wast rfl (aK3_9 hL is_4_1) (aN3_9 hL is_4_1) (by decide) q7 ?_
          replace hL : Lay (h10.sI (16 + 5) (ix a1) v9) := lsI hL
          refine kst rfl rfl ?_
          refine wgetP (b := 16) rfl (oK4 hL rfl) rfl (oP4_1 hL) ?_
          refine wgetP (b := (16 + 5)) rfl (oK3 hL is_4_1) rfl (oP3_9 hL is_4_1) ?_
          refine kst rfl rfl ?_
          obtain ⟨q8, hW⟩ := hW
          refine wald rfl (Or.inl (aK3_9 hL is_4_1)) (aN3_9 hL is_4_1) (by decide) q8 ?_
          refine kst rfl rfl ?_
          refine wcm_eq rfl hW (fun hW => ?_) (fun hW => ?_)
          · refine kst rfl rfl ?_
            refine kre rfl rfl ?_
            exact ⟨_, _, rfl, hL, hW⟩
          · iterate 2 (refine kst rfl rfl ?_)
            refine kre rfl rfl ?_
            exact ⟨_, _, rfl, hL, hW⟩
        · refine kst rfl rfl ?_
          refine kre rfl rfl ?_
          exact ⟨_, _, rfl, hL, hW⟩
      · refine kst rfl rfl ?_
        refine kre rfl rfl ?_
        exact ⟨_, _, rfl, hL, hW⟩
    · refine kst rfl rfl ?_
      refine kre rfl rfl ?_
      exact ⟨_, _, rfl, hL, hW⟩
  · refine kst rfl rfl ?_
    refine kre rfl rfl ?_
    exact ⟨_, _, rfl, hL, hW⟩
/-- 81: MenuReader readNeeds -/
def F81_52 (a1 : Int32) (C : Int32 → TH → Prop) (X52 : Int32 × TH → Prop) : Int32 × TH → Prop := fun
  | (x2, h) =>
    if 12 < x2 then (C 1 h) else (if ¬ (h.I 9 9) = 30 then (C 1 h) else (W134  h (fun v2 => W59 16 v2 h (fun v3 => if ¬ v3 = (-1) then (inb a1 12 ∧ if ((h.I (16 + 6) (ix a1)) &&& (ishl 1 v3)) = 0 then (inb a1 12 ∧ inb a1 12 ∧ W133  (h.sI (16 + 6) (ix a1) ((h.I (16 + 6) (ix a1)) ||| (ishl 1 v3))) (fun h4 => X52 ((x2 + 1), h4))) else (W135 5 h (fun v5 h6 => (v5 = 0 ∨ v5 = 1) ∧ C v5 h6))) else (W135 3 h (fun v7 h8 => (v7 = 0 ∨ v7 = 1) ∧ C v7 h8))))))
def B81_52 (a1 : Int32) (x2 : Int32) (h : TH) (C : Int32 → TH → Prop) : Prop := LFP (F81_52 a1 C) (x2, h)
def W81 (a1 : Int32) (h : TH) (C : Int32 → TH → Prop) : Prop :=
  inb a1 12 ∧ if ((h.sI (16 + 6) (ix a1) 0).I 9 9) = 5 then (W133  (h.sI (16 + 6) (ix a1) 0) (fun h1 => if (h1.I 9 9) = 30 then (B81_52 a1 0 h1 C) else (W136  h1 (fun v2 h3 => (v2 = 0 ∨ v2 = 1) ∧ C v2 h3)))) else (C 1 (h.sI (16 + 6) (ix a1) 0))

theorem R81_52 {d : Nat} {a1 : Int32} {x2 : Int32} {h : TH} {C : Int32 → TH → Prop} (hL : Lay h) (hW : B81_52 a1 x2 h C) : xEk (d + 2) 81 (52, [(0, .ref 15), (1, .int a1), (2, .int x2)], [], h.X) (postI C) := by
  refine hW (fun s => Lay (s.2) → xEk (d + 2) 81 (52, [(0, .ref 15), (1, .int a1), (2, .int (s.1))], [], (TH.X (s.2))) (postI C)) ?_ hL
  rintro ⟨x2, h⟩ hW hL
  have k52 : ∀ s : Int32 × TH, (fun s => Lay (s.2) → xEk (d + 2) 81 (52, [(0, .ref 15), (1, .int a1), (2, .int (s.1))], [], (TH.X (s.2))) (postI C)) s → Lay (s.2) → xEk (d + 2) 81 (52, [(0, .ref 15), (1, .int a1), (2, .int (s.1))], [], (TH.X (s.2))) (postI C) := fun s hs => hs
  unfold F81_52 at hW
  dsimp only at hW
  iterate 2 (refine kst rfl rfl ?_)
  refine wcm_gt rfl hW (fun hW => ?_) (fun hW => ?_)
  · refine kst rfl rfl ?_
    refine kre rfl rfl ?_
    exact ⟨_, _, rfl, hL, hW⟩
  · refine kst rfl rfl ?_
    refine wgetP (b := 9) rfl (oK4 hL rfl) rfl (oP4_0 hL) ?_
    refine wgetI rfl (oK9 hL rfl) rfl ?_
    refine kst rfl rfl ?_
    refine wcm_ne rfl hW (fun hW => ?_) (fun hW => ?_)
    · refine kst rfl rfl ?_
      refine kre rfl rfl ?_
      exact ⟨_, _, rfl, hL, hW⟩
    · refine kst rfl rfl ?_
      refine wgetP (b := 16) rfl (oK4 hL rfl) rfl (oP4_1 hL) ?_
      refine kst rfl rfl ?_
      refine wgetP (b := 9) rfl (oK4 hL rfl) rfl (oP4_0 hL) ?_
      refine qcvL rfl (oK9 hL rfl) rfl rfl (R134 (d := d + 1) (h := h) hL hW) (fun v2 hW => ?_)
      refine qcvI rfl (oK3 hL is_4_1) rfl rfl (R59 (d := d + 1) (h := h) is_4_1 hL hW) (fun v3 hW => ?_)
      iterate 3 (refine kst rfl rfl ?_)
      refine wcm_ne rfl hW (fun hW => ?_) (fun hW => ?_)
      · refine kst rfl rfl ?_
        refine wgetP (b := 16) rfl (oK4 hL rfl) rfl (oP4_1 hL) ?_
        refine wgetP (b := (16 + 6)) rfl (oK3 hL is_4_1) rfl (oP3_10 hL is_4_1) ?_
        refine kst rfl rfl ?_
        obtain ⟨q2, hW⟩ := hW
        refine wald rfl (Or.inl (aK3_10 hL is_4_1)) (aN3_10 hL is_4_1) (by decide) q2 ?_
        iterate 4 (refine kst rfl rfl ?_)
        refine wif_eq rfl hW (fun hW => ?_) (fun hW => ?_)
        · refine kst rfl rfl ?_
          refine wgetP (b := 16) rfl (oK4 hL rfl) rfl (oP4_1 hL) ?_
          refine wgetP (b := (16 + 6)) rfl (oK3 hL is_4_1) rfl (oP3_10 hL is_4_1) ?_
          iterate 2 (refine kst rfl rfl ?_)
          obtain ⟨q3, hW⟩ := hW
          refine wald rfl (Or.inl (aK3_10 hL is_4_1)) (aN3_10 hL is_4_1) (by decide) q3 ?_
          iterate 4 (refine kst rfl rfl ?_)
          obtain ⟨q4, hW⟩ := hW
          refine wast rfl (aK3_10 hL is_4_1) (aN3_10 hL is_4_1) (by decide) q4 ?_
          replace hL : Lay (h.sI (16 + 6) (ix a1) ((h.I (16 + 6) (ix a1)) ||| (ishl 1 v3))) := lsI hL
          refine kst rfl rfl ?_
          refine wgetP (b := 9) rfl (oK4 hL rfl) rfl (oP4_0 hL) ?_
          refine wcvV rfl (oK9 hL rfl) rfl rfl (R133 (d := d + 1) (h := (h.sI (16 + 6) (ix a1) ((h.I (16 + 6) (ix a1)) ||| (ishl 1 v3)))) hL hW) (fun h4 hL hW => ?_)
          iterate 2 (refine kst rfl rfl ?_)
          have z9 := k52 ((x2 + 1), h4) hW hL
          refine wjp ?_ z9
          exact ⟨rfl, rfl, rfl, trivial⟩
        · refine kst rfl rfl ?_
          refine wgetP (b := 9) rfl (oK4 hL rfl) rfl (oP4_0 hL) ?_
          refine kst rfl rfl ?_
          refine wcvI rfl (oK9 hL rfl) rfl rfl (R135 (d := d + 1) (h := h) hL hW) (fun v5 h6 hL hW => ?_)
          obtain ⟨q3, hW⟩ := hW
          refine wrZ rfl q3 ?_
          exact ⟨_, _, rfl, hL, hW⟩
      · refine kst rfl rfl ?_
        refine wgetP (b := 9) rfl (oK4 hL rfl) rfl (oP4_0 hL) ?_
        refine kst rfl rfl ?_
        refine wcvI rfl (oK9 hL rfl) rfl rfl (R135 (d := d + 1) (h := h) hL hW) (fun v7 h8 hL hW => ?_)
        obtain ⟨q2, hW⟩ := hW
        refine wrZ rfl q2 ?_
        exact ⟨_, _, rfl, hL, hW⟩
theorem R81 {d : Nat} {a1 : Int32} {h : TH} {C : Int32 → TH → Prop} (hL : Lay h) (hW : W81 a1 h C) : xPk (d + 2) 81 [.ref 15, .int a1] h.X (postI C) := by
  unfold W81 at hW
  refine kin (Nat.le_of_ble_eq_true rfl) ?_
  refine kst rfl rfl ?_
  refine wgetP (b := 16) rfl (oK4 hL rfl) rfl (oP4_1 hL) ?_
  refine wgetP (b := (16 + 6)) rfl (oK3 hL is_4_1) rfl (oP3_10 hL is_4_1) ?_
  iterate 2 (refine kst rfl rfl ?_)
  obtain ⟨q1, hW⟩ := hW
  refine wast rfl (aK3_10 hL is_4_1) (aN3_10 hL is_4_1) (by decide) q1 ?_
  replace hL : Lay (h.sI (16 + 6) (ix a1) 0) := lsI hL
  refine kst rfl rfl ?_
  refine wgetP (b := 9) rfl (oK4 hL rfl) rfl (oP4_0 hL) ?_
  refine wgetI rfl (oK9 hL rfl) rfl ?_
  refine kst rfl rfl ?_
  refine wcm_eq rfl hW (fun hW => ?_) (fun hW => ?_)
  · refine kst rfl rfl ?_
    refine wgetP (b := 9) rfl (oK4 hL rfl) rfl (oP4_0 hL) ?_
    refine wcvV rfl (oK9 hL rfl) rfl rfl (R133 (d := d + 1) (h := (h.sI (16 + 6) (ix a1) 0)) hL hW) (fun h1 hL hW => ?_)
    refine kst rfl rfl ?_
    refine wgetP (b := 9) rfl (oK4 hL rfl) rfl (oP4_0 hL) ?_
    refine wgetI rfl (oK9 hL rfl) rfl ?_
    refine kst rfl rfl ?_
    refine wcm_eq rfl hW (fun hW => ?_) (fun hW => ?_)
    · iterate 2 (refine kst rfl rfl ?_)
      refine wjp ?_ (R81_52 (h := h1) hL hW)
      exact ⟨rfl, rfl, rfl, trivial⟩
    · refine kst rfl rfl ?_
      refine wgetP (b := 9) rfl (oK4 hL rfl) rfl (oP4_0 hL) ?_
      refine wcvI rfl (oK9 hL rfl) rfl rfl (R136 (d := d + 0) (h := h1) hL hW) (fun v2 h3 hL hW => ?_)
      obtain ⟨q2, hW⟩ := hW
      refine wrZ rfl q2 ?_
      exact ⟨_, _, rfl, hL, hW⟩
  · refine kst rfl rfl ?_
    refine kre rfl rfl ?_
    exact ⟨_, _, rfl, hL, hW⟩
