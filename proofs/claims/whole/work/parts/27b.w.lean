/-! WHAT EACH METHOD NEEDS: W: the condition; R: the small machine keeps it (printed by wgen.py) -/
/-- 29: Hand tellCooked -/
def W29 (t : Nat) (a1 : Int32) (h : TH) (C : Int32 → Prop) : Prop :=
  if a1 = 0 then (C (h.I t 3)) else if a1 = 1 then (C (h.I t 4)) else if a1 = 2 then (C (h.I t 5)) else if a1 = 3 then (C (h.I t 7)) else if a1 = 4 then (C (h.I t 1)) else if a1 = 5 then (C (h.I t 8)) else (C (h.I t 9))

theorem R29 {d : Nat} {t : Nat} {a1 : Int32} {h : TH} {C : Int32 → Prop} (ht : is1 t) (hL : Lay h) (hW : W29 t a1 h C) : xPk d 29 [.ref t, .int a1] h.X (qostI h C) := by
  unfold W29 at hW
  refine kin (Nat.le_of_ble_eq_true rfl) ?_
  refine kst rfl rfl ?_
  refine wsw hW (fun c0 hW => ?_) (fun c0 hW => ?_)
  · refine wswi (t := 40) rfl (fun _ => rfl) (swc c0 rfl) ?_
    refine kst rfl rfl ?_
    refine wgetI rfl (oK1 hL ht) rfl ?_
    refine kre rfl rfl ?_
    exact ⟨_, rfl, hW⟩
  refine wsw hW (fun c1 hW => ?_) (fun c1 hW => ?_)
  · refine wswi (t := 45) rfl (fun _ => rfl) (swc c1 rfl) ?_
    refine kst rfl rfl ?_
    refine wgetI rfl (oK1 hL ht) rfl ?_
    refine kre rfl rfl ?_
    exact ⟨_, rfl, hW⟩
  refine wsw hW (fun c2 hW => ?_) (fun c2 hW => ?_)
  · refine wswi (t := 50) rfl (fun _ => rfl) (swc c2 rfl) ?_
    refine kst rfl rfl ?_
    refine wgetI rfl (oK1 hL ht) rfl ?_
    refine kre rfl rfl ?_
    exact ⟨_, rfl, hW⟩
  refine wsw hW (fun c3 hW => ?_) (fun c3 hW => ?_)
  · refine wswi (t := 55) rfl (fun _ => rfl) (swc c3 rfl) ?_
    refine kst rfl rfl ?_
    refine wgetI rfl (oK1 hL ht) rfl ?_
    refine kre rfl rfl ?_
    exact ⟨_, rfl, hW⟩
  refine wsw hW (fun c4 hW => ?_) (fun c4 hW => ?_)
  · refine wswi (t := 60) rfl (fun _ => rfl) (swc c4 rfl) ?_
    refine kst rfl rfl ?_
    refine wgetI rfl (oK1 hL ht) rfl ?_
    refine kre rfl rfl ?_
    exact ⟨_, rfl, hW⟩
  refine wsw hW (fun c5 hW => ?_) (fun c5 hW => ?_)
  · refine wswi (t := 65) rfl (fun _ => rfl) (swc c5 rfl) ?_
    refine kst rfl rfl ?_
    refine wgetI rfl (oK1 hL ht) rfl ?_
    refine kre rfl rfl ?_
    exact ⟨_, rfl, hW⟩
  refine wswi (t := 70) rfl (fun _ => rfl) (tswD (by have z0 := i32ne (k := 0) c0 rfl; have z1 := i32ne (k := 1) c1 rfl; have z2 := i32ne (k := 2) c2 rfl; have z3 := i32ne (k := 3) c3 rfl; have z4 := i32ne (k := 4) c4 rfl; have z5 := i32ne (k := 5) c5 rfl; first | omega | (have z9 := i32ne c0 rfl; omega)) rfl) ?_
  refine kst rfl rfl ?_
  refine wgetI rfl (oK1 hL ht) rfl ?_
  refine kre rfl rfl ?_
  exact ⟨_, rfl, hW⟩
/-- 33: Least isOther -/
def B33_24 (t : Nat) (a1 : Nat) (a2 : Int32) (s0 : Int32) (h : TH) (C : Int32 → TH → Prop) : Prop :=
  (s0 = 0 ∨ s0 = 1) ∧ C s0 (((h.sP t 2 a1).sI t 3 ((h.sP t 2 a1).I a1 0)).sI t 4 a2)
def B33_19 (t : Nat) (a1 : Nat) (a2 : Int32) (h : TH) (C : Int32 → TH → Prop) : Prop :=
  B33_24 t a1 a2 1 h C
def W33 (t : Nat) (a1 : Nat) (a2 : Int32) (h : TH) (C : Int32 → TH → Prop) : Prop :=
  if ¬ (h.I t 3) = (h.I a1 0) then (B33_19 t a1 a2 h C) else (if (h.I t 4) = a2 then (B33_24 t a1 a2 0 h C) else (B33_19 t a1 a2 h C))

theorem R33_24 {d : Nat} {t : Nat} {a1 : Nat} {a2 : Int32} {s0 : Int32} {h : TH} {C : Int32 → TH → Prop} (ht : is2 t) (ha1 : is3 a1) (hL : Lay h) (hW : B33_24 t a1 a2 s0 h C) : xEk d 33 (24, [(0, .ref t), (1, .ref a1), (2, .int a2)], [.int s0], h.X) (postI C) := by
  unfold B33_24 at hW
  iterate 3 (refine kst rfl rfl ?_)
  refine wputP rfl (oK2 hL ht) rfl ?_
  replace hL := ls2_2 hL ht (b := a1)
  iterate 2 (refine kst rfl rfl ?_)
  refine wgetI rfl (oK3 hL ha1) rfl ?_
  refine wputI rfl (oK2 hL ht) rfl ?_
  replace hL : Lay ((h.sP t 2 a1).sI t 3 ((h.sP t 2 a1).I a1 0)) := lsI hL
  iterate 2 (refine kst rfl rfl ?_)
  refine wputI rfl (oK2 hL ht) rfl ?_
  replace hL : Lay (((h.sP t 2 a1).sI t 3 ((h.sP t 2 a1).I a1 0)).sI t 4 a2) := lsI hL
  refine kst rfl rfl ?_
  obtain ⟨q1, hW⟩ := hW
  refine wrZ rfl q1 ?_
  exact ⟨_, _, rfl, hL, hW⟩
theorem R33_19 {d : Nat} {t : Nat} {a1 : Nat} {a2 : Int32} {h : TH} {C : Int32 → TH → Prop} (ht : is2 t) (ha1 : is3 a1) (hL : Lay h) (hW : B33_19 t a1 a2 h C) : xEk d 33 (19, [(0, .ref t), (1, .ref a1), (2, .int a2)], [], h.X) (postI C) := by
  unfold B33_19 at hW
  iterate 2 (refine kst rfl rfl ?_)
  refine wjp ?_ (R33_24 (h := h) ht ha1 hL hW)
  exact ⟨rfl, rfl, rfl, trivial⟩
theorem R33 {d : Nat} {t : Nat} {a1 : Nat} {a2 : Int32} {h : TH} {C : Int32 → TH → Prop} (ht : is2 t) (ha1 : is3 a1) (hL : Lay h) (hW : W33 t a1 a2 h C) : xPk d 33 [.ref t, .ref a1, .int a2] h.X (postI C) := by
  unfold W33 at hW
  refine kin (Nat.le_of_ble_eq_true rfl) ?_
  refine kst rfl rfl ?_
  refine wgetI rfl (oK2 hL ht) rfl ?_
  refine kst rfl rfl ?_
  refine wgetI rfl (oK3 hL ha1) rfl ?_
  refine wcm_ne rfl hW (fun hW => ?_) (fun hW => ?_)
  · refine wjp ?_ (R33_19 (h := h) ht ha1 hL hW)
    exact ⟨rfl, rfl, rfl, trivial⟩
  · refine kst rfl rfl ?_
    refine wgetI rfl (oK2 hL ht) rfl ?_
    refine kst rfl rfl ?_
    refine wcm_eq rfl hW (fun hW => ?_) (fun hW => ?_)
    · refine kst rfl rfl ?_
      refine wjp ?_ (R33_24 (h := h) ht ha1 hL hW)
      exact ⟨rfl, rfl, rfl, trivial⟩
    · refine wjp ?_ (R33_19 (h := h) ht ha1 hL hW)
      exact ⟨rfl, rfl, rfl, trivial⟩
/-- 58: Menu dishesFrom -/
def B58_30 (t : Nat) (a1 : Int32) (x3 : Int32) (s0 : Int32) (s1 : Int32) (h : TH) (C : Int32 → Prop) (X4 : Int32 × Int32 → Prop) : Prop :=
  X4 ((s0 ||| s1), (x3 + 1))
def F58_4 (t : Nat) (a1 : Int32) (h : TH) (C : Int32 → Prop) (X4 : Int32 × Int32 → Prop) : Int32 × Int32 → Prop := fun
  | (x2, x3) =>
    if (h.I t 1) ≤ x3 then (C x2) else (inb x3 12 ∧ if (h.I (t + 3) (ix x3)) < a1 then (B58_30 t a1 x3 x2 0 h C X4) else (B58_30 t a1 x3 x2 (ishl 1 x3) h C X4))
def B58_4 (t : Nat) (a1 : Int32) (x2 : Int32) (x3 : Int32) (h : TH) (C : Int32 → Prop) : Prop := LFP (F58_4 t a1 h C) (x2, x3)
def W58 (t : Nat) (a1 : Int32) (h : TH) (C : Int32 → Prop) : Prop :=
  B58_4 t a1 0 0 h C

theorem R58_30 {d : Nat} {t : Nat} {a1 : Int32} {x3 : Int32} {s0 : Int32} {s1 : Int32} {h : TH} {C : Int32 → Prop} {X4 : Int32 × Int32 → Prop} (k4 : ∀ s : Int32 × Int32, X4 s → xEk d 58 (4, [(0, .ref t), (1, .int a1), (2, .int (s.1)), (3, .int (s.2))], [], (TH.X (h))) (qostI h C)) (ht : is3 t) (hL : Lay h) (hW : B58_30 t a1 x3 s0 s1 h C X4) : xEk d 58 (30, [(0, .ref t), (1, .int a1), (3, .int x3)], [.int s1, .int s0], h.X) (qostI h C) := by
  unfold B58_30 at hW
  iterate 4 (refine kst rfl rfl ?_)
  have z9 := k4 ((s0 ||| s1), (x3 + 1)) hW
  refine wjp ?_ z9
  exact ⟨rfl, rfl, rfl, rfl, trivial⟩
theorem R58_4 {d : Nat} {t : Nat} {a1 : Int32} {x2 : Int32} {x3 : Int32} {h : TH} {C : Int32 → Prop} (ht : is3 t) (hL : Lay h) (hW : B58_4 t a1 x2 x3 h C) : xEk d 58 (4, [(0, .ref t), (1, .int a1), (2, .int x2), (3, .int x3)], [], h.X) (qostI h C) := by
  refine hW (fun s => xEk d 58 (4, [(0, .ref t), (1, .int a1), (2, .int (s.1)), (3, .int (s.2))], [], (TH.X (h))) (qostI h C)) ?_
  rintro ⟨x2, x3⟩ hW 
  have k4 : ∀ s : Int32 × Int32, (fun s => xEk d 58 (4, [(0, .ref t), (1, .int a1), (2, .int (s.1)), (3, .int (s.2))], [], (TH.X (h))) (qostI h C)) s → xEk d 58 (4, [(0, .ref t), (1, .int a1), (2, .int (s.1)), (3, .int (s.2))], [], (TH.X (h))) (qostI h C) := fun s hs => hs
  unfold F58_4 at hW
  dsimp only at hW
  iterate 2 (refine kst rfl rfl ?_)
  refine wgetI rfl (oK3 hL ht) rfl ?_
  refine wcm_ge rfl hW (fun hW => ?_) (fun hW => ?_)
  · refine kst rfl rfl ?_
    refine kre rfl rfl ?_
    exact ⟨_, rfl, hW⟩
  · iterate 2 (refine kst rfl rfl ?_)
    refine wgetP (b := (t + 3)) rfl (oK3 hL ht) rfl (oP3_7 hL ht) ?_
    refine kst rfl rfl ?_
    obtain ⟨q1, hW⟩ := hW
    refine wald rfl (Or.inl (aK3_7 hL ht)) (aN3_7 hL ht) (by decide) q1 ?_
    refine kst rfl rfl ?_
    refine wcm_lt rfl hW (fun hW => ?_) (fun hW => ?_)
    · refine kst rfl rfl ?_
      refine wjp ?_ (R58_30 (h := h) k4 ht hL hW)
      exact ⟨rfl, rfl, rfl, trivial⟩
    · iterate 4 (refine kst rfl rfl ?_)
      refine wjp ?_ (R58_30 (h := h) k4 ht hL hW)
      exact ⟨rfl, rfl, rfl, trivial⟩
theorem R58 {d : Nat} {t : Nat} {a1 : Int32} {h : TH} {C : Int32 → Prop} (ht : is3 t) (hL : Lay h) (hW : W58 t a1 h C) : xPk d 58 [.ref t, .int a1] h.X (qostI h C) := by
  unfold W58 at hW
  refine kin (Nat.le_of_ble_eq_true rfl) ?_
  iterate 4 (refine kst rfl rfl ?_)
  refine wjp ?_ (R58_4 (h := h) ht hL hW)
  exact ⟨rfl, rfl, rfl, rfl, trivial⟩
/-- 111: Room addRule -/
def B111_46 (t : Nat) (a1 : Int32) (a2 : Int32) (h : TH) (C : TH → Prop) : Prop :=
  if 9 ≤ (h.I t 2) then (C h) else (inb (h.I t 2) 9 ∧ inb ((h.sI (t + 1) (ix (h.I t 2)) a1).I t 2) 9 ∧ ∀ h2, h2 = ((h.sI (t + 1) (ix (h.I t 2)) a1).sI (t + 2) (ix ((h.sI (t + 1) (ix (h.I t 2)) a1).I t 2)) a2) → C (h2.sI t 2 ((h2.I t 2) + 1)))
def W111 (t : Nat) (a1 : Int32) (a2 : Int32) (h : TH) (C : TH → Prop) : Prop :=
  W327 a1 h (fun v1 => if a2 < v1 then (if (h.I t 2) ≤ 0 then (B111_46 t a1 a2 h C) else (inb ((h.I t 2) - 1) 9 ∧ if ¬ (h.I (t + 1) (ix ((h.I t 2) - 1))) = a1 then (B111_46 t a1 a2 h C) else (inb ((h.I t 2) - 1) 9 ∧ C (h.sI (t + 2) (ix ((h.I t 2) - 1)) a2)))) else (C h))

theorem R111_46 {d : Nat} {t : Nat} {a1 : Int32} {a2 : Int32} {h : TH} {C : TH → Prop} (ht : is7 t) (hL : Lay h) (hW : B111_46 t a1 a2 h C) : xEk (d + 1) 111 (46, [(0, .ref t), (1, .int a1), (2, .int a2)], [], h.X) (postV C) := by
  unfold B111_46 at hW
  refine kst rfl rfl ?_
  refine wgetI rfl (oK7 hL ht) rfl ?_
  refine kst rfl rfl ?_
  refine wcm_ge rfl hW (fun hW => ?_) (fun hW => ?_)
  · refine kre rfl rfl ?_
    exact ⟨_, rfl, hL, hW⟩
  · refine kst rfl rfl ?_
    refine wgetP (b := (t + 1)) rfl (oK7 hL ht) rfl (oP7_0 hL ht) ?_
    refine kst rfl rfl ?_
    refine wgetI rfl (oK7 hL ht) rfl ?_
    refine kst rfl rfl ?_
    obtain ⟨q1, hW⟩ := hW
    refine wast rfl (aK7_0 hL ht) (aN7_0 hL ht) (by decide) q1 ?_
    replace hL : Lay (h.sI (t + 1) (ix (h.I t 2)) a1) := lsI hL
    refine kst rfl rfl ?_
    refine wgetP (b := (t + 2)) rfl (oK7 hL ht) rfl (oP7_1 hL ht) ?_
    refine kst rfl rfl ?_
    refine wgetI rfl (oK7 hL ht) rfl ?_
    refine kst rfl rfl ?_
    obtain ⟨q2, hW⟩ := hW
    refine wast rfl (aK7_1 hL ht) (aN7_1 hL ht) (by decide) q2 ?_
    replace hL : Lay ((h.sI (t + 1) (ix (h.I t 2)) a1).sI (t + 2) (ix ((h.sI (t + 1) (ix (h.I t 2)) a1).I t 2)) a2) := lsI hL
    iterate 2 (refine kst rfl rfl ?_)
    refine whb (h := ((h.sI (t + 1) (ix (h.I t 2)) a1).sI (t + 2) (ix ((h.sI (t + 1) (ix (h.I t 2)) a1).I t 2)) a2)) (fun h2 eh2 => ?_)
    replace hW := hW h2 eh2
    replace hL : Lay h2 := by rw [eh2]; exact hL
    clear eh2
    refine wgetI rfl (oK7 hL ht) rfl ?_
    iterate 2 (refine kst rfl rfl ?_)
    refine wputI rfl (oK7 hL ht) rfl ?_
    replace hL : Lay (h2.sI t 2 ((h2.I t 2) + 1)) := lsI hL
    refine kre rfl rfl ?_
    exact ⟨_, rfl, hL, hW⟩
theorem R111 {d : Nat} {t : Nat} {a1 : Int32} {a2 : Int32} {h : TH} {C : TH → Prop} (ht : is7 t) (hL : Lay h) (hW : W111 t a1 a2 h C) : xPk (d + 1) 111 [.ref t, .int a1, .int a2] h.X (postV C) := by
  unfold W111 at hW
  refine kin (Nat.le_of_ble_eq_true rfl) ?_
  refine kst rfl rfl ?_
  refine qcaI rfl rfl (R327 (d := d + 0) (h := h) hL hW) (fun v1 hW => ?_)
  refine kst rfl rfl ?_
  refine wcm_gt rfl hW (fun hW => ?_) (fun hW => ?_)
  · refine kst rfl rfl ?_
    refine wgetI rfl (oK7 hL ht) rfl ?_
    refine wif_le rfl hW (fun hW => ?_) (fun hW => ?_)
    · refine wjp ?_ (R111_46 (h := h) ht hL hW)
      exact ⟨rfl, rfl, rfl, trivial⟩
    · refine kst rfl rfl ?_
      refine wgetP (b := (t + 1)) rfl (oK7 hL ht) rfl (oP7_0 hL ht) ?_
      refine kst rfl rfl ?_
      refine wgetI rfl (oK7 hL ht) rfl ?_
      iterate 2 (refine kst rfl rfl ?_)
      obtain ⟨q1, hW⟩ := hW
      refine wald rfl (Or.inl (aK7_0 hL ht)) (aN7_0 hL ht) (by decide) q1 ?_
      refine kst rfl rfl ?_
      refine wcm_ne rfl hW (fun hW => ?_) (fun hW => ?_)
      · refine wjp ?_ (R111_46 (h := h) ht hL hW)
        exact ⟨rfl, rfl, rfl, trivial⟩
      · refine kst rfl rfl ?_
        refine wgetP (b := (t + 2)) rfl (oK7 hL ht) rfl (oP7_1 hL ht) ?_
        refine kst rfl rfl ?_
        refine wgetI rfl (oK7 hL ht) rfl ?_
        iterate 3 (refine kst rfl rfl ?_)
        obtain ⟨q2, hW⟩ := hW
        refine wast rfl (aK7_1 hL ht) (aN7_1 hL ht) (by decide) q2 ?_
        replace hL : Lay (h.sI (t + 2) (ix ((h.I t 2) - 1)) a2) := lsI hL
        refine kst rfl rfl ?_
        refine kre rfl rfl ?_
        exact ⟨_, rfl, hL, hW⟩
  · refine kre rfl rfl ?_
    exact ⟨_, rfl, hL, hW⟩
/-- 109: Room usePots -/
def B109_55 (t : Nat) (a1 : Nat) (a2 : Int32) (x3 : Int32) (x5 : Int32) (s0 : Int32) (s1 : Int32) (h : TH) (C : TH → Prop) (X7 : Int32 × TH → Prop) (X28 : Int32 × Int32 × TH → Prop) : Prop :=
  X28 ((s0 + s1), (x5 + 1), h)
def F109_28 (t : Nat) (a1 : Nat) (a2 : Int32) (x3 : Int32) (C : TH → Prop) (X7 : Int32 × TH → Prop) (X28 : Int32 × Int32 × TH → Prop) : Int32 × Int32 × TH → Prop := fun
  | (x4, x5, h) =>
    if (h.I a1 2) ≤ x5 then (W58 a1 x3 h (fun v1 => W111 t v1 x4 h (fun h2 => X7 ((x3 + 1), h2)))) else (inb x5 8 ∧ if (h.I (a1 + 8) (ix x5)) < x3 then (B109_55 t a1 a2 x3 x5 x4 0 h C X7 X28) else (B109_55 t a1 a2 x3 x5 x4 1 h C X7 X28))
def B109_28 (t : Nat) (a1 : Nat) (a2 : Int32) (x3 : Int32) (x4 : Int32) (x5 : Int32) (h : TH) (C : TH → Prop) (X7 : Int32 × TH → Prop) : Prop := LFP (F109_28 t a1 a2 x3 C X7) (x4, x5, h)
def F109_7 (t : Nat) (a1 : Nat) (a2 : Int32) (C : TH → Prop) (X7 : Int32 × TH → Prop) : Int32 × TH → Prop := fun
  | (x3, h) =>
    if 9 < x3 then (C h) else (if a2 < x3 then (B109_28 t a1 a2 x3 0 0 h C X7) else (B109_28 t a1 a2 x3 1 0 h C X7))
def B109_7 (t : Nat) (a1 : Nat) (a2 : Int32) (x3 : Int32) (h : TH) (C : TH → Prop) : Prop := LFP (F109_7 t a1 a2 C) (x3, h)
def W109 (t : Nat) (a1 : Nat) (a2 : Int32) (h : TH) (C : TH → Prop) : Prop :=
  B109_7 t a1 a2 1 (h.sI t 2 0) C

theorem R109_55 {d : Nat} {t : Nat} {a1 : Nat} {a2 : Int32} {x3 : Int32} {x5 : Int32} {s0 : Int32} {s1 : Int32} {h : TH} {C : TH → Prop} {X7 : Int32 × TH → Prop} (k7 : ∀ s : Int32 × TH, X7 s → Lay (s.2) → xEk (d + 2) 109 (7, [(0, .ref t), (1, .ref a1), (2, .int a2), (3, .int (s.1))], [], (TH.X (s.2))) (postV C)) {X28 : Int32 × Int32 × TH → Prop} (k28 : ∀ s : Int32 × Int32 × TH, X28 s → Lay (s.2.2) → xEk (d + 2) 109 (28, [(0, .ref t), (1, .ref a1), (2, .int a2), (3, .int x3), (4, .int (s.1)), (5, .int (s.2.1))], [], (TH.X (s.2.2))) (postV C)) (ht : is7 t) (ha1 : is3 a1) (hL : Lay h) (hW : B109_55 t a1 a2 x3 x5 s0 s1 h C X7 X28) : xEk (d + 2) 109 (55, [(0, .ref t), (1, .ref a1), (2, .int a2), (3, .int x3), (5, .int x5)], [.int s1, .int s0], h.X) (postV C) := by
  unfold B109_55 at hW
  iterate 4 (refine kst rfl rfl ?_)
  have z9 := k28 ((s0 + s1), (x5 + 1), h) hW hL
  refine wjp ?_ z9
  exact ⟨rfl, rfl, rfl, rfl, rfl, rfl, trivial⟩
theorem R109_28 {d : Nat} {t : Nat} {a1 : Nat} {a2 : Int32} {x3 : Int32} {x4 : Int32} {x5 : Int32} {h : TH} {C : TH → Prop} {X7 : Int32 × TH → Prop} (k7 : ∀ s : Int32 × TH, X7 s → Lay (s.2) → xEk (d + 2) 109 (7, [(0, .ref t), (1, .ref a1), (2, .int a2), (3, .int (s.1))], [], (TH.X (s.2))) (postV C)) (ht : is7 t) (ha1 : is3 a1) (hL : Lay h) (hW : B109_28 t a1 a2 x3 x4 x5 h C X7) : xEk (d + 2) 109 (28, [(0, .ref t), (1, .ref a1), (2, .int a2), (3, .int x3), (4, .int x4), (5, .int x5)], [], h.X) (postV C) := by
  refine hW (fun s => Lay (s.2.2) → xEk (d + 2) 109 (28, [(0, .ref t), (1, .ref a1), (2, .int a2), (3, .int x3), (4, .int (s.1)), (5, .int (s.2.1))], [], (TH.X (s.2.2))) (postV C)) ?_ hL
  rintro ⟨x4, x5, h⟩ hW hL
  have k28 : ∀ s : Int32 × Int32 × TH, (fun s => Lay (s.2.2) → xEk (d + 2) 109 (28, [(0, .ref t), (1, .ref a1), (2, .int a2), (3, .int x3), (4, .int (s.1)), (5, .int (s.2.1))], [], (TH.X (s.2.2))) (postV C)) s → Lay (s.2.2) → xEk (d + 2) 109 (28, [(0, .ref t), (1, .ref a1), (2, .int a2), (3, .int x3), (4, .int (s.1)), (5, .int (s.2.1))], [], (TH.X (s.2.2))) (postV C) := fun s hs => hs
  unfold F109_28 at hW
  dsimp only at hW
  iterate 2 (refine kst rfl rfl ?_)
  refine wgetI rfl (oK3 hL ha1) rfl ?_
  refine wcm_ge rfl hW (fun hW => ?_) (fun hW => ?_)
  · iterate 3 (refine kst rfl rfl ?_)
    refine qcvI rfl (oK3 hL ha1) rfl rfl (R58 (d := d + 1) (h := h) ha1 hL hW) (fun v1 hW => ?_)
    refine kst rfl rfl ?_
    refine wcvV rfl (oK7 hL ht) rfl rfl (R111 (d := d + 0) (h := h) ht hL hW) (fun h2 hL hW => ?_)
    iterate 2 (refine kst rfl rfl ?_)
    have z9 := k7 ((x3 + 1), h2) hW hL
    refine wjp ?_ z9
    exact ⟨rfl, rfl, rfl, rfl, trivial⟩
  · iterate 2 (refine kst rfl rfl ?_)
    refine wgetP (b := (a1 + 8)) rfl (oK3 hL ha1) rfl (oP3_12 hL ha1) ?_
    refine kst rfl rfl ?_
    obtain ⟨q1, hW⟩ := hW
    refine wald rfl (Or.inl (aK3_12 hL ha1)) (aN3_12 hL ha1) (by decide) q1 ?_
    refine kst rfl rfl ?_
    refine wcm_lt rfl hW (fun hW => ?_) (fun hW => ?_)
    · refine kst rfl rfl ?_
      refine wjp ?_ (R109_55 (h := h) k7 k28 ht ha1 hL hW)
      exact ⟨rfl, rfl, rfl, rfl, rfl, trivial⟩
    · iterate 2 (refine kst rfl rfl ?_)
      refine wjp ?_ (R109_55 (h := h) k7 k28 ht ha1 hL hW)
      exact ⟨rfl, rfl, rfl, rfl, rfl, trivial⟩
theorem R109_7 {d : Nat} {t : Nat} {a1 : Nat} {a2 : Int32} {x3 : Int32} {h : TH} {C : TH → Prop} (ht : is7 t) (ha1 : is3 a1) (hL : Lay h) (hW : B109_7 t a1 a2 x3 h C) : xEk (d + 2) 109 (7, [(0, .ref t), (1, .ref a1), (2, .int a2), (3, .int x3)], [], h.X) (postV C) := by
  refine hW (fun s => Lay (s.2) → xEk (d + 2) 109 (7, [(0, .ref t), (1, .ref a1), (2, .int a2), (3, .int (s.1))], [], (TH.X (s.2))) (postV C)) ?_ hL
  rintro ⟨x3, h⟩ hW hL
  have k7 : ∀ s : Int32 × TH, (fun s => Lay (s.2) → xEk (d + 2) 109 (7, [(0, .ref t), (1, .ref a1), (2, .int a2), (3, .int (s.1))], [], (TH.X (s.2))) (postV C)) s → Lay (s.2) → xEk (d + 2) 109 (7, [(0, .ref t), (1, .ref a1), (2, .int a2), (3, .int (s.1))], [], (TH.X (s.2))) (postV C) := fun s hs => hs
  unfold F109_7 at hW
  dsimp only at hW
  iterate 2 (refine kst rfl rfl ?_)
  refine wcm_gt rfl hW (fun hW => ?_) (fun hW => ?_)
  · refine kre rfl rfl ?_
    exact ⟨_, rfl, hL, hW⟩
  · iterate 2 (refine kst rfl rfl ?_)
    refine wcm_lt rfl hW (fun hW => ?_) (fun hW => ?_)
    · iterate 4 (refine kst rfl rfl ?_)
      refine wjp ?_ (R109_28 (h := h) k7 ht ha1 hL hW)
      exact ⟨rfl, rfl, rfl, rfl, rfl, rfl, trivial⟩
    · iterate 5 (refine kst rfl rfl ?_)
      refine wjp ?_ (R109_28 (h := h) k7 ht ha1 hL hW)
      exact ⟨rfl, rfl, rfl, rfl, rfl, rfl, trivial⟩
theorem R109 {d : Nat} {t : Nat} {a1 : Nat} {a2 : Int32} {h : TH} {C : TH → Prop} (ht : is7 t) (ha1 : is3 a1) (hL : Lay h) (hW : W109 t a1 a2 h C) : xPk (d + 2) 109 [.ref t, .ref a1, .int a2] h.X (postV C) := by
  unfold W109 at hW
  refine kin (Nat.le_of_ble_eq_true rfl) ?_
  iterate 2 (refine kst rfl rfl ?_)
  refine wputI rfl (oK7 hL ht) rfl ?_
  replace hL : Lay (h.sI t 2 0) := lsI hL
  iterate 2 (refine kst rfl rfl ?_)
  refine wjp ?_ (R109_7 (h := (h.sI t 2 0)) ht ha1 hL hW)
  exact ⟨rfl, rfl, rfl, rfl, trivial⟩
/-- 329: java/util/Arrays fill -/
def F329_5 (a1 : Nat) (a2 : Int32) (x3 : Int32) (C : TH → Prop) (X5 : Int32 × TH → Prop) : Int32 × TH → Prop := fun
  | (x2, h) =>
    if x3 ≤ x2 then (C h) else (okA h a1 100 x2 ∧ X5 ((x2 + 1), (h.sI a1 (ix x2) a2)))
def B329_5 (a1 : Nat) (a2 : Int32) (x3 : Int32) (x2 : Int32) (h : TH) (C : TH → Prop) : Prop := LFP (F329_5 a1 a2 x3 C) (x2, h)
def W329 (a1 : Nat) (a2 : Int32) (h : TH) (C : TH → Prop) : Prop :=
  h.K a1 = 100 ∧ B329_5 a1 a2 (nI (h.N a1)) 0 h C

theorem R329_5 {d : Nat} {a1 : Nat} {a2 : Int32} {x3 : Int32} {x2 : Int32} {h : TH} {C : TH → Prop} (hL : Lay h) (hW : B329_5 a1 a2 x3 x2 h C) : xEk d 329 (5, [(0, .ref a1), (1, .int a2), (2, .int x2), (3, .int x3)], [], h.X) (postV C) := by
  refine hW (fun s => Lay (s.2) → xEk d 329 (5, [(0, .ref a1), (1, .int a2), (2, .int (s.1)), (3, .int x3)], [], (TH.X (s.2))) (postV C)) ?_ hL
  rintro ⟨x2, h⟩ hW hL
  have k5 : ∀ s : Int32 × TH, (fun s => Lay (s.2) → xEk d 329 (5, [(0, .ref a1), (1, .int a2), (2, .int (s.1)), (3, .int x3)], [], (TH.X (s.2))) (postV C)) s → Lay (s.2) → xEk d 329 (5, [(0, .ref a1), (1, .int a2), (2, .int (s.1)), (3, .int x3)], [], (TH.X (s.2))) (postV C) := fun s hs => hs
  unfold F329_5 at hW
  dsimp only at hW
  iterate 2 (refine kst rfl rfl ?_)
  refine wcm_ge rfl hW (fun hW => ?_) (fun hW => ?_)
  · refine kre rfl rfl ?_
    exact ⟨_, rfl, hL, hW⟩
  · iterate 3 (refine kst rfl rfl ?_)
    obtain ⟨q2, hW⟩ := hW
    refine wast rfl q2.1 rfl q2.2.2 q2.2.1 ?_
    replace hL : Lay (h.sI a1 (ix x2) a2) := lsI hL
    iterate 2 (refine kst rfl rfl ?_)
    have z9 := k5 ((x2 + 1), (h.sI a1 (ix x2) a2)) hW hL
    refine wjp ?_ z9
    exact ⟨rfl, rfl, rfl, rfl, trivial⟩
theorem R329 {d : Nat} {a1 : Nat} {a2 : Int32} {h : TH} {C : TH → Prop} (hL : Lay h) (hW : W329 a1 a2 h C) : xPk d 329 [.ref a1, .int a2] h.X (postV C) := by
  unfold W329 at hW
  refine kin (Nat.le_of_ble_eq_true rfl) ?_
  iterate 3 (refine kst rfl rfl ?_)
  obtain ⟨q1, hW⟩ := hW
  refine walen (kd := 0) rfl q1 (by decide) rfl ?_
  refine kst rfl rfl ?_
  refine wjp ?_ (R329_5 (h := h) hL hW)
  exact ⟨rfl, rfl, rfl, rfl, trivial⟩
/-- 39: Least rise -/
def B39_85 (t : Nat) (a1 : Int32) (x2 : Int32) (h : TH) (C : TH → Prop) : Prop :=
  h.P t 6 = some (h.R t 6) ∧ okA h (h.R t 6) 100 x2 ∧ (h.sI (h.R t 6) (ix x2) a1).P t 7 = some ((h.sI (h.R t 6) (ix x2) a1).R t 7) ∧ okA (h.sI (h.R t 6) (ix x2) a1) ((h.sI (h.R t 6) (ix x2) a1).R t 7) 100 a1 ∧ C ((h.sI (h.R t 6) (ix x2) a1).sI ((h.sI (h.R t 6) (ix x2) a1).R t 7) (ix a1) x2)
def F39_9 (t : Nat) (a1 : Int32) (C : TH → Prop) (X9 : Int32 × Int32 × TH → Prop) : Int32 × Int32 × TH → Prop := fun
  | (x2, x3, h) =>
    if 4096 ≤ x3 then (B39_85 t a1 x2 h C) else (if x2 ≤ 0 then (B39_85 t a1 x2 h C) else (h.P t 5 = some (h.R t 5) ∧ h.P t 6 = some (h.R t 6) ∧ okA h (h.R t 6) 100 ((x2 - 1) / 2) ∧ okA h (h.R t 5) 100 (h.I (h.R t 6) (ix ((x2 - 1) / 2))) ∧ h.P t 5 = some (h.R t 5) ∧ okA h (h.R t 5) 100 a1 ∧ if (h.I (h.R t 5) (ix a1)) < (h.I (h.R t 5) (ix (h.I (h.R t 6) (ix ((x2 - 1) / 2))))) then (h.P t 6 = some (h.R t 6) ∧ h.P t 6 = some (h.R t 6) ∧ okA h (h.R t 6) 100 ((x2 - 1) / 2) ∧ okA h (h.R t 6) 100 x2 ∧ (h.sI (h.R t 6) (ix x2) (h.I (h.R t 6) (ix ((x2 - 1) / 2)))).P t 7 = some ((h.sI (h.R t 6) (ix x2) (h.I (h.R t 6) (ix ((x2 - 1) / 2)))).R t 7) ∧ (h.sI (h.R t 6) (ix x2) (h.I (h.R t 6) (ix ((x2 - 1) / 2)))).P t 6 = some ((h.sI (h.R t 6) (ix x2) (h.I (h.R t 6) (ix ((x2 - 1) / 2)))).R t 6) ∧ okA (h.sI (h.R t 6) (ix x2) (h.I (h.R t 6) (ix ((x2 - 1) / 2)))) ((h.sI (h.R t 6) (ix x2) (h.I (h.R t 6) (ix ((x2 - 1) / 2)))).R t 6) 100 x2 ∧ okA (h.sI (h.R t 6) (ix x2) (h.I (h.R t 6) (ix ((x2 - 1) / 2)))) ((h.sI (h.R t 6) (ix x2) (h.I (h.R t 6) (ix ((x2 - 1) / 2)))).R t 7) 100 ((h.sI (h.R t 6) (ix x2) (h.I (h.R t 6) (ix ((x2 - 1) / 2)))).I ((h.sI (h.R t 6) (ix x2) (h.I (h.R t 6) (ix ((x2 - 1) / 2)))).R t 6) (ix x2)) ∧ X9 (((x2 - 1) / 2), (x3 + 1), ((h.sI (h.R t 6) (ix x2) (h.I (h.R t 6) (ix ((x2 - 1) / 2)))).sI ((h.sI (h.R t 6) (ix x2) (h.I (h.R t 6) (ix ((x2 - 1) / 2)))).R t 7) (ix ((h.sI (h.R t 6) (ix x2) (h.I (h.R t 6) (ix ((x2 - 1) / 2)))).I ((h.sI (h.R t 6) (ix x2) (h.I (h.R t 6) (ix ((x2 - 1) / 2)))).R t 6) (ix x2))) x2))) else (B39_85 t a1 x2 h C)))
def B39_9 (t : Nat) (a1 : Int32) (x2 : Int32) (x3 : Int32) (h : TH) (C : TH → Prop) : Prop := LFP (F39_9 t a1 C) (x2, x3, h)
def W39 (t : Nat) (a1 : Int32) (h : TH) (C : TH → Prop) : Prop :=
  h.P t 7 = some (h.R t 7) ∧ okA h (h.R t 7) 100 a1 ∧ B39_9 t a1 (h.I (h.R t 7) (ix a1)) 0 h C

theorem R39_85 {d : Nat} {t : Nat} {a1 : Int32} {x2 : Int32} {h : TH} {C : TH → Prop} (ht : is2 t) (hL : Lay h) (hW : B39_85 t a1 x2 h C) : xEk d 39 (85, [(0, .ref t), (1, .int a1), (2, .int x2)], [], h.X) (postV C) := by
  unfold B39_85 at hW
  refine kst rfl rfl ?_
  obtain ⟨q3, hW⟩ := hW
  refine wgetP rfl (oK2 hL ht) rfl q3 ?_
  iterate 2 (refine kst rfl rfl ?_)
  obtain ⟨q4, hW⟩ := hW
  refine wast rfl q4.1 rfl q4.2.2 q4.2.1 ?_
  replace hL : Lay (h.sI (h.R t 6) (ix x2) a1) := lsI hL
  refine kst rfl rfl ?_
  obtain ⟨q5, hW⟩ := hW
  refine wgetP rfl (oK2 hL ht) rfl q5 ?_
  iterate 2 (refine kst rfl rfl ?_)
  obtain ⟨q6, hW⟩ := hW
  refine wast rfl q6.1 rfl q6.2.2 q6.2.1 ?_
  replace hL : Lay ((h.sI (h.R t 6) (ix x2) a1).sI ((h.sI (h.R t 6) (ix x2) a1).R t 7) (ix a1) x2) := lsI hL
  refine kre rfl rfl ?_
  exact ⟨_, rfl, hL, hW⟩
theorem R39_9 {d : Nat} {t : Nat} {a1 : Int32} {x2 : Int32} {x3 : Int32} {h : TH} {C : TH → Prop} (ht : is2 t) (hL : Lay h) (hW : B39_9 t a1 x2 x3 h C) : xEk d 39 (9, [(0, .ref t), (1, .int a1), (2, .int x2), (3, .int x3)], [], h.X) (postV C) := by
  refine hW (fun s => Lay (s.2.2) → xEk d 39 (9, [(0, .ref t), (1, .int a1), (2, .int (s.1)), (3, .int (s.2.1))], [], (TH.X (s.2.2))) (postV C)) ?_ hL
  rintro ⟨x2, x3, h⟩ hW hL
  have k9 : ∀ s : Int32 × Int32 × TH, (fun s => Lay (s.2.2) → xEk d 39 (9, [(0, .ref t), (1, .int a1), (2, .int (s.1)), (3, .int (s.2.1))], [], (TH.X (s.2.2))) (postV C)) s → Lay (s.2.2) → xEk d 39 (9, [(0, .ref t), (1, .int a1), (2, .int (s.1)), (3, .int (s.2.1))], [], (TH.X (s.2.2))) (postV C) := fun s hs => hs
  unfold F39_9 at hW
  dsimp only at hW
  iterate 2 (refine kst rfl rfl ?_)
  refine wcm_ge rfl hW (fun hW => ?_) (fun hW => ?_)
  · refine wjp ?_ (R39_85 (h := h) ht hL hW)
    exact ⟨rfl, rfl, rfl, trivial⟩
  · refine kst rfl rfl ?_
    refine wif_le rfl hW (fun hW => ?_) (fun hW => ?_)
    · refine wjp ?_ (R39_85 (h := h) ht hL hW)
      exact ⟨rfl, rfl, rfl, trivial⟩
    · iterate 4 (refine kst rfl rfl ?_)
      refine wdiv rfl (by decide) ?_
      iterate 2 (refine kst rfl rfl ?_)
      obtain ⟨q3, hW⟩ := hW
      refine wgetP rfl (oK2 hL ht) rfl q3 ?_
      refine kst rfl rfl ?_
      obtain ⟨q4, hW⟩ := hW
      refine wgetP rfl (oK2 hL ht) rfl q4 ?_
      refine kst rfl rfl ?_
      obtain ⟨q5, hW⟩ := hW
      refine wald rfl (Or.inl q5.1) rfl q5.2.2 q5.2.1 ?_
      obtain ⟨q6, hW⟩ := hW
      refine wald rfl (Or.inl q6.1) rfl q6.2.2 q6.2.1 ?_
      refine kst rfl rfl ?_
      obtain ⟨q7, hW⟩ := hW
      refine wgetP rfl (oK2 hL ht) rfl q7 ?_
      refine kst rfl rfl ?_
      obtain ⟨q8, hW⟩ := hW
      refine wald rfl (Or.inl q8.1) rfl q8.2.2 q8.2.1 ?_
      refine wcm_gt rfl hW (fun hW => ?_) (fun hW => ?_)
      · refine kst rfl rfl ?_
        obtain ⟨q9, hW⟩ := hW
        refine wgetP rfl (oK2 hL ht) rfl q9 ?_
        iterate 2 (refine kst rfl rfl ?_)
        obtain ⟨q10, hW⟩ := hW
        refine wgetP rfl (oK2 hL ht) rfl q10 ?_
        refine kst rfl rfl ?_
        obtain ⟨q11, hW⟩ := hW
        refine wald rfl (Or.inl q11.1) rfl q11.2.2 q11.2.1 ?_
        obtain ⟨q12, hW⟩ := hW
        refine wast rfl q12.1 rfl q12.2.2 q12.2.1 ?_
        replace hL : Lay (h.sI (h.R t 6) (ix x2) (h.I (h.R t 6) (ix ((x2 - 1) / 2)))) := lsI hL
        refine kst rfl rfl ?_
        obtain ⟨q13, hW⟩ := hW
        refine wgetP rfl (oK2 hL ht) rfl q13 ?_
        refine kst rfl rfl ?_
        obtain ⟨q14, hW⟩ := hW
        refine wgetP rfl (oK2 hL ht) rfl q14 ?_
        refine kst rfl rfl ?_
        obtain ⟨q15, hW⟩ := hW
        refine wald rfl (Or.inl q15.1) rfl q15.2.2 q15.2.1 ?_
        refine kst rfl rfl ?_
        obtain ⟨q16, hW⟩ := hW
        refine wast rfl q16.1 rfl q16.2.2 q16.2.1 ?_
        replace hL : Lay ((h.sI (h.R t 6) (ix x2) (h.I (h.R t 6) (ix ((x2 - 1) / 2)))).sI ((h.sI (h.R t 6) (ix x2) (h.I (h.R t 6) (ix ((x2 - 1) / 2)))).R t 7) (ix ((h.sI (h.R t 6) (ix x2) (h.I (h.R t 6) (ix ((x2 - 1) / 2)))).I ((h.sI (h.R t 6) (ix x2) (h.I (h.R t 6) (ix ((x2 - 1) / 2)))).R t 6) (ix x2))) x2) := lsI hL
        iterate 4 (refine kst rfl rfl ?_)
        have z9 := k9 (((x2 - 1) / 2), (x3 + 1), ((h.sI (h.R t 6) (ix x2) (h.I (h.R t 6) (ix ((x2 - 1) / 2)))).sI ((h.sI (h.R t 6) (ix x2) (h.I (h.R t 6) (ix ((x2 - 1) / 2)))).R t 7) (ix ((h.sI (h.R t 6) (ix x2) (h.I (h.R t 6) (ix ((x2 - 1) / 2)))).I ((h.sI (h.R t 6) (ix x2) (h.I (h.R t 6) (ix ((x2 - 1) / 2)))).R t 6) (ix x2))) x2)) hW hL
        refine wjp ?_ z9
        exact ⟨rfl, rfl, rfl, rfl, trivial⟩
      · refine kst rfl rfl ?_
        refine wjp ?_ (R39_85 (h := h) ht hL hW)
        exact ⟨rfl, rfl, rfl, trivial⟩
theorem R39 {d : Nat} {t : Nat} {a1 : Int32} {h : TH} {C : TH → Prop} (ht : is2 t) (hL : Lay h) (hW : W39 t a1 h C) : xPk d 39 [.ref t, .int a1] h.X (postV C) := by
  unfold W39 at hW
  refine kin (Nat.le_of_ble_eq_true rfl) ?_
  refine kst rfl rfl ?_
  obtain ⟨q1, hW⟩ := hW
  refine wgetP rfl (oK2 hL ht) rfl q1 ?_
  refine kst rfl rfl ?_
  obtain ⟨q2, hW⟩ := hW
  refine wald rfl (Or.inl q2.1) rfl q2.2.2 q2.2.1 ?_
  iterate 3 (refine kst rfl rfl ?_)
  refine wjp ?_ (R39_9 (h := h) ht hL hW)
  exact ⟨rfl, rfl, rfl, rfl, trivial⟩
/-- 38: Least offer -/
def B38_42 (t : Nat) (a1 : Int32) (a2 : Int32) (h : TH) (C : TH → Prop) : Prop :=
  h.P t 5 = some (h.R t 5) ∧ okA h (h.R t 5) 100 a1 ∧ W39 t a1 (h.sI (h.R t 5) (ix a1) a2) (fun h1 => C h1)
def W38 (t : Nat) (a1 : Int32) (a2 : Int32) (h : TH) (C : TH → Prop) : Prop :=
  h.P t 5 = some (h.R t 5) ∧ okA h (h.R t 5) 100 a1 ∧ if a2 < (h.I (h.R t 5) (ix a1)) then (h.P t 5 = some (h.R t 5) ∧ okA h (h.R t 5) 100 a1 ∧ if ¬ (h.I (h.R t 5) (ix a1)) = 2147483647 then (B38_42 t a1 a2 h C) else (h.P t 7 = some (h.R t 7) ∧ okA h (h.R t 7) 100 a1 ∧ B38_42 t a1 a2 ((h.sI (h.R t 7) (ix a1) (h.I t 10)).sI t 10 (((h.sI (h.R t 7) (ix a1) (h.I t 10)).I t 10) + 1)) C)) else (C h)

theorem R38_42 {d : Nat} {t : Nat} {a1 : Int32} {a2 : Int32} {h : TH} {C : TH → Prop} (ht : is2 t) (hL : Lay h) (hW : B38_42 t a1 a2 h C) : xEk (d + 1) 38 (42, [(0, .ref t), (1, .int a1), (2, .int a2)], [], h.X) (postV C) := by
  unfold B38_42 at hW
  refine kst rfl rfl ?_
  obtain ⟨q5, hW⟩ := hW
  refine wgetP rfl (oK2 hL ht) rfl q5 ?_
  iterate 2 (refine kst rfl rfl ?_)
  obtain ⟨q6, hW⟩ := hW
  refine wast rfl q6.1 rfl q6.2.2 q6.2.1 ?_
  replace hL : Lay (h.sI (h.R t 5) (ix a1) a2) := lsI hL
  iterate 2 (refine kst rfl rfl ?_)
  refine wcvV rfl (oK2 hL ht) rfl rfl (R39 (d := d + 0) (h := (h.sI (h.R t 5) (ix a1) a2)) ht hL hW) (fun h1 hL hW => ?_)
  refine kre rfl rfl ?_
  exact ⟨_, rfl, hL, hW⟩
theorem R38 {d : Nat} {t : Nat} {a1 : Int32} {a2 : Int32} {h : TH} {C : TH → Prop} (ht : is2 t) (hL : Lay h) (hW : W38 t a1 a2 h C) : xPk (d + 1) 38 [.ref t, .int a1, .int a2] h.X (postV C) := by
  unfold W38 at hW
  refine kin (Nat.le_of_ble_eq_true rfl) ?_
  iterate 2 (refine kst rfl rfl ?_)
  obtain ⟨q1, hW⟩ := hW
  refine wgetP rfl (oK2 hL ht) rfl q1 ?_
  refine kst rfl rfl ?_
  obtain ⟨q2, hW⟩ := hW
  refine wald rfl (Or.inl q2.1) rfl q2.2.2 q2.2.1 ?_
  refine wcm_lt rfl hW (fun hW => ?_) (fun hW => ?_)
  · refine kst rfl rfl ?_
    obtain ⟨q3, hW⟩ := hW
    refine wgetP rfl (oK2 hL ht) rfl q3 ?_
    refine kst rfl rfl ?_
    obtain ⟨q4, hW⟩ := hW
    refine wald rfl (Or.inl q4.1) rfl q4.2.2 q4.2.1 ?_
    refine kst rfl rfl ?_
    refine wcm_ne rfl hW (fun hW => ?_) (fun hW => ?_)
    · refine wjp ?_ (R38_42 (h := h) ht hL hW)
      exact ⟨rfl, rfl, rfl, trivial⟩
    · refine kst rfl rfl ?_
      obtain ⟨q5, hW⟩ := hW
      refine wgetP rfl (oK2 hL ht) rfl q5 ?_
      iterate 2 (refine kst rfl rfl ?_)
      refine wgetI rfl (oK2 hL ht) rfl ?_
      obtain ⟨q6, hW⟩ := hW
      refine wast rfl q6.1 rfl q6.2.2 q6.2.1 ?_
      replace hL : Lay (h.sI (h.R t 7) (ix a1) (h.I t 10)) := lsI hL
      iterate 2 (refine kst rfl rfl ?_)
      refine wgetI rfl (oK2 hL ht) rfl ?_
      iterate 2 (refine kst rfl rfl ?_)
      refine wputI rfl (oK2 hL ht) rfl ?_
      replace hL : Lay ((h.sI (h.R t 7) (ix a1) (h.I t 10)).sI t 10 (((h.sI (h.R t 7) (ix a1) (h.I t 10)).I t 10) + 1)) := lsI hL
      refine wjp ?_ (R38_42 (h := ((h.sI (h.R t 7) (ix a1) (h.I t 10)).sI t 10 (((h.sI (h.R t 7) (ix a1) (h.I t 10)).I t 10) + 1))) ht hL hW)
      exact ⟨rfl, rfl, rfl, trivial⟩
  · refine kre rfl rfl ?_
    exact ⟨_, rfl, hL, hW⟩
/-- 34: Least restart -/
def B34_54 (t : Nat) (h : TH) (C : TH → Prop) : Prop :=
  h.P t 5 = some (h.R t 5) ∧ W329 (h.R t 5) 2147483647 h (fun h1 => W38 t 0 0 ((h1.sI t 10 0).sI t 11 0) (fun h2 => C h2))
def W34 (t : Nat) (h : TH) (C : TH → Prop) : Prop :=
  h.P t 2 = some (h.R t 2) ∧ is3 (h.R t 2) ∧ h.P t 5 = some (h.R t 5) ∧ h.K (h.R t 5) = 100 ∧ if (ishl 1 (h.I (h.R t 2) 1)) ≤ (nI (h.N (h.R t 5))) then (B34_54 t h C) else (inb (ishl 1 (h.I (h.R t 2) 1)) 60001 ∧ h.n < 1000000 ∧ inb (ishl 1 (h.I (h.R t 2) 1)) 60001 ∧ ((h.new 100 (ix (ishl 1 (h.I (h.R t 2) 1))) (ix (ishl 1 (h.I (h.R t 2) 1)))).sP t 5 h.n).n < 1000000 ∧ ∀ h1, h1 = (((h.new 100 (ix (ishl 1 (h.I (h.R t 2) 1))) (ix (ishl 1 (h.I (h.R t 2) 1)))).sP t 5 h.n).new 100 (ix (ishl 1 (h.I (h.R t 2) 1))) (ix (ishl 1 (h.I (h.R t 2) 1)))) → ∀ h2, h2 = (h1.sP t 6 (((h.new 100 (ix (ishl 1 (h.I (h.R t 2) 1))) (ix (ishl 1 (h.I (h.R t 2) 1)))).sP t 5 h.n).n)) → inb (ishl 1 (h.I (h.R t 2) 1)) 60001 ∧ h2.n < 1000000 ∧ inb (ishl 1 (h.I (h.R t 2) 1)) 60001 ∧ ((h2.new 100 (ix (ishl 1 (h.I (h.R t 2) 1))) (ix (ishl 1 (h.I (h.R t 2) 1)))).sP t 7 h2.n).n < 1000000 ∧ ∀ h3, h3 = (((h2.new 100 (ix (ishl 1 (h.I (h.R t 2) 1))) (ix (ishl 1 (h.I (h.R t 2) 1)))).sP t 7 h2.n).new 100 (ix (ishl 1 (h.I (h.R t 2) 1))) (ix (ishl 1 (h.I (h.R t 2) 1)))) → ∀ h4, h4 = (h3.sP t 8 (((h2.new 100 (ix (ishl 1 (h.I (h.R t 2) 1))) (ix (ishl 1 (h.I (h.R t 2) 1)))).sP t 7 h2.n).n)) → inb (ishl 1 (h.I (h.R t 2) 1)) 60001 ∧ h4.n < 1000000 ∧ B34_54 t ((h4.new 102 (ix (ishl 1 (h.I (h.R t 2) 1))) (ix (ishl 1 (h.I (h.R t 2) 1)))).sP t 9 h4.n) C)

theorem R34_54 {d : Nat} {t : Nat} {h : TH} {C : TH → Prop} (ht : is2 t) (hL : Lay h) (hW : B34_54 t h C) : xEk (d + 2) 34 (54, [(0, .ref t)], [], h.X) (postV C) := by
  unfold B34_54 at hW
  refine kst rfl rfl ?_
  obtain ⟨q5, hW⟩ := hW
  refine wgetP rfl (oK2 hL ht) rfl q5 ?_
  refine kst rfl rfl ?_
  refine wcaV rfl rfl (R329 (d := d + 1) (h := h) hL hW) (fun h1 hL hW => ?_)
  iterate 2 (refine kst rfl rfl ?_)
  refine wputI rfl (oK2 hL ht) rfl ?_
  replace hL : Lay (h1.sI t 10 0) := lsI hL
  iterate 2 (refine kst rfl rfl ?_)
  refine wputI rfl (oK2 hL ht) rfl ?_
  replace hL : Lay ((h1.sI t 10 0).sI t 11 0) := lsI hL
  iterate 3 (refine kst rfl rfl ?_)
  refine wcvV rfl (oK2 hL ht) rfl rfl (R38 (d := d + 0) (h := ((h1.sI t 10 0).sI t 11 0)) ht hL hW) (fun h2 hL hW => ?_)
  refine kre rfl rfl ?_
  exact ⟨_, rfl, hL, hW⟩
theorem R34 {d : Nat} {t : Nat} {h : TH} {C : TH → Prop} (ht : is2 t) (hL : Lay h) (hW : W34 t h C) : xPk (d + 2) 34 [.ref t] h.X (postV C) := by
  unfold W34 at hW
  refine kin (Nat.le_of_ble_eq_true rfl) ?_
  iterate 2 (refine kst rfl rfl ?_)
  obtain ⟨q1, hW⟩ := hW
  obtain ⟨q2, hW⟩ := hW
  refine wgetP rfl (oK2 hL ht) rfl q1 ?_
  refine wgetI rfl (oK3 hL q2) rfl ?_
  iterate 3 (refine kst rfl rfl ?_)
  obtain ⟨q3, hW⟩ := hW
  refine wgetP rfl (oK2 hL ht) rfl q3 ?_
  obtain ⟨q4, hW⟩ := hW
  refine walen (kd := 0) rfl q4 (by decide) rfl ?_
  refine kst rfl rfl ?_
  refine wcm_ge rfl hW (fun hW => ?_) (fun hW => ?_)
  · refine wjp ?_ (R34_54 (h := h) ht hL hW)
    exact ⟨rfl, trivial⟩
  · iterate 2 (refine kst rfl rfl ?_)
    obtain ⟨q5, hW⟩ := hW
    obtain ⟨q6, hW⟩ := hW
    refine wnewA rfl (by decide) q5 ?_
    replace hL := lnew hL (k := 100) (l := (ix (ishl 1 (h.I (h.R t 2) 1)))) (m := (ix (ishl 1 (h.I (h.R t 2) 1)))) q6
    refine wputP rfl (oK2 hL ht) rfl ?_
    replace hL := ls2_5 hL ht (b := h.n)
    iterate 2 (refine kst rfl rfl ?_)
    obtain ⟨q7, hW⟩ := hW
    obtain ⟨q8, hW⟩ := hW
    refine wnewA rfl (by decide) q7 ?_
    replace hL := lnew hL (k := 100) (l := (ix (ishl 1 (h.I (h.R t 2) 1)))) (m := (ix (ishl 1 (h.I (h.R t 2) 1)))) q8
    refine whb (h := (((h.new 100 (ix (ishl 1 (h.I (h.R t 2) 1))) (ix (ishl 1 (h.I (h.R t 2) 1)))).sP t 5 h.n).new 100 (ix (ishl 1 (h.I (h.R t 2) 1))) (ix (ishl 1 (h.I (h.R t 2) 1))))) (fun h1 eh1 => ?_)
    replace hW := hW h1 eh1
    replace hL : Lay h1 := by rw [eh1]; exact hL
    clear eh1
    refine wputP rfl (oK2 hL ht) rfl ?_
    replace hL := ls2_6 hL ht (b := ((h.new 100 (ix (ishl 1 (h.I (h.R t 2) 1))) (ix (ishl 1 (h.I (h.R t 2) 1)))).sP t 5 h.n).n)
    iterate 2 (refine kst rfl rfl ?_)
    refine whb (h := (h1.sP t 6 (((h.new 100 (ix (ishl 1 (h.I (h.R t 2) 1))) (ix (ishl 1 (h.I (h.R t 2) 1)))).sP t 5 h.n).n))) (fun h2 eh2 => ?_)
    replace hW := hW h2 eh2
    replace hL : Lay h2 := by rw [eh2]; exact hL
    clear eh2
    obtain ⟨q9, hW⟩ := hW
    obtain ⟨q10, hW⟩ := hW
    refine wnewA rfl (by decide) q9 ?_
    replace hL := lnew hL (k := 100) (l := (ix (ishl 1 (h.I (h.R t 2) 1)))) (m := (ix (ishl 1 (h.I (h.R t 2) 1)))) q10
    refine wputP rfl (oK2 hL ht) rfl ?_
    replace hL := ls2_7 hL ht (b := h2.n)
    iterate 2 (refine kst rfl rfl ?_)
    obtain ⟨q11, hW⟩ := hW
    obtain ⟨q12, hW⟩ := hW
    refine wnewA rfl (by decide) q11 ?_
    replace hL := lnew hL (k := 100) (l := (ix (ishl 1 (h.I (h.R t 2) 1)))) (m := (ix (ishl 1 (h.I (h.R t 2) 1)))) q12
    refine whb (h := (((h2.new 100 (ix (ishl 1 (h.I (h.R t 2) 1))) (ix (ishl 1 (h.I (h.R t 2) 1)))).sP t 7 h2.n).new 100 (ix (ishl 1 (h.I (h.R t 2) 1))) (ix (ishl 1 (h.I (h.R t 2) 1))))) (fun h3 eh3 => ?_)
    replace hW := hW h3 eh3
    replace hL : Lay h3 := by rw [eh3]; exact hL
    clear eh3
    refine wputP rfl (oK2 hL ht) rfl ?_
    replace hL := ls2_8 hL ht (b := ((h2.new 100 (ix (ishl 1 (h.I (h.R t 2) 1))) (ix (ishl 1 (h.I (h.R t 2) 1)))).sP t 7 h2.n).n)
    iterate 2 (refine kst rfl rfl ?_)
    refine whb (h := (h3.sP t 8 (((h2.new 100 (ix (ishl 1 (h.I (h.R t 2) 1))) (ix (ishl 1 (h.I (h.R t 2) 1)))).sP t 7 h2.n).n))) (fun h4 eh4 => ?_)
    replace hW := hW h4 eh4
    replace hL : Lay h4 := by rw [eh4]; exact hL
    clear eh4
    obtain ⟨q13, hW⟩ := hW
    obtain ⟨q14, hW⟩ := hW
    refine wnewA rfl (by decide) q13 ?_
    replace hL := lnew hL (k := 102) (l := (ix (ishl 1 (h.I (h.R t 2) 1)))) (m := (ix (ishl 1 (h.I (h.R t 2) 1)))) q14
    refine wputP rfl (oK2 hL ht) rfl ?_
    replace hL := ls2_9 hL ht (b := h4.n)
    refine wjp ?_ (R34_54 (h := ((h4.new 102 (ix (ishl 1 (h.I (h.R t 2) 1))) (ix (ishl 1 (h.I (h.R t 2) 1)))).sP t 9 h4.n)) ht hL hW)
    exact ⟨rfl, trivial⟩
/-- 31: Least useKitchen -/
def W31 (t : Nat) (a1 : Nat) (a2 : Int32) (h : TH) (C : TH → Prop) : Prop :=
  W33 t a1 (100 + a2) h (fun v1 h2 => if v1 = 0 then (C h2) else (W109 (t + 1) a1 a2 h2 (fun h3 => W34 t h3 (fun h4 => C h4))))

theorem R31 {d : Nat} {t : Nat} {a1 : Nat} {a2 : Int32} {h : TH} {C : TH → Prop} (ht : is2 t) (ha1 : is3 a1) (hL : Lay h) (hW : W31 t a1 a2 h C) : xPk (d + 3) 31 [.ref t, .ref a1, .int a2] h.X (postV C) := by
  unfold W31 at hW
  refine kin (Nat.le_of_ble_eq_true rfl) ?_
  iterate 5 (refine kst rfl rfl ?_)
  refine wcvI rfl (oK2 hL ht) rfl rfl (R33 (d := d + 2) (h := h) ht ha1 hL hW) (fun v1 h2 hL hW => ?_)
  refine wif_eq rfl hW (fun hW => ?_) (fun hW => ?_)
  · refine kre rfl rfl ?_
    exact ⟨_, rfl, hL, hW⟩
  · refine kst rfl rfl ?_
    refine wgetP (b := (t + 1)) rfl (oK2 hL ht) rfl (oP2_1 hL ht) ?_
    iterate 2 (refine kst rfl rfl ?_)
    refine wcvV rfl (oK7 hL (is_2_1 ht)) rfl rfl (R109 (d := d + 0) (h := h2) (is_2_1 ht) ha1 hL hW) (fun h3 hL hW => ?_)
    refine kst rfl rfl ?_
    refine wcvV rfl (oK2 hL ht) rfl rfl (R34 (d := d + 0) (h := h3) ht hL hW) (fun h4 hL hW => ?_)
    refine kre rfl rfl ?_
    exact ⟨_, rfl, hL, hW⟩
/-- 57: Menu allDishes -/
def W57 (t : Nat) (h : TH) (C : Int32 → Prop) : Prop :=
  C ((ishl 1 (h.I t 1)) - 1)

theorem R57 {d : Nat} {t : Nat} {h : TH} {C : Int32 → Prop} (ht : is3 t) (hL : Lay h) (hW : W57 t h C) : xPk d 57 [.ref t] h.X (qostI h C) := by
  unfold W57 at hW
  refine kin (Nat.le_of_ble_eq_true rfl) ?_
  iterate 2 (refine kst rfl rfl ?_)
  refine wgetI rfl (oK3 hL ht) rfl ?_
  iterate 3 (refine kst rfl rfl ?_)
  refine kre rfl rfl ?_
  exact ⟨_, rfl, hW⟩
/-- 110: Room useBigPots -/
def W110 (t : Nat) (a1 : Nat) (a2 : Int32) (h : TH) (C : TH → Prop) : Prop :=
  W57 a1 (h.sI t 2 0) (fun v1 => W111 t v1 a2 (h.sI t 2 0) (fun h2 => C h2))

theorem R110 {d : Nat} {t : Nat} {a1 : Nat} {a2 : Int32} {h : TH} {C : TH → Prop} (ht : is7 t) (ha1 : is3 a1) (hL : Lay h) (hW : W110 t a1 a2 h C) : xPk (d + 2) 110 [.ref t, .ref a1, .int a2] h.X (postV C) := by
  unfold W110 at hW
  refine kin (Nat.le_of_ble_eq_true rfl) ?_
  iterate 2 (refine kst rfl rfl ?_)
  refine wputI rfl (oK7 hL ht) rfl ?_
  replace hL : Lay (h.sI t 2 0) := lsI hL
  iterate 2 (refine kst rfl rfl ?_)
  refine qcvI rfl (oK3 hL ha1) rfl rfl (R57 (d := d + 1) (h := (h.sI t 2 0)) ha1 hL hW) (fun v1 hW => ?_)
  refine kst rfl rfl ?_
  refine wcvV rfl (oK7 hL ht) rfl rfl (R111 (d := d + 0) (h := (h.sI t 2 0)) ht hL hW) (fun h2 hL hW => ?_)
  refine kre rfl rfl ?_
  exact ⟨_, rfl, hL, hW⟩
/-- 32: Least useBigPots -/
def W32 (t : Nat) (a1 : Nat) (a2 : Int32) (h : TH) (C : TH → Prop) : Prop :=
  W33 t a1 a2 h (fun v1 h2 => if v1 = 0 then (C h2) else (W110 (t + 1) a1 a2 h2 (fun h3 => W34 t h3 (fun h4 => C h4))))

theorem R32 {d : Nat} {t : Nat} {a1 : Nat} {a2 : Int32} {h : TH} {C : TH → Prop} (ht : is2 t) (ha1 : is3 a1) (hL : Lay h) (hW : W32 t a1 a2 h C) : xPk (d + 3) 32 [.ref t, .ref a1, .int a2] h.X (postV C) := by
  unfold W32 at hW
  refine kin (Nat.le_of_ble_eq_true rfl) ?_
  iterate 3 (refine kst rfl rfl ?_)
  refine wcvI rfl (oK2 hL ht) rfl rfl (R33 (d := d + 2) (h := h) ht ha1 hL hW) (fun v1 h2 hL hW => ?_)
  refine wif_eq rfl hW (fun hW => ?_) (fun hW => ?_)
  · refine kre rfl rfl ?_
    exact ⟨_, rfl, hL, hW⟩
  · refine kst rfl rfl ?_
    refine wgetP (b := (t + 1)) rfl (oK2 hL ht) rfl (oP2_1 hL ht) ?_
    iterate 2 (refine kst rfl rfl ?_)
    refine wcvV rfl (oK7 hL (is_2_1 ht)) rfl rfl (R110 (d := d + 0) (h := h2) (is_2_1 ht) ha1 hL hW) (fun h3 hL hW => ?_)
    refine kst rfl rfl ?_
    refine wcvV rfl (oK2 hL ht) rfl rfl (R34 (d := d + 0) (h := h3) ht hL hW) (fun h4 hL hW => ?_)
    refine kre rfl rfl ?_
    exact ⟨_, rfl, hL, hW⟩
/-- 40: Least sink -/
def B40_138 (t : Nat) (x1 : Int32) (x2 : Int32) (h : TH) (C : TH → Prop) : Prop :=
  h.P t 6 = some (h.R t 6) ∧ okA h (h.R t 6) 100 x2 ∧ (h.sI (h.R t 6) (ix x2) x1).P t 7 = some ((h.sI (h.R t 6) (ix x2) x1).R t 7) ∧ okA (h.sI (h.R t 6) (ix x2) x1) ((h.sI (h.R t 6) (ix x2) x1).R t 7) 100 x1 ∧ C ((h.sI (h.R t 6) (ix x2) x1).sI ((h.sI (h.R t 6) (ix x2) x1).R t 7) (ix x1) x2)
def B40_80 (t : Nat) (x1 : Int32) (x2 : Int32) (x3 : Int32) (x4 : Int32) (h : TH) (C : TH → Prop) (X11 : Int32 × Int32 × TH → Prop) : Prop :=
  h.P t 5 = some (h.R t 5) ∧ h.P t 6 = some (h.R t 6) ∧ okA h (h.R t 6) 100 x4 ∧ okA h (h.R t 5) 100 (h.I (h.R t 6) (ix x4)) ∧ h.P t 5 = some (h.R t 5) ∧ okA h (h.R t 5) 100 x1 ∧ if (h.I (h.R t 5) (ix (h.I (h.R t 6) (ix x4)))) < (h.I (h.R t 5) (ix x1)) then (h.P t 6 = some (h.R t 6) ∧ h.P t 6 = some (h.R t 6) ∧ okA h (h.R t 6) 100 x4 ∧ okA h (h.R t 6) 100 x2 ∧ (h.sI (h.R t 6) (ix x2) (h.I (h.R t 6) (ix x4))).P t 7 = some ((h.sI (h.R t 6) (ix x2) (h.I (h.R t 6) (ix x4))).R t 7) ∧ (h.sI (h.R t 6) (ix x2) (h.I (h.R t 6) (ix x4))).P t 6 = some ((h.sI (h.R t 6) (ix x2) (h.I (h.R t 6) (ix x4))).R t 6) ∧ okA (h.sI (h.R t 6) (ix x2) (h.I (h.R t 6) (ix x4))) ((h.sI (h.R t 6) (ix x2) (h.I (h.R t 6) (ix x4))).R t 6) 100 x2 ∧ okA (h.sI (h.R t 6) (ix x2) (h.I (h.R t 6) (ix x4))) ((h.sI (h.R t 6) (ix x2) (h.I (h.R t 6) (ix x4))).R t 7) 100 ((h.sI (h.R t 6) (ix x2) (h.I (h.R t 6) (ix x4))).I ((h.sI (h.R t 6) (ix x2) (h.I (h.R t 6) (ix x4))).R t 6) (ix x2)) ∧ X11 (x4, (x3 + 1), ((h.sI (h.R t 6) (ix x2) (h.I (h.R t 6) (ix x4))).sI ((h.sI (h.R t 6) (ix x2) (h.I (h.R t 6) (ix x4))).R t 7) (ix ((h.sI (h.R t 6) (ix x2) (h.I (h.R t 6) (ix x4))).I ((h.sI (h.R t 6) (ix x2) (h.I (h.R t 6) (ix x4))).R t 6) (ix x2))) x2))) else (B40_138 t x1 x2 h C)
def F40_11 (t : Nat) (x1 : Int32) (C : TH → Prop) (X11 : Int32 × Int32 × TH → Prop) : Int32 × Int32 × TH → Prop := fun
  | (x2, x3, h) =>
    if 4096 ≤ x3 then (B40_138 t x1 x2 h C) else (if (h.I t 10) ≤ ((x2 * 2) + 1) then (B40_138 t x1 x2 h C) else (if (h.I t 10) ≤ (((x2 * 2) + 1) + 1) then (B40_80 t x1 x2 x3 ((x2 * 2) + 1) h C X11) else (h.P t 5 = some (h.R t 5) ∧ h.P t 6 = some (h.R t 6) ∧ okA h (h.R t 6) 100 (((x2 * 2) + 1) + 1) ∧ okA h (h.R t 5) 100 (h.I (h.R t 6) (ix (((x2 * 2) + 1) + 1))) ∧ h.P t 5 = some (h.R t 5) ∧ h.P t 6 = some (h.R t 6) ∧ okA h (h.R t 6) 100 ((x2 * 2) + 1) ∧ okA h (h.R t 5) 100 (h.I (h.R t 6) (ix ((x2 * 2) + 1))) ∧ if (h.I (h.R t 5) (ix (h.I (h.R t 6) (ix ((x2 * 2) + 1))))) ≤ (h.I (h.R t 5) (ix (h.I (h.R t 6) (ix (((x2 * 2) + 1) + 1))))) then (B40_80 t x1 x2 x3 ((x2 * 2) + 1) h C X11) else (B40_80 t x1 x2 x3 (((x2 * 2) + 1) + 1) h C X11))))
def B40_11 (t : Nat) (x1 : Int32) (x2 : Int32) (x3 : Int32) (h : TH) (C : TH → Prop) : Prop := LFP (F40_11 t x1 C) (x2, x3, h)
def W40 (t : Nat) (h : TH) (C : TH → Prop) : Prop :=
  h.P t 6 = some (h.R t 6) ∧ okA h (h.R t 6) 100 0 ∧ B40_11 t (h.I (h.R t 6) (ix 0)) 0 0 h C

theorem R40_138 {d : Nat} {t : Nat} {x1 : Int32} {x2 : Int32} {h : TH} {C : TH → Prop} (ht : is2 t) (hL : Lay h) (hW : B40_138 t x1 x2 h C) : xEk d 40 (138, [(0, .ref t), (1, .int x1), (2, .int x2)], [], h.X) (postV C) := by
  unfold B40_138 at hW
  refine kst rfl rfl ?_
  obtain ⟨q3, hW⟩ := hW
  refine wgetP rfl (oK2 hL ht) rfl q3 ?_
  iterate 2 (refine kst rfl rfl ?_)
  obtain ⟨q4, hW⟩ := hW
  refine wast rfl q4.1 rfl q4.2.2 q4.2.1 ?_
  replace hL : Lay (h.sI (h.R t 6) (ix x2) x1) := lsI hL
  refine kst rfl rfl ?_
  obtain ⟨q5, hW⟩ := hW
  refine wgetP rfl (oK2 hL ht) rfl q5 ?_
  iterate 2 (refine kst rfl rfl ?_)
  obtain ⟨q6, hW⟩ := hW
  refine wast rfl q6.1 rfl q6.2.2 q6.2.1 ?_
  replace hL : Lay ((h.sI (h.R t 6) (ix x2) x1).sI ((h.sI (h.R t 6) (ix x2) x1).R t 7) (ix x1) x2) := lsI hL
  refine kre rfl rfl ?_
  exact ⟨_, rfl, hL, hW⟩
theorem R40_80 {d : Nat} {t : Nat} {x1 : Int32} {x2 : Int32} {x3 : Int32} {x4 : Int32} {h : TH} {C : TH → Prop} {X11 : Int32 × Int32 × TH → Prop} (k11 : ∀ s : Int32 × Int32 × TH, X11 s → Lay (s.2.2) → xEk d 40 (11, [(0, .ref t), (1, .int x1), (2, .int (s.1)), (3, .int (s.2.1))], [], (TH.X (s.2.2))) (postV C)) (ht : is2 t) (hL : Lay h) (hW : B40_80 t x1 x2 x3 x4 h C X11) : xEk d 40 (80, [(0, .ref t), (1, .int x1), (2, .int x2), (3, .int x3), (4, .int x4)], [], h.X) (postV C) := by
  unfold B40_80 at hW
  refine kst rfl rfl ?_
  obtain ⟨q3, hW⟩ := hW
  refine wgetP rfl (oK2 hL ht) rfl q3 ?_
  refine kst rfl rfl ?_
  obtain ⟨q4, hW⟩ := hW
  refine wgetP rfl (oK2 hL ht) rfl q4 ?_
  refine kst rfl rfl ?_
  obtain ⟨q5, hW⟩ := hW
  refine wald rfl (Or.inl q5.1) rfl q5.2.2 q5.2.1 ?_
  obtain ⟨q6, hW⟩ := hW
  refine wald rfl (Or.inl q6.1) rfl q6.2.2 q6.2.1 ?_
  refine kst rfl rfl ?_
  obtain ⟨q7, hW⟩ := hW
  refine wgetP rfl (oK2 hL ht) rfl q7 ?_
  refine kst rfl rfl ?_
  obtain ⟨q8, hW⟩ := hW
  refine wald rfl (Or.inl q8.1) rfl q8.2.2 q8.2.1 ?_
  refine wcm_lt rfl hW (fun hW => ?_) (fun hW => ?_)
  · refine kst rfl rfl ?_
    obtain ⟨q9, hW⟩ := hW
    refine wgetP rfl (oK2 hL ht) rfl q9 ?_
    iterate 2 (refine kst rfl rfl ?_)
    obtain ⟨q10, hW⟩ := hW
    refine wgetP rfl (oK2 hL ht) rfl q10 ?_
    refine kst rfl rfl ?_
    obtain ⟨q11, hW⟩ := hW
    refine wald rfl (Or.inl q11.1) rfl q11.2.2 q11.2.1 ?_
    obtain ⟨q12, hW⟩ := hW
    refine wast rfl q12.1 rfl q12.2.2 q12.2.1 ?_
    replace hL : Lay (h.sI (h.R t 6) (ix x2) (h.I (h.R t 6) (ix x4))) := lsI hL
    refine kst rfl rfl ?_
    obtain ⟨q13, hW⟩ := hW
    refine wgetP rfl (oK2 hL ht) rfl q13 ?_
    refine kst rfl rfl ?_
    obtain ⟨q14, hW⟩ := hW
    refine wgetP rfl (oK2 hL ht) rfl q14 ?_
    refine kst rfl rfl ?_
    obtain ⟨q15, hW⟩ := hW
    refine wald rfl (Or.inl q15.1) rfl q15.2.2 q15.2.1 ?_
    refine kst rfl rfl ?_
    obtain ⟨q16, hW⟩ := hW
    refine wast rfl q16.1 rfl q16.2.2 q16.2.1 ?_
    replace hL : Lay ((h.sI (h.R t 6) (ix x2) (h.I (h.R t 6) (ix x4))).sI ((h.sI (h.R t 6) (ix x2) (h.I (h.R t 6) (ix x4))).R t 7) (ix ((h.sI (h.R t 6) (ix x2) (h.I (h.R t 6) (ix x4))).I ((h.sI (h.R t 6) (ix x2) (h.I (h.R t 6) (ix x4))).R t 6) (ix x2))) x2) := lsI hL
    iterate 4 (refine kst rfl rfl ?_)
    have z9 := k11 (x4, (x3 + 1), ((h.sI (h.R t 6) (ix x2) (h.I (h.R t 6) (ix x4))).sI ((h.sI (h.R t 6) (ix x2) (h.I (h.R t 6) (ix x4))).R t 7) (ix ((h.sI (h.R t 6) (ix x2) (h.I (h.R t 6) (ix x4))).I ((h.sI (h.R t 6) (ix x2) (h.I (h.R t 6) (ix x4))).R t 6) (ix x2))) x2)) hW hL
    refine wjp ?_ z9
    exact ⟨rfl, rfl, rfl, rfl, trivial⟩
  · refine kst rfl rfl ?_
    refine wjp ?_ (R40_138 (h := h) ht hL hW)
    exact ⟨rfl, rfl, rfl, trivial⟩
theorem R40_11 {d : Nat} {t : Nat} {x1 : Int32} {x2 : Int32} {x3 : Int32} {h : TH} {C : TH → Prop} (ht : is2 t) (hL : Lay h) (hW : B40_11 t x1 x2 x3 h C) : xEk d 40 (11, [(0, .ref t), (1, .int x1), (2, .int x2), (3, .int x3)], [], h.X) (postV C) := by
  refine hW (fun s => Lay (s.2.2) → xEk d 40 (11, [(0, .ref t), (1, .int x1), (2, .int (s.1)), (3, .int (s.2.1))], [], (TH.X (s.2.2))) (postV C)) ?_ hL
  rintro ⟨x2, x3, h⟩ hW hL
  have k11 : ∀ s : Int32 × Int32 × TH, (fun s => Lay (s.2.2) → xEk d 40 (11, [(0, .ref t), (1, .int x1), (2, .int (s.1)), (3, .int (s.2.1))], [], (TH.X (s.2.2))) (postV C)) s → Lay (s.2.2) → xEk d 40 (11, [(0, .ref t), (1, .int x1), (2, .int (s.1)), (3, .int (s.2.1))], [], (TH.X (s.2.2))) (postV C) := fun s hs => hs
  unfold F40_11 at hW
  dsimp only at hW
  iterate 2 (refine kst rfl rfl ?_)
  refine wcm_ge rfl hW (fun hW => ?_) (fun hW => ?_)
  · refine wjp ?_ (R40_138 (h := h) ht hL hW)
    exact ⟨rfl, rfl, rfl, trivial⟩
  · iterate 6 (refine kst rfl rfl ?_)
    refine wgetI rfl (oK2 hL ht) rfl ?_
    refine wcm_ge rfl hW (fun hW => ?_) (fun hW => ?_)
    · refine wjp ?_ (R40_138 (h := h) ht hL hW)
      exact ⟨rfl, rfl, rfl, trivial⟩
    · iterate 10 (refine kst rfl rfl ?_)
      refine wgetI rfl (oK2 hL ht) rfl ?_
      refine wcm_ge rfl hW (fun hW => ?_) (fun hW => ?_)
      · refine wjp ?_ (R40_80 (h := h) k11 ht hL hW)
        exact ⟨rfl, rfl, rfl, rfl, rfl, trivial⟩
      · refine kst rfl rfl ?_
        obtain ⟨q3, hW⟩ := hW
        refine wgetP rfl (oK2 hL ht) rfl q3 ?_
        refine kst rfl rfl ?_
        obtain ⟨q4, hW⟩ := hW
        refine wgetP rfl (oK2 hL ht) rfl q4 ?_
        iterate 3 (refine kst rfl rfl ?_)
        obtain ⟨q5, hW⟩ := hW
        refine wald rfl (Or.inl q5.1) rfl q5.2.2 q5.2.1 ?_
        obtain ⟨q6, hW⟩ := hW
        refine wald rfl (Or.inl q6.1) rfl q6.2.2 q6.2.1 ?_
        refine kst rfl rfl ?_
        obtain ⟨q7, hW⟩ := hW
        refine wgetP rfl (oK2 hL ht) rfl q7 ?_
        refine kst rfl rfl ?_
        obtain ⟨q8, hW⟩ := hW
        refine wgetP rfl (oK2 hL ht) rfl q8 ?_
        refine kst rfl rfl ?_
        obtain ⟨q9, hW⟩ := hW
        refine wald rfl (Or.inl q9.1) rfl q9.2.2 q9.2.1 ?_
        obtain ⟨q10, hW⟩ := hW
        refine wald rfl (Or.inl q10.1) rfl q10.2.2 q10.2.1 ?_
        refine wcm_ge rfl hW (fun hW => ?_) (fun hW => ?_)
        · refine wjp ?_ (R40_80 (h := h) k11 ht hL hW)
          exact ⟨rfl, rfl, rfl, rfl, rfl, trivial⟩
        · refine kst rfl rfl ?_
          refine wjp ?_ (R40_80 (h := h) k11 ht hL hW)
          exact ⟨rfl, rfl, rfl, rfl, rfl, trivial⟩
theorem R40 {d : Nat} {t : Nat} {h : TH} {C : TH → Prop} (ht : is2 t) (hL : Lay h) (hW : W40 t h C) : xPk d 40 [.ref t] h.X (postV C) := by
  unfold W40 at hW
  refine kin (Nat.le_of_ble_eq_true rfl) ?_
  refine kst rfl rfl ?_
  obtain ⟨q1, hW⟩ := hW
  refine wgetP rfl (oK2 hL ht) rfl q1 ?_
  refine kst rfl rfl ?_
  obtain ⟨q2, hW⟩ := hW
  refine wald rfl (Or.inl q2.1) rfl q2.2.2 q2.2.1 ?_
  iterate 5 (refine kst rfl rfl ?_)
  refine wjp ?_ (R40_11 (h := h) ht hL hW)
  exact ⟨rfl, rfl, rfl, rfl, trivial⟩
/-- 44: Least priceOf -/
def W44 (t : Nat) (a1 : Int32) (h : TH) (C : Int32 → Prop) : Prop :=
  if (h.I t 0) = 0 then (C 1) else (h.P t 2 = some (h.R t 2) ∧ is3 (h.R t 2) ∧ inb a1 12 ∧ C (((h.I ((h.R t 2) + 11) (ix a1)) * 4096) + 1))

theorem R44 {d : Nat} {t : Nat} {a1 : Int32} {h : TH} {C : Int32 → Prop} (ht : is2 t) (hL : Lay h) (hW : W44 t a1 h C) : xPk d 44 [.ref t, .int a1] h.X (qostI h C) := by
  unfold W44 at hW
  refine kin (Nat.le_of_ble_eq_true rfl) ?_
  refine kst rfl rfl ?_
  refine wgetI rfl (oK2 hL ht) rfl ?_
  refine wif_eq rfl hW (fun hW => ?_) (fun hW => ?_)
  · refine kst rfl rfl ?_
    refine kre rfl rfl ?_
    exact ⟨_, rfl, hW⟩
  · refine kst rfl rfl ?_
    obtain ⟨q1, hW⟩ := hW
    obtain ⟨q2, hW⟩ := hW
    refine wgetP rfl (oK2 hL ht) rfl q1 ?_
    refine wgetP (b := ((h.R t 2) + 11)) rfl (oK3 hL q2) rfl (oP3_15 hL q2) ?_
    refine kst rfl rfl ?_
    obtain ⟨q3, hW⟩ := hW
    refine wald rfl (Or.inl (aK3_15 hL q2)) (aN3_15 hL q2) (by decide) q3 ?_
    iterate 5 (refine kst rfl rfl ?_)
    refine kre rfl rfl ?_
    exact ⟨_, rfl, hW⟩
/-- 45: Least addMove -/
def W45 (t : Nat) (a1 : Int32) (a2 : Int32) (a3 : Int32) (h : TH) (C : TH → Prop) : Prop :=
  if 60 ≤ (h.I t 15) then (C h) else (inb (h.I t 15) 60 ∧ inb ((h.sI (t + 9) (ix (h.I t 15)) a1).I t 15) 60 ∧ ∀ h1, h1 = ((h.sI (t + 9) (ix (h.I t 15)) a1).sI (t + 10) (ix ((h.sI (t + 9) (ix (h.I t 15)) a1).I t 15)) a2) → inb (h1.I t 15) 60 ∧ C ((h1.sI (t + 11) (ix (h1.I t 15)) a3).sI t 15 (((h1.sI (t + 11) (ix (h1.I t 15)) a3).I t 15) + 1)))

theorem R45 {d : Nat} {t : Nat} {a1 : Int32} {a2 : Int32} {a3 : Int32} {h : TH} {C : TH → Prop} (ht : is2 t) (hL : Lay h) (hW : W45 t a1 a2 a3 h C) : xPk d 45 [.ref t, .int a1, .int a2, .int a3] h.X (postV C) := by
  unfold W45 at hW
  refine kin (Nat.le_of_ble_eq_true rfl) ?_
  refine kst rfl rfl ?_
  refine wgetI rfl (oK2 hL ht) rfl ?_
  refine kst rfl rfl ?_
  refine wcm_ge rfl hW (fun hW => ?_) (fun hW => ?_)
  · refine kre rfl rfl ?_
    exact ⟨_, rfl, hL, hW⟩
  · refine kst rfl rfl ?_
    refine wgetP (b := (t + 9)) rfl (oK2 hL ht) rfl (oP2_12 hL ht) ?_
    refine kst rfl rfl ?_
    refine wgetI rfl (oK2 hL ht) rfl ?_
    refine kst rfl rfl ?_
    obtain ⟨q1, hW⟩ := hW
    refine wast rfl (aK2_12 hL ht) (aN2_12 hL ht) (by decide) q1 ?_
    replace hL : Lay (h.sI (t + 9) (ix (h.I t 15)) a1) := lsI hL
    refine kst rfl rfl ?_
    refine wgetP (b := (t + 10)) rfl (oK2 hL ht) rfl (oP2_13 hL ht) ?_
    refine kst rfl rfl ?_
    refine wgetI rfl (oK2 hL ht) rfl ?_
    refine kst rfl rfl ?_
    obtain ⟨q2, hW⟩ := hW
    refine wast rfl (aK2_13 hL ht) (aN2_13 hL ht) (by decide) q2 ?_
    replace hL : Lay ((h.sI (t + 9) (ix (h.I t 15)) a1).sI (t + 10) (ix ((h.sI (t + 9) (ix (h.I t 15)) a1).I t 15)) a2) := lsI hL
    refine kst rfl rfl ?_
    refine whb (h := ((h.sI (t + 9) (ix (h.I t 15)) a1).sI (t + 10) (ix ((h.sI (t + 9) (ix (h.I t 15)) a1).I t 15)) a2)) (fun h1 eh1 => ?_)
    replace hW := hW h1 eh1
    replace hL : Lay h1 := by rw [eh1]; exact hL
    clear eh1
    refine wgetP (b := (t + 11)) rfl (oK2 hL ht) rfl (oP2_14 hL ht) ?_
    refine kst rfl rfl ?_
    refine wgetI rfl (oK2 hL ht) rfl ?_
    refine kst rfl rfl ?_
    obtain ⟨q3, hW⟩ := hW
    refine wast rfl (aK2_14 hL ht) (aN2_14 hL ht) (by decide) q3 ?_
    replace hL : Lay (h1.sI (t + 11) (ix (h1.I t 15)) a3) := lsI hL
    iterate 2 (refine kst rfl rfl ?_)
    refine wgetI rfl (oK2 hL ht) rfl ?_
    iterate 2 (refine kst rfl rfl ?_)
    refine wputI rfl (oK2 hL ht) rfl ?_
    replace hL : Lay ((h1.sI (t + 11) (ix (h1.I t 15)) a3).sI t 15 (((h1.sI (t + 11) (ix (h1.I t 15)) a3).I t 15) + 1)) := lsI hL
    refine kre rfl rfl ?_
    exact ⟨_, rfl, hL, hW⟩
/-- 42: Least listMake -/
def B42_68 (t : Nat) (a2 : Int32) (x3 : Int32) (h : TH) (C : TH → Prop) : Prop :=
  C h
def W42 (t : Nat) (a1 : Int32) (a2 : Int32) (h : TH) (C : TH → Prop) : Prop :=
  h.P t 2 = some (h.R t 2) ∧ is3 (h.R t 2) ∧ inb a2 12 ∧ h.P t 2 = some (h.R t 2) ∧ is3 (h.R t 2) ∧ inb a2 12 ∧ if ¬ (a1 &&& (h.I ((h.R t 2) + 9) (ix a2))) = 0 then (B42_68 t a2 (a1 ||| (h.I ((h.R t 2) + 9) (ix a2))) h C) else (h.P t 2 = some (h.R t 2) ∧ is3 (h.R t 2) ∧ inb a2 12 ∧ if ¬ ((h.I ((h.R t 2) + 10) (ix a2)) &&& (a1 ^^^ (-1))) = 0 then (B42_68 t a2 (a1 ||| (h.I ((h.R t 2) + 9) (ix a2))) h C) else (h.P t 2 = some (h.R t 2) ∧ is3 (h.R t 2) ∧ W62 (h.R t 2) a2 h (fun v1 => if v1 = 0 then (B42_68 t a2 (a1 ||| (h.I ((h.R t 2) + 9) (ix a2))) h C) else (W112 (t + 1) (a1 ||| (h.I ((h.R t 2) + 9) (ix a2))) h (fun v2 => if v2 = 0 then (B42_68 t a2 (a1 ||| (h.I ((h.R t 2) + 9) (ix a2))) h C) else (h.P t 2 = some (h.R t 2) ∧ is3 (h.R t 2) ∧ W63 (h.R t 2) a2 h (fun v3 => W44 t a2 h (fun v4 => W45 t ((a1 ||| (h.I ((h.R t 2) + 9) (ix a2))) &&& (v3 ^^^ (-1))) v4 (a2 * 12) h (fun h5 => C h5)))))))))

theorem R42_68 {d : Nat} {t : Nat} {a2 : Int32} {x3 : Int32} {h : TH} {C : TH → Prop} (ht : is2 t) (hL : Lay h) (hW : B42_68 t a2 x3 h C) : xEk (d + 2) 42 (68, [(0, .ref t), (2, .int a2), (3, .int x3)], [], h.X) (postV C) := by
  unfold B42_68 at hW
  iterate 3 (refine kst rfl rfl ?_)
  refine kif_eq rfl (fun _ => ?_) (fun c9 => absurd c9 (by decide))
  refine kre rfl rfl ?_
  exact ⟨_, rfl, hL, hW⟩
theorem R42 {d : Nat} {t : Nat} {a1 : Int32} {a2 : Int32} {h : TH} {C : TH → Prop} (ht : is2 t) (hL : Lay h) (hW : W42 t a1 a2 h C) : xPk (d + 2) 42 [.ref t, .int a1, .int a2] h.X (postV C) := by
  unfold W42 at hW
  refine kin (Nat.le_of_ble_eq_true rfl) ?_
  iterate 2 (refine kst rfl rfl ?_)
  obtain ⟨q1, hW⟩ := hW
  obtain ⟨q2, hW⟩ := hW
  refine wgetP rfl (oK2 hL ht) rfl q1 ?_
  refine wgetP (b := ((h.R t 2) + 9)) rfl (oK3 hL q2) rfl (oP3_13 hL q2) ?_
  refine kst rfl rfl ?_
  obtain ⟨q3, hW⟩ := hW
  refine wald rfl (Or.inl (aK3_13 hL q2)) (aN3_13 hL q2) (by decide) q3 ?_
  iterate 4 (refine kst rfl rfl ?_)
  obtain ⟨q4, hW⟩ := hW
  obtain ⟨q5, hW⟩ := hW
  refine wgetP rfl (oK2 hL ht) rfl q4 ?_
  refine wgetP (b := ((h.R t 2) + 9)) rfl (oK3 hL q5) rfl (oP3_13 hL q5) ?_
  refine kst rfl rfl ?_
  obtain ⟨q6, hW⟩ := hW
  refine wald rfl (Or.inl (aK3_13 hL q5)) (aN3_13 hL q5) (by decide) q6 ?_
  refine kst rfl rfl ?_
  refine wif_ne rfl hW (fun hW => ?_) (fun hW => ?_)
  · refine wjp ?_ (R42_68 (h := h) ht hL hW)
    exact ⟨rfl, rfl, rfl, trivial⟩
  · refine kst rfl rfl ?_
    obtain ⟨q7, hW⟩ := hW
    obtain ⟨q8, hW⟩ := hW
    refine wgetP rfl (oK2 hL ht) rfl q7 ?_
    refine wgetP (b := ((h.R t 2) + 10)) rfl (oK3 hL q8) rfl (oP3_14 hL q8) ?_
    refine kst rfl rfl ?_
    obtain ⟨q9, hW⟩ := hW
    refine wald rfl (Or.inl (aK3_14 hL q8)) (aN3_14 hL q8) (by decide) q9 ?_
    iterate 4 (refine kst rfl rfl ?_)
    refine wif_ne rfl hW (fun hW => ?_) (fun hW => ?_)
    · refine wjp ?_ (R42_68 (h := h) ht hL hW)
      exact ⟨rfl, rfl, rfl, trivial⟩
    · refine kst rfl rfl ?_
      obtain ⟨q10, hW⟩ := hW
      obtain ⟨q11, hW⟩ := hW
      refine wgetP rfl (oK2 hL ht) rfl q10 ?_
      refine kst rfl rfl ?_
      refine qcvI rfl (oK3 hL q11) rfl rfl (R62 (d := d + 1) (h := h) q11 hL hW) (fun v1 hW => ?_)
      refine wif_eq rfl hW (fun hW => ?_) (fun hW => ?_)
      · refine wjp ?_ (R42_68 (h := h) ht hL hW)
        exact ⟨rfl, rfl, rfl, trivial⟩
      · refine kst rfl rfl ?_
        refine wgetP (b := (t + 1)) rfl (oK2 hL ht) rfl (oP2_1 hL ht) ?_
        refine kst rfl rfl ?_
        refine qcvI rfl (oK7 hL (is_2_1 ht)) rfl rfl (R112 (d := d + 0) (h := h) (is_2_1 ht) hL hW) (fun v2 hW => ?_)
        refine wif_eq rfl hW (fun hW => ?_) (fun hW => ?_)
        · refine wjp ?_ (R42_68 (h := h) ht hL hW)
          exact ⟨rfl, rfl, rfl, trivial⟩
        · iterate 4 (refine kst rfl rfl ?_)
          refine kif_eq rfl (fun c9 => absurd c9 (by decide)) (fun _ => ?_)
          iterate 3 (refine kst rfl rfl ?_)
          obtain ⟨q12, hW⟩ := hW
          obtain ⟨q13, hW⟩ := hW
          refine wgetP rfl (oK2 hL ht) rfl q12 ?_
          refine kst rfl rfl ?_
          refine qcvI rfl (oK3 hL q13) rfl rfl (R63 (d := d + 1) (h := h) q13 hL hW) (fun v3 hW => ?_)
          iterate 5 (refine kst rfl rfl ?_)
          refine qcvI rfl (oK2 hL ht) rfl rfl (R44 (d := d + 1) (h := h) ht hL hW) (fun v4 hW => ?_)
          iterate 3 (refine kst rfl rfl ?_)
          refine wcvV rfl (oK2 hL ht) rfl rfl (R45 (d := d + 1) (h := h) ht hL hW) (fun h5 hL hW => ?_)
          refine kre rfl rfl ?_
          exact ⟨_, rfl, hL, hW⟩
/-- 43: Least listPours -/
def F43_58 (t : Nat) (a1 : Int32) (a2 : Int32) (x3 : Int32) (x4 : Int32) (C : TH → Prop) (X58 : Int32 × TH → Prop) : Int32 × TH → Prop := fun
  | (x5, h) =>
    if a2 ≤ x5 then (C h) else (if x4 = 0 then (C h) else (h.P t 2 = some (h.R t 2) ∧ is3 (h.R t 2) ∧ inb a2 12 ∧ if ((h.I ((h.R t 2) + 6) (ix a2)) &&& (ishl 1 x5)) = 0 then (X58 ((x5 + 1), h)) else (W112 (t + 1) ((a1 &&& ((ishl 1 x5) ^^^ (-1))) ||| x3) h (fun v2 => if v2 = 0 then (X58 ((x5 + 1), h)) else (h.P t 2 = some (h.R t 2) ∧ is3 (h.R t 2) ∧ W63 (h.R t 2) a2 h (fun v3 => W44 t a2 h (fun v4 => W45 t (((a1 &&& ((ishl 1 x5) ^^^ (-1))) ||| x3) &&& (v3 ^^^ (-1))) v4 ((144 + (a2 * 12)) + x5) h (fun h5 => X58 ((x5 + 1), h5)))))))))
def B43_58 (t : Nat) (a1 : Int32) (a2 : Int32) (x3 : Int32) (x4 : Int32) (x5 : Int32) (h : TH) (C : TH → Prop) : Prop := LFP (F43_58 t a1 a2 x3 x4 C) (x5, h)
def B43_52 (t : Nat) (a1 : Int32) (a2 : Int32) (x3 : Int32) (h : TH) (C : TH → Prop) : Prop :=
  B43_58 t a1 a2 x3 0 0 h C
def W43 (t : Nat) (a1 : Int32) (a2 : Int32) (h : TH) (C : TH → Prop) : Prop :=
  h.P t 2 = some (h.R t 2) ∧ is3 (h.R t 2) ∧ W60 (h.R t 2) a2 h (fun v1 => if v1 = 0 then (B43_52 t a1 a2 (ishl 1 a2) h C) else (if ¬ (a1 &&& (ishl 1 a2)) = 0 then (B43_52 t a1 a2 (ishl 1 a2) h C) else (h.P t 2 = some (h.R t 2) ∧ is3 (h.R t 2) ∧ inb a2 12 ∧ if ¬ ((h.I ((h.R t 2) + 6) (ix a2)) &&& (a1 ^^^ (-1))) = 0 then (B43_52 t a1 a2 (ishl 1 a2) h C) else (h.P t 2 = some (h.R t 2) ∧ is3 (h.R t 2) ∧ W61 (h.R t 2) a2 h (fun v2 => if v2 = 0 then (B43_52 t a1 a2 (ishl 1 a2) h C) else (B43_58 t a1 a2 (ishl 1 a2) 1 0 h C))))))

theorem R43_58 {d : Nat} {t : Nat} {a1 : Int32} {a2 : Int32} {x3 : Int32} {x4 : Int32} {x5 : Int32} {h : TH} {C : TH → Prop} (ht : is2 t) (hL : Lay h) (hW : B43_58 t a1 a2 x3 x4 x5 h C) : xEk (d + 2) 43 (58, [(0, .ref t), (1, .int a1), (2, .int a2), (3, .int x3), (4, .int x4), (5, .int x5)], [], h.X) (postV C) := by
  refine hW (fun s => Lay (s.2) → xEk (d + 2) 43 (58, [(0, .ref t), (1, .int a1), (2, .int a2), (3, .int x3), (4, .int x4), (5, .int (s.1))], [], (TH.X (s.2))) (postV C)) ?_ hL
  rintro ⟨x5, h⟩ hW hL
  have k58 : ∀ s : Int32 × TH, (fun s => Lay (s.2) → xEk (d + 2) 43 (58, [(0, .ref t), (1, .int a1), (2, .int a2), (3, .int x3), (4, .int x4), (5, .int (s.1))], [], (TH.X (s.2))) (postV C)) s → Lay (s.2) → xEk (d + 2) 43 (58, [(0, .ref t), (1, .int a1), (2, .int a2), (3, .int x3), (4, .int x4), (5, .int (s.1))], [], (TH.X (s.2))) (postV C) := fun s hs => hs
  unfold F43_58 at hW
  dsimp only at hW
  iterate 2 (refine kst rfl rfl ?_)
  refine wcm_ge rfl hW (fun hW => ?_) (fun hW => ?_)
  · refine kre rfl rfl ?_
    exact ⟨_, rfl, hL, hW⟩
  · refine kst rfl rfl ?_
    refine wif_eq rfl hW (fun hW => ?_) (fun hW => ?_)
    · refine kre rfl rfl ?_
      exact ⟨_, rfl, hL, hW⟩
    · refine kst rfl rfl ?_
      obtain ⟨q3, hW⟩ := hW
      obtain ⟨q4, hW⟩ := hW
      refine wgetP rfl (oK2 hL ht) rfl q3 ?_
      refine wgetP (b := ((h.R t 2) + 6)) rfl (oK3 hL q4) rfl (oP3_10 hL q4) ?_
      refine kst rfl rfl ?_
      obtain ⟨q5, hW⟩ := hW
      refine wald rfl (Or.inl (aK3_10 hL q4)) (aN3_10 hL q4) (by decide) q5 ?_
      iterate 4 (refine kst rfl rfl ?_)
      refine wif_eq rfl hW (fun hW => ?_) (fun hW => ?_)
      · iterate 2 (refine kst rfl rfl ?_)
        have z9 := k58 ((x5 + 1), h) hW hL
        refine wjp ?_ z9
        exact ⟨rfl, rfl, rfl, rfl, rfl, rfl, trivial⟩
      · iterate 11 (refine kst rfl rfl ?_)
        refine wgetP (b := (t + 1)) rfl (oK2 hL ht) rfl (oP2_1 hL ht) ?_
        refine kst rfl rfl ?_
        refine qcvI rfl (oK7 hL (is_2_1 ht)) rfl rfl (R112 (d := d + 0) (h := h) (is_2_1 ht) hL hW) (fun v2 hW => ?_)
        refine wif_eq rfl hW (fun hW => ?_) (fun hW => ?_)
        · iterate 2 (refine kst rfl rfl ?_)
          have z9 := k58 ((x5 + 1), h) hW hL
          refine wjp ?_ z9
          exact ⟨rfl, rfl, rfl, rfl, rfl, rfl, trivial⟩
        · iterate 11 (refine kst rfl rfl ?_)
          obtain ⟨q6, hW⟩ := hW
          obtain ⟨q7, hW⟩ := hW
          refine wgetP rfl (oK2 hL ht) rfl q6 ?_
          refine kst rfl rfl ?_
          refine qcvI rfl (oK3 hL q7) rfl rfl (R63 (d := d + 1) (h := h) q7 hL hW) (fun v3 hW => ?_)
          iterate 5 (refine kst rfl rfl ?_)
          refine qcvI rfl (oK2 hL ht) rfl rfl (R44 (d := d + 1) (h := h) ht hL hW) (fun v4 hW => ?_)
          refine kst rfl rfl ?_
          refine wcvV rfl (oK2 hL ht) rfl rfl (R45 (d := d + 1) (h := h) ht hL hW) (fun h5 hL hW => ?_)
          iterate 2 (refine kst rfl rfl ?_)
          have z9 := k58 ((x5 + 1), h5) hW hL
          refine wjp ?_ z9
          exact ⟨rfl, rfl, rfl, rfl, rfl, rfl, trivial⟩
theorem R43_52 {d : Nat} {t : Nat} {a1 : Int32} {a2 : Int32} {x3 : Int32} {h : TH} {C : TH → Prop} (ht : is2 t) (hL : Lay h) (hW : B43_52 t a1 a2 x3 h C) : xEk (d + 2) 43 (52, [(0, .ref t), (1, .int a1), (2, .int a2), (3, .int x3)], [], h.X) (postV C) := by
  unfold B43_52 at hW
  iterate 4 (refine kst rfl rfl ?_)
  refine wjp ?_ (R43_58 (h := h) ht hL hW)
  exact ⟨rfl, rfl, rfl, rfl, rfl, rfl, trivial⟩
theorem R43 {d : Nat} {t : Nat} {a1 : Int32} {a2 : Int32} {h : TH} {C : TH → Prop} (ht : is2 t) (hL : Lay h) (hW : W43 t a1 a2 h C) : xPk (d + 2) 43 [.ref t, .int a1, .int a2] h.X (postV C) := by
  unfold W43 at hW
  refine kin (Nat.le_of_ble_eq_true rfl) ?_
  iterate 5 (refine kst rfl rfl ?_)
  obtain ⟨q1, hW⟩ := hW
  obtain ⟨q2, hW⟩ := hW
  refine wgetP rfl (oK2 hL ht) rfl q1 ?_
  refine kst rfl rfl ?_
  refine qcvI rfl (oK3 hL q2) rfl rfl (R60 (d := d + 1) (h := h) q2 hL hW) (fun v1 hW => ?_)
  refine wif_eq rfl hW (fun hW => ?_) (fun hW => ?_)
  · refine wjp ?_ (R43_52 (h := h) ht hL hW)
    exact ⟨rfl, rfl, rfl, rfl, trivial⟩
  · iterate 3 (refine kst rfl rfl ?_)
    refine wif_ne rfl hW (fun hW => ?_) (fun hW => ?_)
    · refine wjp ?_ (R43_52 (h := h) ht hL hW)
      exact ⟨rfl, rfl, rfl, rfl, trivial⟩
    · refine kst rfl rfl ?_
      obtain ⟨q3, hW⟩ := hW
      obtain ⟨q4, hW⟩ := hW
      refine wgetP rfl (oK2 hL ht) rfl q3 ?_
      refine wgetP (b := ((h.R t 2) + 6)) rfl (oK3 hL q4) rfl (oP3_10 hL q4) ?_
      refine kst rfl rfl ?_
      obtain ⟨q5, hW⟩ := hW
      refine wald rfl (Or.inl (aK3_10 hL q4)) (aN3_10 hL q4) (by decide) q5 ?_
      iterate 4 (refine kst rfl rfl ?_)
      refine wif_ne rfl hW (fun hW => ?_) (fun hW => ?_)
      · refine wjp ?_ (R43_52 (h := h) ht hL hW)
        exact ⟨rfl, rfl, rfl, rfl, trivial⟩
      · refine kst rfl rfl ?_
        obtain ⟨q6, hW⟩ := hW
        obtain ⟨q7, hW⟩ := hW
        refine wgetP rfl (oK2 hL ht) rfl q6 ?_
        refine kst rfl rfl ?_
        refine qcvI rfl (oK3 hL q7) rfl rfl (R61 (d := d + 1) (h := h) q7 hL hW) (fun v2 hW => ?_)
        refine wif_eq rfl hW (fun hW => ?_) (fun hW => ?_)
        · refine wjp ?_ (R43_52 (h := h) ht hL hW)
          exact ⟨rfl, rfl, rfl, rfl, trivial⟩
        · iterate 5 (refine kst rfl rfl ?_)
          refine wjp ?_ (R43_58 (h := h) ht hL hW)
          exact ⟨rfl, rfl, rfl, rfl, rfl, rfl, trivial⟩
/-- 41: Least listMoves -/
def F41_57 (t : Nat) (a1 : Int32) (C : TH → Prop) (X57 : Int32 × TH → Prop) : Int32 × TH → Prop := fun
  | (x2, h) =>
    h.P t 2 = some (h.R t 2) ∧ is3 (h.R t 2) ∧ if (h.I (h.R t 2) 1) ≤ x2 then (C h) else (if (a1 &&& (ishl 1 x2)) = 0 then (X57 ((x2 + 1), h)) else (W45 t (a1 &&& ((ishl 1 x2) ^^^ (-1))) 1 (288 + (x2 * 12)) h (fun h1 => X57 ((x2 + 1), h1))))
def B41_57 (t : Nat) (a1 : Int32) (x2 : Int32) (h : TH) (C : TH → Prop) : Prop := LFP (F41_57 t a1 C) (x2, h)
def F41_32 (t : Nat) (a1 : Int32) (C : TH → Prop) (X32 : Int32 × TH → Prop) : Int32 × TH → Prop := fun
  | (x2, h) =>
    h.P t 2 = some (h.R t 2) ∧ is3 (h.R t 2) ∧ if (h.I (h.R t 2) 1) ≤ x2 then (B41_57 t a1 0 h C) else (W43 t a1 x2 h (fun h1 => X32 ((x2 + 1), h1)))
def B41_32 (t : Nat) (a1 : Int32) (x2 : Int32) (h : TH) (C : TH → Prop) : Prop := LFP (F41_32 t a1 C) (x2, h)
def F41_7 (t : Nat) (a1 : Int32) (C : TH → Prop) (X7 : Int32 × TH → Prop) : Int32 × TH → Prop := fun
  | (x2, h) =>
    h.P t 2 = some (h.R t 2) ∧ is3 (h.R t 2) ∧ if (h.I (h.R t 2) 1) ≤ x2 then (B41_32 t a1 0 h C) else (W42 t a1 x2 h (fun h1 => X7 ((x2 + 1), h1)))
def B41_7 (t : Nat) (a1 : Int32) (x2 : Int32) (h : TH) (C : TH → Prop) : Prop := LFP (F41_7 t a1 C) (x2, h)
def W41 (t : Nat) (a1 : Int32) (h : TH) (C : TH → Prop) : Prop :=
  B41_7 t a1 0 (h.sI t 15 0) C

theorem R41_57 {d : Nat} {t : Nat} {a1 : Int32} {x2 : Int32} {h : TH} {C : TH → Prop} (ht : is2 t) (hL : Lay h) (hW : B41_57 t a1 x2 h C) : xEk (d + 3) 41 (57, [(0, .ref t), (1, .int a1), (2, .int x2)], [], h.X) (postV C) := by
  refine hW (fun s => Lay (s.2) → xEk (d + 3) 41 (57, [(0, .ref t), (1, .int a1), (2, .int (s.1))], [], (TH.X (s.2))) (postV C)) ?_ hL
  rintro ⟨x2, h⟩ hW hL
  have k57 : ∀ s : Int32 × TH, (fun s => Lay (s.2) → xEk (d + 3) 41 (57, [(0, .ref t), (1, .int a1), (2, .int (s.1))], [], (TH.X (s.2))) (postV C)) s → Lay (s.2) → xEk (d + 3) 41 (57, [(0, .ref t), (1, .int a1), (2, .int (s.1))], [], (TH.X (s.2))) (postV C) := fun s hs => hs
  unfold F41_57 at hW
  dsimp only at hW
  iterate 2 (refine kst rfl rfl ?_)
  obtain ⟨q5, hW⟩ := hW
  obtain ⟨q6, hW⟩ := hW
  refine wgetP rfl (oK2 hL ht) rfl q5 ?_
  refine wgetI rfl (oK3 hL q6) rfl ?_
  refine wcm_ge rfl hW (fun hW => ?_) (fun hW => ?_)
  · refine kre rfl rfl ?_
    exact ⟨_, rfl, hL, hW⟩
  · iterate 5 (refine kst rfl rfl ?_)
    refine wif_eq rfl hW (fun hW => ?_) (fun hW => ?_)
    · iterate 2 (refine kst rfl rfl ?_)
      have z9 := k57 ((x2 + 1), h) hW hL
      refine wjp ?_ z9
      exact ⟨rfl, rfl, rfl, trivial⟩
    · iterate 14 (refine kst rfl rfl ?_)
      refine wcvV rfl (oK2 hL ht) rfl rfl (R45 (d := d + 2) (h := h) ht hL hW) (fun h1 hL hW => ?_)
      iterate 2 (refine kst rfl rfl ?_)
      have z9 := k57 ((x2 + 1), h1) hW hL
      refine wjp ?_ z9
      exact ⟨rfl, rfl, rfl, trivial⟩
theorem R41_32 {d : Nat} {t : Nat} {a1 : Int32} {x2 : Int32} {h : TH} {C : TH → Prop} (ht : is2 t) (hL : Lay h) (hW : B41_32 t a1 x2 h C) : xEk (d + 3) 41 (32, [(0, .ref t), (1, .int a1), (2, .int x2)], [], h.X) (postV C) := by
  refine hW (fun s => Lay (s.2) → xEk (d + 3) 41 (32, [(0, .ref t), (1, .int a1), (2, .int (s.1))], [], (TH.X (s.2))) (postV C)) ?_ hL
  rintro ⟨x2, h⟩ hW hL
  have k32 : ∀ s : Int32 × TH, (fun s => Lay (s.2) → xEk (d + 3) 41 (32, [(0, .ref t), (1, .int a1), (2, .int (s.1))], [], (TH.X (s.2))) (postV C)) s → Lay (s.2) → xEk (d + 3) 41 (32, [(0, .ref t), (1, .int a1), (2, .int (s.1))], [], (TH.X (s.2))) (postV C) := fun s hs => hs
  unfold F41_32 at hW
  dsimp only at hW
  iterate 2 (refine kst rfl rfl ?_)
  obtain ⟨q3, hW⟩ := hW
  obtain ⟨q4, hW⟩ := hW
  refine wgetP rfl (oK2 hL ht) rfl q3 ?_
  refine wgetI rfl (oK3 hL q4) rfl ?_
  refine wcm_ge rfl hW (fun hW => ?_) (fun hW => ?_)
  · iterate 2 (refine kst rfl rfl ?_)
    refine wjp ?_ (R41_57 (h := h) ht hL hW)
    exact ⟨rfl, rfl, rfl, trivial⟩
  · iterate 3 (refine kst rfl rfl ?_)
    refine wcvV rfl (oK2 hL ht) rfl rfl (R43 (d := d + 0) (h := h) ht hL hW) (fun h1 hL hW => ?_)
    iterate 2 (refine kst rfl rfl ?_)
    have z9 := k32 ((x2 + 1), h1) hW hL
    refine wjp ?_ z9
    exact ⟨rfl, rfl, rfl, trivial⟩
theorem R41_7 {d : Nat} {t : Nat} {a1 : Int32} {x2 : Int32} {h : TH} {C : TH → Prop} (ht : is2 t) (hL : Lay h) (hW : B41_7 t a1 x2 h C) : xEk (d + 3) 41 (7, [(0, .ref t), (1, .int a1), (2, .int x2)], [], h.X) (postV C) := by
  refine hW (fun s => Lay (s.2) → xEk (d + 3) 41 (7, [(0, .ref t), (1, .int a1), (2, .int (s.1))], [], (TH.X (s.2))) (postV C)) ?_ hL
  rintro ⟨x2, h⟩ hW hL
  have k7 : ∀ s : Int32 × TH, (fun s => Lay (s.2) → xEk (d + 3) 41 (7, [(0, .ref t), (1, .int a1), (2, .int (s.1))], [], (TH.X (s.2))) (postV C)) s → Lay (s.2) → xEk (d + 3) 41 (7, [(0, .ref t), (1, .int a1), (2, .int (s.1))], [], (TH.X (s.2))) (postV C) := fun s hs => hs
  unfold F41_7 at hW
  dsimp only at hW
  iterate 2 (refine kst rfl rfl ?_)
  obtain ⟨q1, hW⟩ := hW
  obtain ⟨q2, hW⟩ := hW
  refine wgetP rfl (oK2 hL ht) rfl q1 ?_
  refine wgetI rfl (oK3 hL q2) rfl ?_
  refine wcm_ge rfl hW (fun hW => ?_) (fun hW => ?_)
  · iterate 2 (refine kst rfl rfl ?_)
    refine wjp ?_ (R41_32 (h := h) ht hL hW)
    exact ⟨rfl, rfl, rfl, trivial⟩
  · iterate 3 (refine kst rfl rfl ?_)
    refine wcvV rfl (oK2 hL ht) rfl rfl (R42 (d := d + 0) (h := h) ht hL hW) (fun h1 hL hW => ?_)
    iterate 2 (refine kst rfl rfl ?_)
    have z9 := k7 ((x2 + 1), h1) hW hL
    refine wjp ?_ z9
    exact ⟨rfl, rfl, rfl, trivial⟩
theorem R41 {d : Nat} {t : Nat} {a1 : Int32} {h : TH} {C : TH → Prop} (ht : is2 t) (hL : Lay h) (hW : W41 t a1 h C) : xPk (d + 3) 41 [.ref t, .int a1] h.X (postV C) := by
  unfold W41 at hW
  refine kin (Nat.le_of_ble_eq_true rfl) ?_
  iterate 2 (refine kst rfl rfl ?_)
  refine wputI rfl (oK2 hL ht) rfl ?_
  replace hL : Lay (h.sI t 15 0) := lsI hL
  iterate 2 (refine kst rfl rfl ?_)
  refine wjp ?_ (R41_7 (h := (h.sI t 15 0)) ht hL hW)
  exact ⟨rfl, rfl, rfl, trivial⟩
/-- 37: Least settleNext -/
def F37_103 (t : Nat) (x1 : Int32) (C : Int32 → TH → Prop) (X103 : Int32 × TH → Prop) : Int32 × TH → Prop := fun
  | (x2, h) =>
    if (h.I t 15) ≤ x2 then (C 1 h) else (inb x2 60 ∧ h.P t 5 = some (h.R t 5) ∧ okA h (h.R t 5) 100 x1 ∧ inb x2 60 ∧ W38 t (h.I (t + 9) (ix x2)) ((h.I (h.R t 5) (ix x1)) + (h.I (t + 10) (ix x2))) h (fun h3 => X103 ((x2 + 1), h3)))
def B37_103 (t : Nat) (x1 : Int32) (x2 : Int32) (h : TH) (C : Int32 → TH → Prop) : Prop := LFP (F37_103 t x1 C) (x2, h)
def B37_76 (t : Nat) (x1 : Int32) (h : TH) (C : Int32 → TH → Prop) : Prop :=
  h.P t 8 = some (h.R t 8) ∧ okA h (h.R t 8) 100 (h.I t 11) ∧ ∀ h1, h1 = ((h.sI (h.R t 8) (ix (h.I t 11)) x1).sI t 11 (((h.sI (h.R t 8) (ix (h.I t 11)) x1).I t 11) + 1)) → W41 t x1 h1 (fun h2 => B37_103 t x1 0 h2 C)
def W37 (t : Nat) (h : TH) (C : Int32 → TH → Prop) : Prop :=
  if (h.I t 10) ≤ 0 then (C 0 h) else (h.P t 8 = some (h.R t 8) ∧ h.K (h.R t 8) = 100 ∧ if (h.I t 11) < (nI (h.N (h.R t 8))) then (h.P t 6 = some (h.R t 6) ∧ okA h (h.R t 6) 100 0 ∧ if ((h.sI t 10 ((h.I t 10) - 1)).I t 10) ≤ 0 then (B37_76 t (h.I (h.R t 6) (ix 0)) (h.sI t 10 ((h.I t 10) - 1)) C) else ((h.sI t 10 ((h.I t 10) - 1)).P t 6 = some ((h.sI t 10 ((h.I t 10) - 1)).R t 6) ∧ (h.sI t 10 ((h.I t 10) - 1)).P t 6 = some ((h.sI t 10 ((h.I t 10) - 1)).R t 6) ∧ okA (h.sI t 10 ((h.I t 10) - 1)) ((h.sI t 10 ((h.I t 10) - 1)).R t 6) 100 ((h.sI t 10 ((h.I t 10) - 1)).I t 10) ∧ okA (h.sI t 10 ((h.I t 10) - 1)) ((h.sI t 10 ((h.I t 10) - 1)).R t 6) 100 0 ∧ ∀ h1, h1 = ((h.sI t 10 ((h.I t 10) - 1)).sI ((h.sI t 10 ((h.I t 10) - 1)).R t 6) (ix 0) ((h.sI t 10 ((h.I t 10) - 1)).I ((h.sI t 10 ((h.I t 10) - 1)).R t 6) (ix ((h.sI t 10 ((h.I t 10) - 1)).I t 10)))) → h1.P t 7 = some (h1.R t 7) ∧ h1.P t 6 = some (h1.R t 6) ∧ okA h1 (h1.R t 6) 100 0 ∧ okA h1 (h1.R t 7) 100 (h1.I (h1.R t 6) (ix 0)) ∧ W40 t (h1.sI (h1.R t 7) (ix (h1.I (h1.R t 6) (ix 0))) 0) (fun h2 => B37_76 t (h.I (h.R t 6) (ix 0)) h2 C))) else (C 0 h))

theorem R37_103 {d : Nat} {t : Nat} {x1 : Int32} {x2 : Int32} {h : TH} {C : Int32 → TH → Prop} (ht : is2 t) (hL : Lay h) (hW : B37_103 t x1 x2 h C) : xEk (d + 4) 37 (103, [(0, .ref t), (1, .int x1), (2, .int x2)], [], h.X) (postI C) := by
  refine hW (fun s => Lay (s.2) → xEk (d + 4) 37 (103, [(0, .ref t), (1, .int x1), (2, .int (s.1))], [], (TH.X (s.2))) (postI C)) ?_ hL
  rintro ⟨x2, h⟩ hW hL
  have k103 : ∀ s : Int32 × TH, (fun s => Lay (s.2) → xEk (d + 4) 37 (103, [(0, .ref t), (1, .int x1), (2, .int (s.1))], [], (TH.X (s.2))) (postI C)) s → Lay (s.2) → xEk (d + 4) 37 (103, [(0, .ref t), (1, .int x1), (2, .int (s.1))], [], (TH.X (s.2))) (postI C) := fun s hs => hs
  unfold F37_103 at hW
  dsimp only at hW
  iterate 2 (refine kst rfl rfl ?_)
  refine wgetI rfl (oK2 hL ht) rfl ?_
  refine wcm_ge rfl hW (fun hW => ?_) (fun hW => ?_)
  · refine kst rfl rfl ?_
    refine kre rfl rfl ?_
    exact ⟨_, _, rfl, hL, hW⟩
  · iterate 2 (refine kst rfl rfl ?_)
    refine wgetP (b := (t + 9)) rfl (oK2 hL ht) rfl (oP2_12 hL ht) ?_
    refine kst rfl rfl ?_
    obtain ⟨q7, hW⟩ := hW
    refine wald rfl (Or.inl (aK2_12 hL ht)) (aN2_12 hL ht) (by decide) q7 ?_
    refine kst rfl rfl ?_
    obtain ⟨q8, hW⟩ := hW
    refine wgetP rfl (oK2 hL ht) rfl q8 ?_
    refine kst rfl rfl ?_
    obtain ⟨q9, hW⟩ := hW
    refine wald rfl (Or.inl q9.1) rfl q9.2.2 q9.2.1 ?_
    refine kst rfl rfl ?_
    refine wgetP (b := (t + 10)) rfl (oK2 hL ht) rfl (oP2_13 hL ht) ?_
    refine kst rfl rfl ?_
    obtain ⟨q10, hW⟩ := hW
    refine wald rfl (Or.inl (aK2_13 hL ht)) (aN2_13 hL ht) (by decide) q10 ?_
    refine kst rfl rfl ?_
    refine wcvV rfl (oK2 hL ht) rfl rfl (R38 (d := d + 2) (h := h) ht hL hW) (fun h3 hL hW => ?_)
    iterate 2 (refine kst rfl rfl ?_)
    have z9 := k103 ((x2 + 1), h3) hW hL
    refine wjp ?_ z9
    exact ⟨rfl, rfl, rfl, trivial⟩
theorem R37_76 {d : Nat} {t : Nat} {x1 : Int32} {h : TH} {C : Int32 → TH → Prop} (ht : is2 t) (hL : Lay h) (hW : B37_76 t x1 h C) : xEk (d + 4) 37 (76, [(0, .ref t), (1, .int x1)], [], h.X) (postI C) := by
  unfold B37_76 at hW
  refine kst rfl rfl ?_
  obtain ⟨q5, hW⟩ := hW
  refine wgetP rfl (oK2 hL ht) rfl q5 ?_
  refine kst rfl rfl ?_
  refine wgetI rfl (oK2 hL ht) rfl ?_
  refine kst rfl rfl ?_
  obtain ⟨q6, hW⟩ := hW
  refine wast rfl q6.1 rfl q6.2.2 q6.2.1 ?_
  replace hL : Lay (h.sI (h.R t 8) (ix (h.I t 11)) x1) := lsI hL
  iterate 2 (refine kst rfl rfl ?_)
  refine wgetI rfl (oK2 hL ht) rfl ?_
  iterate 2 (refine kst rfl rfl ?_)
  refine wputI rfl (oK2 hL ht) rfl ?_
  replace hL : Lay ((h.sI (h.R t 8) (ix (h.I t 11)) x1).sI t 11 (((h.sI (h.R t 8) (ix (h.I t 11)) x1).I t 11) + 1)) := lsI hL
  iterate 2 (refine kst rfl rfl ?_)
  refine whb (h := ((h.sI (h.R t 8) (ix (h.I t 11)) x1).sI t 11 (((h.sI (h.R t 8) (ix (h.I t 11)) x1).I t 11) + 1))) (fun h1 eh1 => ?_)
  replace hW := hW h1 eh1
  replace hL : Lay h1 := by rw [eh1]; exact hL
  clear eh1
  refine wcvV rfl (oK2 hL ht) rfl rfl (R41 (d := d + 0) (h := h1) ht hL hW) (fun h2 hL hW => ?_)
  iterate 2 (refine kst rfl rfl ?_)
  refine wjp ?_ (R37_103 (h := h2) ht hL hW)
  exact ⟨rfl, rfl, rfl, trivial⟩
theorem R37 {d : Nat} {t : Nat} {h : TH} {C : Int32 → TH → Prop} (ht : is2 t) (hL : Lay h) (hW : W37 t h C) : xPk (d + 4) 37 [.ref t] h.X (postI C) := by
  unfold W37 at hW
  refine kin (Nat.le_of_ble_eq_true rfl) ?_
  refine kst rfl rfl ?_
  refine wgetI rfl (oK2 hL ht) rfl ?_
  refine wif_le rfl hW (fun hW => ?_) (fun hW => ?_)
  · refine kst rfl rfl ?_
    refine kre rfl rfl ?_
    exact ⟨_, _, rfl, hL, hW⟩
  · refine kst rfl rfl ?_
    refine wgetI rfl (oK2 hL ht) rfl ?_
    refine kst rfl rfl ?_
    obtain ⟨q1, hW⟩ := hW
    refine wgetP rfl (oK2 hL ht) rfl q1 ?_
    obtain ⟨q2, hW⟩ := hW
    refine walen (kd := 0) rfl q2 (by decide) rfl ?_
    refine wcm_lt rfl hW (fun hW => ?_) (fun hW => ?_)
    · refine kst rfl rfl ?_
      obtain ⟨q3, hW⟩ := hW
      refine wgetP rfl (oK2 hL ht) rfl q3 ?_
      refine kst rfl rfl ?_
      obtain ⟨q4, hW⟩ := hW
      refine wald rfl (Or.inl q4.1) rfl q4.2.2 q4.2.1 ?_
      iterate 3 (refine kst rfl rfl ?_)
      refine wgetI rfl (oK2 hL ht) rfl ?_
      iterate 2 (refine kst rfl rfl ?_)
      refine wputI rfl (oK2 hL ht) rfl ?_
      replace hL : Lay (h.sI t 10 ((h.I t 10) - 1)) := lsI hL
      refine kst rfl rfl ?_
      refine wgetI rfl (oK2 hL ht) rfl ?_
      refine wif_le rfl hW (fun hW => ?_) (fun hW => ?_)
      · refine wjp ?_ (R37_76 (h := (h.sI t 10 ((h.I t 10) - 1))) ht hL hW)
        exact ⟨rfl, rfl, trivial⟩
      · refine kst rfl rfl ?_
        obtain ⟨q5, hW⟩ := hW
        refine wgetP rfl (oK2 hL ht) rfl q5 ?_
        iterate 2 (refine kst rfl rfl ?_)
        obtain ⟨q6, hW⟩ := hW
        refine wgetP rfl (oK2 hL ht) rfl q6 ?_
        refine kst rfl rfl ?_
        refine wgetI rfl (oK2 hL ht) rfl ?_
        obtain ⟨q7, hW⟩ := hW
        refine wald rfl (Or.inl q7.1) rfl q7.2.2 q7.2.1 ?_
        obtain ⟨q8, hW⟩ := hW
        refine wast rfl q8.1 rfl q8.2.2 q8.2.1 ?_
        replace hL : Lay ((h.sI t 10 ((h.I t 10) - 1)).sI ((h.sI t 10 ((h.I t 10) - 1)).R t 6) (ix 0) ((h.sI t 10 ((h.I t 10) - 1)).I ((h.sI t 10 ((h.I t 10) - 1)).R t 6) (ix ((h.sI t 10 ((h.I t 10) - 1)).I t 10)))) := lsI hL
        refine kst rfl rfl ?_
        refine whb (h := ((h.sI t 10 ((h.I t 10) - 1)).sI ((h.sI t 10 ((h.I t 10) - 1)).R t 6) (ix 0) ((h.sI t 10 ((h.I t 10) - 1)).I ((h.sI t 10 ((h.I t 10) - 1)).R t 6) (ix ((h.sI t 10 ((h.I t 10) - 1)).I t 10))))) (fun h1 eh1 => ?_)
        replace hW := hW h1 eh1
        replace hL : Lay h1 := by rw [eh1]; exact hL
        clear eh1
        obtain ⟨q9, hW⟩ := hW
        refine wgetP rfl (oK2 hL ht) rfl q9 ?_
        refine kst rfl rfl ?_
        obtain ⟨q10, hW⟩ := hW
        refine wgetP rfl (oK2 hL ht) rfl q10 ?_
        refine kst rfl rfl ?_
        obtain ⟨q11, hW⟩ := hW
        refine wald rfl (Or.inl q11.1) rfl q11.2.2 q11.2.1 ?_
        refine kst rfl rfl ?_
        obtain ⟨q12, hW⟩ := hW
        refine wast rfl q12.1 rfl q12.2.2 q12.2.1 ?_
        replace hL : Lay (h1.sI (h1.R t 7) (ix (h1.I (h1.R t 6) (ix 0))) 0) := lsI hL
        refine kst rfl rfl ?_
        refine wcvV rfl (oK2 hL ht) rfl rfl (R40 (d := d + 3) (h := (h1.sI (h1.R t 7) (ix (h1.I (h1.R t 6) (ix 0))) 0)) ht hL hW) (fun h2 hL hW => ?_)
        refine wjp ?_ (R37_76 (h := h2) ht hL hW)
        exact ⟨rfl, rfl, trivial⟩
    · refine kst rfl rfl ?_
      refine kre rfl rfl ?_
      exact ⟨_, _, rfl, hL, hW⟩
/-- 36: Least seekKey -/
def B36_28 (t : Nat) (a1 : Int32) (x2 : Int32) (h : TH) (C : Int32 → TH → Prop) (X2 : Int32 × TH → Prop) : Prop :=
  h.P t 8 = some (h.R t 8) ∧ okA h (h.R t 8) 100 x2 ∧ if ¬ ((h.I (h.R t 8) (ix x2)) &&& a1) = a1 then (X2 ((x2 + 1), h)) else (h.P t 5 = some (h.R t 5) ∧ h.P t 8 = some (h.R t 8) ∧ okA h (h.R t 8) 100 x2 ∧ okA h (h.R t 5) 100 (h.I (h.R t 8) (ix x2)) ∧ C (h.I (h.R t 5) (ix (h.I (h.R t 8) (ix x2)))) h)
def F36_2 (t : Nat) (a1 : Int32) (C : Int32 → TH → Prop) (X2 : Int32 × TH → Prop) : Int32 × TH → Prop := fun
  | (x2, h) =>
    h.P t 8 = some (h.R t 8) ∧ h.K (h.R t 8) = 100 ∧ if (nI (h.N (h.R t 8))) ≤ x2 then (C (-1) h) else (if x2 < (h.I t 11) then (B36_28 t a1 x2 h C X2) else (W37 t h (fun v1 h2 => if ¬ v1 = 0 then (B36_28 t a1 x2 h2 C X2) else (C (-1) h2))))
def B36_2 (t : Nat) (a1 : Int32) (x2 : Int32) (h : TH) (C : Int32 → TH → Prop) : Prop := LFP (F36_2 t a1 C) (x2, h)
def W36 (t : Nat) (a1 : Int32) (h : TH) (C : Int32 → TH → Prop) : Prop :=
  B36_2 t a1 0 h C

theorem R36_28 {d : Nat} {t : Nat} {a1 : Int32} {x2 : Int32} {h : TH} {C : Int32 → TH → Prop} {X2 : Int32 × TH → Prop} (k2 : ∀ s : Int32 × TH, X2 s → Lay (s.2) → xEk (d + 5) 36 (2, [(0, .ref t), (1, .int a1), (2, .int (s.1))], [], (TH.X (s.2))) (postI C)) (ht : is2 t) (hL : Lay h) (hW : B36_28 t a1 x2 h C X2) : xEk (d + 5) 36 (28, [(0, .ref t), (1, .int a1), (2, .int x2)], [], h.X) (postI C) := by
  unfold B36_28 at hW
  refine kst rfl rfl ?_
  obtain ⟨q3, hW⟩ := hW
  refine wgetP rfl (oK2 hL ht) rfl q3 ?_
  refine kst rfl rfl ?_
  obtain ⟨q4, hW⟩ := hW
  refine wald rfl (Or.inl q4.1) rfl q4.2.2 q4.2.1 ?_
  iterate 3 (refine kst rfl rfl ?_)
  refine wcm_ne rfl hW (fun hW => ?_) (fun hW => ?_)
  · iterate 2 (refine kst rfl rfl ?_)
    have z9 := k2 ((x2 + 1), h) hW hL
    refine wjp ?_ z9
    exact ⟨rfl, rfl, rfl, trivial⟩
  · refine kst rfl rfl ?_
    obtain ⟨q5, hW⟩ := hW
    refine wgetP rfl (oK2 hL ht) rfl q5 ?_
    refine kst rfl rfl ?_
    obtain ⟨q6, hW⟩ := hW
    refine wgetP rfl (oK2 hL ht) rfl q6 ?_
    refine kst rfl rfl ?_
    obtain ⟨q7, hW⟩ := hW
    refine wald rfl (Or.inl q7.1) rfl q7.2.2 q7.2.1 ?_
    obtain ⟨q8, hW⟩ := hW
    refine wald rfl (Or.inl q8.1) rfl q8.2.2 q8.2.1 ?_
    refine kre rfl rfl ?_
    exact ⟨_, _, rfl, hL, hW⟩
theorem R36_2 {d : Nat} {t : Nat} {a1 : Int32} {x2 : Int32} {h : TH} {C : Int32 → TH → Prop} (ht : is2 t) (hL : Lay h) (hW : B36_2 t a1 x2 h C) : xEk (d + 5) 36 (2, [(0, .ref t), (1, .int a1), (2, .int x2)], [], h.X) (postI C) := by
  refine hW (fun s => Lay (s.2) → xEk (d + 5) 36 (2, [(0, .ref t), (1, .int a1), (2, .int (s.1))], [], (TH.X (s.2))) (postI C)) ?_ hL
  rintro ⟨x2, h⟩ hW hL
  have k2 : ∀ s : Int32 × TH, (fun s => Lay (s.2) → xEk (d + 5) 36 (2, [(0, .ref t), (1, .int a1), (2, .int (s.1))], [], (TH.X (s.2))) (postI C)) s → Lay (s.2) → xEk (d + 5) 36 (2, [(0, .ref t), (1, .int a1), (2, .int (s.1))], [], (TH.X (s.2))) (postI C) := fun s hs => hs
  unfold F36_2 at hW
  dsimp only at hW
  iterate 2 (refine kst rfl rfl ?_)
  obtain ⟨q1, hW⟩ := hW
  refine wgetP rfl (oK2 hL ht) rfl q1 ?_
  obtain ⟨q2, hW⟩ := hW
  refine walen (kd := 0) rfl q2 (by decide) rfl ?_
  refine wcm_ge rfl hW (fun hW => ?_) (fun hW => ?_)
  · refine kst rfl rfl ?_
    refine kre rfl rfl ?_
    exact ⟨_, _, rfl, hL, hW⟩
  · iterate 2 (refine kst rfl rfl ?_)
    refine wgetI rfl (oK2 hL ht) rfl ?_
    refine wcm_lt rfl hW (fun hW => ?_) (fun hW => ?_)
    · refine wjp ?_ (R36_28 (h := h) k2 ht hL hW)
      exact ⟨rfl, rfl, rfl, trivial⟩
    · refine kst rfl rfl ?_
      refine wcvI rfl (oK2 hL ht) rfl rfl (R37 (d := d + 0) (h := h) ht hL hW) (fun v1 h2 hL hW => ?_)
      refine wif_ne rfl hW (fun hW => ?_) (fun hW => ?_)
      · refine wjp ?_ (R36_28 (h := h2) k2 ht hL hW)
        exact ⟨rfl, rfl, rfl, trivial⟩
      · refine kst rfl rfl ?_
        refine kre rfl rfl ?_
        exact ⟨_, _, rfl, hL, hW⟩
theorem R36 {d : Nat} {t : Nat} {a1 : Int32} {h : TH} {C : Int32 → TH → Prop} (ht : is2 t) (hL : Lay h) (hW : W36 t a1 h C) : xPk (d + 5) 36 [.ref t, .int a1] h.X (postI C) := by
  unfold W36 at hW
  refine kin (Nat.le_of_ble_eq_true rfl) ?_
  iterate 2 (refine kst rfl rfl ?_)
  refine wjp ?_ (R36_2 (h := h) ht hL hW)
  exact ⟨rfl, rfl, rfl, trivial⟩
/-- 35: Least seekWork -/
def W35 (t : Nat) (a1 : Int32) (h : TH) (C : Int32 → TH → Prop) : Prop :=
  W36 t a1 h (fun v1 h2 => if ¬ v1 = (-1) then (C (v1 / 4096) h2) else (C (-1) h2))

theorem R35 {d : Nat} {t : Nat} {a1 : Int32} {h : TH} {C : Int32 → TH → Prop} (ht : is2 t) (hL : Lay h) (hW : W35 t a1 h C) : xPk (d + 6) 35 [.ref t, .int a1] h.X (postI C) := by
  unfold W35 at hW
  refine kin (Nat.le_of_ble_eq_true rfl) ?_
  iterate 2 (refine kst rfl rfl ?_)
  refine wcvI rfl (oK2 hL ht) rfl rfl (R36 (d := d + 0) (h := h) ht hL hW) (fun v1 h2 hL hW => ?_)
  iterate 3 (refine kst rfl rfl ?_)
  refine wcm_ne rfl hW (fun hW => ?_) (fun hW => ?_)
  · iterate 2 (refine kst rfl rfl ?_)
    refine wdiv rfl (by decide) ?_
    refine kre rfl rfl ?_
    exact ⟨_, _, rfl, hL, hW⟩
  · iterate 2 (refine kst rfl rfl ?_)
    refine kre rfl rfl ?_
    exact ⟨_, _, rfl, hL, hW⟩
/-- 46: Least tellMove -/
def W46 (a1 : Int32) (a2 : Int32) (h : TH) (C : Int32 → Prop) : Prop :=
  if ¬ a2 = 0 then (if ¬ a2 = 1 then (if ¬ (a1 / 144) = 1 then (C (-1)) else (C (irem a1 12))) else (C (irem (a1 / 12) 12))) else (C (a1 / 144))

theorem R46 {d : Nat} {a1 : Int32} {a2 : Int32} {h : TH} {C : Int32 → Prop} (hL : Lay h) (hW : W46 a1 a2 h C) : xPk d 46 [.int a1, .int a2] h.X (qostI h C) := by
  unfold W46 at hW
  refine kin (Nat.le_of_ble_eq_true rfl) ?_
  iterate 2 (refine kst rfl rfl ?_)
  refine wdiv rfl (by decide) ?_
  iterate 2 (refine kst rfl rfl ?_)
  refine wif_ne rfl hW (fun hW => ?_) (fun hW => ?_)
  · iterate 2 (refine kst rfl rfl ?_)
    refine wcm_ne rfl hW (fun hW => ?_) (fun hW => ?_)
    · iterate 2 (refine kst rfl rfl ?_)
      refine wcm_ne rfl hW (fun hW => ?_) (fun hW => ?_)
      · refine kst rfl rfl ?_
        refine kre rfl rfl ?_
        exact ⟨_, rfl, hW⟩
      · iterate 2 (refine kst rfl rfl ?_)
        refine wrem rfl (by decide) ?_
        refine kst rfl rfl ?_
        refine kre rfl rfl ?_
        exact ⟨_, rfl, hW⟩
    · iterate 2 (refine kst rfl rfl ?_)
      refine wdiv rfl (by decide) ?_
      refine kst rfl rfl ?_
      refine wrem rfl (by decide) ?_
      refine kre rfl rfl ?_
      exact ⟨_, rfl, hW⟩
  · refine kst rfl rfl ?_
    refine kre rfl rfl ?_
    exact ⟨_, rfl, hW⟩
/-- 49: Least firstOnPath -/
def F49_7 (t : Nat) (a1 : Int32) (a2 : Int32) (C : Int32 → TH → Prop) (X7 : Int32 × TH → Prop) : Int32 × TH → Prop := fun
  | (x3, h) =>
    if (h.I t 15) ≤ x3 then (C (-1) h) else (h.P t 5 = some (h.R t 5) ∧ okA h (h.R t 5) 100 a1 ∧ inb x3 60 ∧ if a2 < ((h.I (h.R t 5) (ix a1)) + (h.I (t + 10) (ix x3))) then (X7 ((x3 + 1), h)) else (h.P t 5 = some (h.R t 5) ∧ inb x3 60 ∧ okA h (h.R t 5) 100 (h.I (t + 9) (ix x3)) ∧ if ¬ (h.I (h.R t 5) (ix (h.I (t + 9) (ix x3)))) = ((h.I (h.R t 5) (ix a1)) + (h.I (t + 10) (ix x3))) then (X7 ((x3 + 1), h)) else (h.P t 9 = some (h.R t 9) ∧ inb x3 60 ∧ okA h (h.R t 9) 102 (h.I (t + 9) (ix x3)) ∧ if (h.I (h.R t 9) (ix (h.I (t + 9) (ix x3)))) = 0 then (X7 ((x3 + 1), h)) else (C x3 h))))
def B49_7 (t : Nat) (a1 : Int32) (a2 : Int32) (x3 : Int32) (h : TH) (C : Int32 → TH → Prop) : Prop := LFP (F49_7 t a1 a2 C) (x3, h)
def W49 (t : Nat) (a1 : Int32) (a2 : Int32) (h : TH) (C : Int32 → TH → Prop) : Prop :=
  W41 t a1 h (fun h1 => B49_7 t a1 a2 0 h1 C)

theorem R49_7 {d : Nat} {t : Nat} {a1 : Int32} {a2 : Int32} {x3 : Int32} {h : TH} {C : Int32 → TH → Prop} (ht : is2 t) (hL : Lay h) (hW : B49_7 t a1 a2 x3 h C) : xEk (d + 4) 49 (7, [(0, .ref t), (1, .int a1), (2, .int a2), (3, .int x3)], [], h.X) (postI C) := by
  refine hW (fun s => Lay (s.2) → xEk (d + 4) 49 (7, [(0, .ref t), (1, .int a1), (2, .int a2), (3, .int (s.1))], [], (TH.X (s.2))) (postI C)) ?_ hL
  rintro ⟨x3, h⟩ hW hL
  have k7 : ∀ s : Int32 × TH, (fun s => Lay (s.2) → xEk (d + 4) 49 (7, [(0, .ref t), (1, .int a1), (2, .int a2), (3, .int (s.1))], [], (TH.X (s.2))) (postI C)) s → Lay (s.2) → xEk (d + 4) 49 (7, [(0, .ref t), (1, .int a1), (2, .int a2), (3, .int (s.1))], [], (TH.X (s.2))) (postI C) := fun s hs => hs
  unfold F49_7 at hW
  dsimp only at hW
  iterate 2 (refine kst rfl rfl ?_)
  refine wgetI rfl (oK2 hL ht) rfl ?_
  refine wcm_ge rfl hW (fun hW => ?_) (fun hW => ?_)
  · refine kst rfl rfl ?_
    refine kre rfl rfl ?_
    exact ⟨_, _, rfl, hL, hW⟩
  · refine kst rfl rfl ?_
    obtain ⟨q1, hW⟩ := hW
    refine wgetP rfl (oK2 hL ht) rfl q1 ?_
    refine kst rfl rfl ?_
    obtain ⟨q2, hW⟩ := hW
    refine wald rfl (Or.inl q2.1) rfl q2.2.2 q2.2.1 ?_
    refine kst rfl rfl ?_
    refine wgetP (b := (t + 10)) rfl (oK2 hL ht) rfl (oP2_13 hL ht) ?_
    refine kst rfl rfl ?_
    obtain ⟨q3, hW⟩ := hW
    refine wald rfl (Or.inl (aK2_13 hL ht)) (aN2_13 hL ht) (by decide) q3 ?_
    iterate 4 (refine kst rfl rfl ?_)
    refine wcm_gt rfl hW (fun hW => ?_) (fun hW => ?_)
    · iterate 2 (refine kst rfl rfl ?_)
      have z9 := k7 ((x3 + 1), h) hW hL
      refine wjp ?_ z9
      exact ⟨rfl, rfl, rfl, rfl, trivial⟩
    · refine kst rfl rfl ?_
      obtain ⟨q4, hW⟩ := hW
      refine wgetP rfl (oK2 hL ht) rfl q4 ?_
      refine kst rfl rfl ?_
      refine wgetP (b := (t + 9)) rfl (oK2 hL ht) rfl (oP2_12 hL ht) ?_
      refine kst rfl rfl ?_
      obtain ⟨q5, hW⟩ := hW
      refine wald rfl (Or.inl (aK2_12 hL ht)) (aN2_12 hL ht) (by decide) q5 ?_
      obtain ⟨q6, hW⟩ := hW
      refine wald rfl (Or.inl q6.1) rfl q6.2.2 q6.2.1 ?_
      refine kst rfl rfl ?_
      refine wcm_ne rfl hW (fun hW => ?_) (fun hW => ?_)
      · iterate 2 (refine kst rfl rfl ?_)
        have z9 := k7 ((x3 + 1), h) hW hL
        refine wjp ?_ z9
        exact ⟨rfl, rfl, rfl, rfl, trivial⟩
      · refine kst rfl rfl ?_
        obtain ⟨q7, hW⟩ := hW
        refine wgetP rfl (oK2 hL ht) rfl q7 ?_
        refine kst rfl rfl ?_
        refine wgetP (b := (t + 9)) rfl (oK2 hL ht) rfl (oP2_12 hL ht) ?_
        refine kst rfl rfl ?_
        obtain ⟨q8, hW⟩ := hW
        refine wald rfl (Or.inl (aK2_12 hL ht)) (aN2_12 hL ht) (by decide) q8 ?_
        obtain ⟨q9, hW⟩ := hW
        refine wbald rfl (Or.inl q9.1) rfl q9.2.2 q9.2.1 ?_
        refine wif_eq rfl hW (fun hW => ?_) (fun hW => ?_)
        · iterate 2 (refine kst rfl rfl ?_)
          have z9 := k7 ((x3 + 1), h) hW hL
          refine wjp ?_ z9
          exact ⟨rfl, rfl, rfl, rfl, trivial⟩
        · refine kst rfl rfl ?_
          refine kre rfl rfl ?_
          exact ⟨_, _, rfl, hL, hW⟩
theorem R49 {d : Nat} {t : Nat} {a1 : Int32} {a2 : Int32} {h : TH} {C : Int32 → TH → Prop} (ht : is2 t) (hL : Lay h) (hW : W49 t a1 a2 h C) : xPk (d + 4) 49 [.ref t, .int a1, .int a2] h.X (postI C) := by
  unfold W49 at hW
  refine kin (Nat.le_of_ble_eq_true rfl) ?_
  iterate 2 (refine kst rfl rfl ?_)
  refine wcvV rfl (oK2 hL ht) rfl rfl (R41 (d := d + 0) (h := h) ht hL hW) (fun h1 hL hW => ?_)
  iterate 2 (refine kst rfl rfl ?_)
  refine wjp ?_ (R49_7 (h := h1) ht hL hW)
  exact ⟨rfl, rfl, rfl, rfl, trivial⟩
/-- 48: Least markPaths -/
def B48_85 (t : Nat) (a1 : Int32) (a2 : Int32) (x3 : Int32) (s0 : Nat) (s1 : Int32) (h : TH) (C : TH → Prop) (X7 : Int32 × TH → Prop) : Prop :=
  okA h s0 102 s1 ∧ X7 ((x3 + (-1)), (h.sI s0 (ix s1) (0 &&& 1)))
def B48_52 (t : Nat) (a1 : Int32) (a2 : Int32) (x3 : Int32) (s0 : Nat) (s1 : Int32) (s2 : Int32) (h : TH) (C : TH → Prop) (X7 : Int32 × TH → Prop) : Prop :=
  okA h s0 102 s1 ∧ X7 ((x3 + (-1)), (h.sI s0 (ix s1) (s2 &&& 1)))
def F48_7 (t : Nat) (a1 : Int32) (a2 : Int32) (C : TH → Prop) (X7 : Int32 × TH → Prop) : Int32 × TH → Prop := fun
  | (x3, h) =>
    if x3 < 0 then (C h) else (h.P t 8 = some (h.R t 8) ∧ okA h (h.R t 8) 100 x3 ∧ h.P t 5 = some (h.R t 5) ∧ okA h (h.R t 5) 100 (h.I (h.R t 8) (ix x3)) ∧ if a2 ≤ (h.I (h.R t 5) (ix (h.I (h.R t 8) (ix x3)))) then (h.P t 9 = some (h.R t 9) ∧ h.P t 5 = some (h.R t 5) ∧ okA h (h.R t 5) 100 (h.I (h.R t 8) (ix x3)) ∧ if ¬ (h.I (h.R t 5) (ix (h.I (h.R t 8) (ix x3)))) = a2 then (B48_85 t a1 a2 x3 (h.R t 9) (h.I (h.R t 8) (ix x3)) h C X7) else (if ¬ ((h.I (h.R t 8) (ix x3)) &&& a1) = a1 then (B48_85 t a1 a2 x3 (h.R t 9) (h.I (h.R t 8) (ix x3)) h C X7) else (okA h (h.R t 9) 102 (h.I (h.R t 8) (ix x3)) ∧ X7 ((x3 + (-1)), (h.sI (h.R t 9) (ix (h.I (h.R t 8) (ix x3))) (1 &&& 1)))))) else (h.P t 9 = some (h.R t 9) ∧ W49 t (h.I (h.R t 8) (ix x3)) a2 h (fun v1 h2 => if v1 = (-1) then (B48_52 t a1 a2 x3 (h.R t 9) (h.I (h.R t 8) (ix x3)) 0 h2 C X7) else (B48_52 t a1 a2 x3 (h.R t 9) (h.I (h.R t 8) (ix x3)) 1 h2 C X7))))
def B48_7 (t : Nat) (a1 : Int32) (a2 : Int32) (x3 : Int32) (h : TH) (C : TH → Prop) : Prop := LFP (F48_7 t a1 a2 C) (x3, h)
def W48 (t : Nat) (a1 : Int32) (a2 : Int32) (h : TH) (C : TH → Prop) : Prop :=
  B48_7 t a1 a2 ((h.I t 11) - 1) h C

theorem R48_85 {d : Nat} {t : Nat} {a1 : Int32} {a2 : Int32} {x3 : Int32} {s0 : Nat} {s1 : Int32} {h : TH} {C : TH → Prop} {X7 : Int32 × TH → Prop} (k7 : ∀ s : Int32 × TH, X7 s → Lay (s.2) → xEk (d + 5) 48 (7, [(0, .ref t), (1, .int a1), (2, .int a2), (3, .int (s.1))], [], (TH.X (s.2))) (postV C)) (ht : is2 t) (hL : Lay h) (hW : B48_85 t a1 a2 x3 s0 s1 h C X7) : xEk (d + 5) 48 (85, [(0, .ref t), (1, .int a1), (2, .int a2), (3, .int x3)], [.int s1, .ref s0], h.X) (postV C) := by
  unfold B48_85 at hW
  refine kst rfl rfl ?_
  obtain ⟨q8, hW⟩ := hW
  refine wzast rfl q8.1 rfl q8.2.2 q8.2.1 ?_
  replace hL : Lay (h.sI s0 (ix s1) (0 &&& 1)) := lsI hL
  iterate 2 (refine kst rfl rfl ?_)
  have z9 := k7 ((x3 + (-1)), (h.sI s0 (ix s1) (0 &&& 1))) hW hL
  refine wjp ?_ z9
  exact ⟨rfl, rfl, rfl, rfl, trivial⟩
theorem R48_52 {d : Nat} {t : Nat} {a1 : Int32} {a2 : Int32} {x3 : Int32} {s0 : Nat} {s1 : Int32} {s2 : Int32} {h : TH} {C : TH → Prop} {X7 : Int32 × TH → Prop} (k7 : ∀ s : Int32 × TH, X7 s → Lay (s.2) → xEk (d + 5) 48 (7, [(0, .ref t), (1, .int a1), (2, .int a2), (3, .int (s.1))], [], (TH.X (s.2))) (postV C)) (ht : is2 t) (hL : Lay h) (hW : B48_52 t a1 a2 x3 s0 s1 s2 h C X7) : xEk (d + 5) 48 (52, [(0, .ref t), (1, .int a1), (2, .int a2), (3, .int x3)], [.int s2, .int s1, .ref s0], h.X) (postV C) := by
  unfold B48_52 at hW
  obtain ⟨q6, hW⟩ := hW
  refine wzast rfl q6.1 rfl q6.2.2 q6.2.1 ?_
  replace hL : Lay (h.sI s0 (ix s1) (s2 &&& 1)) := lsI hL
  iterate 3 (refine kst rfl rfl ?_)
  have z9 := k7 ((x3 + (-1)), (h.sI s0 (ix s1) (s2 &&& 1))) hW hL
  refine wjp ?_ z9
  exact ⟨rfl, rfl, rfl, rfl, trivial⟩
theorem R48_7 {d : Nat} {t : Nat} {a1 : Int32} {a2 : Int32} {x3 : Int32} {h : TH} {C : TH → Prop} (ht : is2 t) (hL : Lay h) (hW : B48_7 t a1 a2 x3 h C) : xEk (d + 5) 48 (7, [(0, .ref t), (1, .int a1), (2, .int a2), (3, .int x3)], [], h.X) (postV C) := by
  refine hW (fun s => Lay (s.2) → xEk (d + 5) 48 (7, [(0, .ref t), (1, .int a1), (2, .int a2), (3, .int (s.1))], [], (TH.X (s.2))) (postV C)) ?_ hL
  rintro ⟨x3, h⟩ hW hL
  have k7 : ∀ s : Int32 × TH, (fun s => Lay (s.2) → xEk (d + 5) 48 (7, [(0, .ref t), (1, .int a1), (2, .int a2), (3, .int (s.1))], [], (TH.X (s.2))) (postV C)) s → Lay (s.2) → xEk (d + 5) 48 (7, [(0, .ref t), (1, .int a1), (2, .int a2), (3, .int (s.1))], [], (TH.X (s.2))) (postV C) := fun s hs => hs
  unfold F48_7 at hW
  dsimp only at hW
  refine kst rfl rfl ?_
  refine wif_lt rfl hW (fun hW => ?_) (fun hW => ?_)
  · refine kre rfl rfl ?_
    exact ⟨_, rfl, hL, hW⟩
  · refine kst rfl rfl ?_
    obtain ⟨q1, hW⟩ := hW
    refine wgetP rfl (oK2 hL ht) rfl q1 ?_
    refine kst rfl rfl ?_
    obtain ⟨q2, hW⟩ := hW
    refine wald rfl (Or.inl q2.1) rfl q2.2.2 q2.2.1 ?_
    iterate 2 (refine kst rfl rfl ?_)
    obtain ⟨q3, hW⟩ := hW
    refine wgetP rfl (oK2 hL ht) rfl q3 ?_
    refine kst rfl rfl ?_
    obtain ⟨q4, hW⟩ := hW
    refine wald rfl (Or.inl q4.1) rfl q4.2.2 q4.2.1 ?_
    refine kst rfl rfl ?_
    refine wcm_ge rfl hW (fun hW => ?_) (fun hW => ?_)
    · refine kst rfl rfl ?_
      obtain ⟨q5, hW⟩ := hW
      refine wgetP rfl (oK2 hL ht) rfl q5 ?_
      iterate 2 (refine kst rfl rfl ?_)
      obtain ⟨q6, hW⟩ := hW
      refine wgetP rfl (oK2 hL ht) rfl q6 ?_
      refine kst rfl rfl ?_
      obtain ⟨q7, hW⟩ := hW
      refine wald rfl (Or.inl q7.1) rfl q7.2.2 q7.2.1 ?_
      refine kst rfl rfl ?_
      refine wcm_ne rfl hW (fun hW => ?_) (fun hW => ?_)
      · refine wjp ?_ (R48_85 (h := h) k7 ht hL hW)
        exact ⟨rfl, rfl, rfl, rfl, trivial⟩
      · iterate 4 (refine kst rfl rfl ?_)
        refine wcm_ne rfl hW (fun hW => ?_) (fun hW => ?_)
        · refine wjp ?_ (R48_85 (h := h) k7 ht hL hW)
          exact ⟨rfl, rfl, rfl, rfl, trivial⟩
        · iterate 2 (refine kst rfl rfl ?_)
          obtain ⟨q8, hW⟩ := hW
          refine wzast rfl q8.1 rfl q8.2.2 q8.2.1 ?_
          replace hL : Lay (h.sI (h.R t 9) (ix (h.I (h.R t 8) (ix x3))) (1 &&& 1)) := lsI hL
          iterate 2 (refine kst rfl rfl ?_)
          have z9 := k7 ((x3 + (-1)), (h.sI (h.R t 9) (ix (h.I (h.R t 8) (ix x3))) (1 &&& 1))) hW hL
          refine wjp ?_ z9
          exact ⟨rfl, rfl, rfl, rfl, trivial⟩
    · refine kst rfl rfl ?_
      obtain ⟨q5, hW⟩ := hW
      refine wgetP rfl (oK2 hL ht) rfl q5 ?_
      iterate 4 (refine kst rfl rfl ?_)
      refine wcvI rfl (oK2 hL ht) rfl rfl (R49 (d := d + 0) (h := h) ht hL hW) (fun v1 h2 hL hW => ?_)
      refine kst rfl rfl ?_
      refine wcm_eq rfl hW (fun hW => ?_) (fun hW => ?_)
      · refine kst rfl rfl ?_
        refine wjp ?_ (R48_52 (h := h2) k7 ht hL hW)
        exact ⟨rfl, rfl, rfl, rfl, trivial⟩
      · iterate 2 (refine kst rfl rfl ?_)
        refine wjp ?_ (R48_52 (h := h2) k7 ht hL hW)
        exact ⟨rfl, rfl, rfl, rfl, trivial⟩
theorem R48 {d : Nat} {t : Nat} {a1 : Int32} {a2 : Int32} {h : TH} {C : TH → Prop} (ht : is2 t) (hL : Lay h) (hW : W48 t a1 a2 h C) : xPk (d + 5) 48 [.ref t, .int a1, .int a2] h.X (postV C) := by
  unfold W48 at hW
  refine kin (Nat.le_of_ble_eq_true rfl) ?_
  refine kst rfl rfl ?_
  refine wgetI rfl (oK2 hL ht) rfl ?_
  iterate 3 (refine kst rfl rfl ?_)
  refine wjp ?_ (R48_7 (h := h) ht hL hW)
  exact ⟨rfl, rfl, rfl, rfl, trivial⟩
/-- 50: Least walkPath -/
def F50_36 (t : Nat) (a1 : Int32) (x2 : Int32) (C : TH → Prop) (X36 : Int32 × Int32 × TH → Prop) : Int32 × Int32 × TH → Prop := fun
  | (x3, x4, h) =>
    if x2 ≤ x4 then (C h) else (h.P t 16 = some (h.R t 16) ∧ h.K (h.R t 16) = 100 ∧ if (nI (h.N (h.R t 16))) ≤ x4 then (C h) else (W49 t x3 a1 h (fun v1 h2 => if ¬ v1 = (-1) then (h2.P t 16 = some (h2.R t 16) ∧ inb v1 60 ∧ okA h2 (h2.R t 16) 100 x4 ∧ inb v1 60 ∧ ∀ e3, e3 = (((h2.sI (h2.R t 16) (ix x4) (h2.I (t + 11) (ix v1))).sI t 17 (x4 + 1)).I (t + 9) (ix v1)) → X36 (e3, (x4 + 1), ((h2.sI (h2.R t 16) (ix x4) (h2.I (t + 11) (ix v1))).sI t 17 (x4 + 1)))) else (C h2))))
def B50_36 (t : Nat) (a1 : Int32) (x2 : Int32) (x3 : Int32) (x4 : Int32) (h : TH) (C : TH → Prop) : Prop := LFP (F50_36 t a1 x2 C) (x3, x4, h)
def B50_26 (t : Nat) (a1 : Int32) (x2 : Int32) (h : TH) (C : TH → Prop) : Prop :=
  B50_36 t a1 x2 0 0 (h.sI t 17 0) C
def W50 (t : Nat) (a1 : Int32) (h : TH) (C : TH → Prop) : Prop :=
  h.P t 16 = some (h.R t 16) ∧ h.K (h.R t 16) = 100 ∧ if (irem a1 4096) ≤ (nI (h.N (h.R t 16))) then (B50_26 t a1 (irem a1 4096) h C) else (h.P t 5 = some (h.R t 5) ∧ h.K (h.R t 5) = 100 ∧ inb (nI (h.N (h.R t 5))) 60001 ∧ h.n < 1000000 ∧ B50_26 t a1 (irem a1 4096) ((h.new 100 (ix (nI (h.N (h.R t 5)))) (ix (nI (h.N (h.R t 5))))).sP t 16 h.n) C)

theorem R50_36 {d : Nat} {t : Nat} {a1 : Int32} {x2 : Int32} {x3 : Int32} {x4 : Int32} {h : TH} {C : TH → Prop} (ht : is2 t) (hL : Lay h) (hW : B50_36 t a1 x2 x3 x4 h C) : xEk (d + 5) 50 (36, [(0, .ref t), (1, .int a1), (2, .int x2), (3, .int x3), (4, .int x4)], [], h.X) (postV C) := by
  refine hW (fun s => Lay (s.2.2) → xEk (d + 5) 50 (36, [(0, .ref t), (1, .int a1), (2, .int x2), (3, .int (s.1)), (4, .int (s.2.1))], [], (TH.X (s.2.2))) (postV C)) ?_ hL
  rintro ⟨x3, x4, h⟩ hW hL
  have k36 : ∀ s : Int32 × Int32 × TH, (fun s => Lay (s.2.2) → xEk (d + 5) 50 (36, [(0, .ref t), (1, .int a1), (2, .int x2), (3, .int (s.1)), (4, .int (s.2.1))], [], (TH.X (s.2.2))) (postV C)) s → Lay (s.2.2) → xEk (d + 5) 50 (36, [(0, .ref t), (1, .int a1), (2, .int x2), (3, .int (s.1)), (4, .int (s.2.1))], [], (TH.X (s.2.2))) (postV C) := fun s hs => hs
  unfold F50_36 at hW
  dsimp only at hW
  iterate 2 (refine kst rfl rfl ?_)
  refine wcm_ge rfl hW (fun hW => ?_) (fun hW => ?_)
  · refine kre rfl rfl ?_
    exact ⟨_, rfl, hL, hW⟩
  · iterate 2 (refine kst rfl rfl ?_)
    obtain ⟨q3, hW⟩ := hW
    refine wgetP rfl (oK2 hL ht) rfl q3 ?_
    obtain ⟨q4, hW⟩ := hW
    refine walen (kd := 0) rfl q4 (by decide) rfl ?_
    refine wcm_ge rfl hW (fun hW => ?_) (fun hW => ?_)
    · refine kre rfl rfl ?_
      exact ⟨_, rfl, hL, hW⟩
    · iterate 3 (refine kst rfl rfl ?_)
      refine wcvI rfl (oK2 hL ht) rfl rfl (R49 (d := d + 0) (h := h) ht hL hW) (fun v1 h2 hL hW => ?_)
      iterate 3 (refine kst rfl rfl ?_)
      refine wcm_ne rfl hW (fun hW => ?_) (fun hW => ?_)
      · refine kst rfl rfl ?_
        obtain ⟨q5, hW⟩ := hW
        refine wgetP rfl (oK2 hL ht) rfl q5 ?_
        iterate 2 (refine kst rfl rfl ?_)
        refine wgetP (b := (t + 11)) rfl (oK2 hL ht) rfl (oP2_14 hL ht) ?_
        refine kst rfl rfl ?_
        obtain ⟨q6, hW⟩ := hW
        refine wald rfl (Or.inl (aK2_14 hL ht)) (aN2_14 hL ht) (by decide) q6 ?_
        obtain ⟨q7, hW⟩ := hW
        refine wast rfl q7.1 rfl q7.2.2 q7.2.1 ?_
        replace hL : Lay (h2.sI (h2.R t 16) (ix x4) (h2.I (t + 11) (ix v1))) := lsI hL
        iterate 4 (refine kst rfl rfl ?_)
        refine wputI rfl (oK2 hL ht) rfl ?_
        replace hL : Lay ((h2.sI (h2.R t 16) (ix x4) (h2.I (t + 11) (ix v1))).sI t 17 (x4 + 1)) := lsI hL
        refine kst rfl rfl ?_
        refine wgetP (b := (t + 9)) rfl (oK2 hL ht) rfl (oP2_12 hL ht) ?_
        refine kst rfl rfl ?_
        obtain ⟨q8, hW⟩ := hW
        refine wald rfl (Or.inl (aK2_12 hL ht)) (aN2_12 hL ht) (by decide) q8 ?_
        refine kst rfl rfl ?_
        replace hW := hW _ rfl
        iterate 2 (refine kst rfl rfl ?_)
        have z9 := k36 ((((h2.sI (h2.R t 16) (ix x4) (h2.I (t + 11) (ix v1))).sI t 17 (x4 + 1)).I (t + 9) (ix v1)), (x4 + 1), ((h2.sI (h2.R t 16) (ix x4) (h2.I (t + 11) (ix v1))).sI t 17 (x4 + 1))) hW hL
        refine wjp ?_ z9
        exact ⟨rfl, rfl, rfl, rfl, rfl, trivial⟩
      · refine kre rfl rfl ?_
        exact ⟨_, rfl, hL, hW⟩
theorem R50_26 {d : Nat} {t : Nat} {a1 : Int32} {x2 : Int32} {h : TH} {C : TH → Prop} (ht : is2 t) (hL : Lay h) (hW : B50_26 t a1 x2 h C) : xEk (d + 5) 50 (26, [(0, .ref t), (1, .int a1), (2, .int x2)], [], h.X) (postV C) := by
  unfold B50_26 at hW
  iterate 2 (refine kst rfl rfl ?_)
  refine wputI rfl (oK2 hL ht) rfl ?_
  replace hL : Lay (h.sI t 17 0) := lsI hL
  iterate 4 (refine kst rfl rfl ?_)
  refine wjp ?_ (R50_36 (h := (h.sI t 17 0)) ht hL hW)
  exact ⟨rfl, rfl, rfl, rfl, rfl, trivial⟩
theorem R50 {d : Nat} {t : Nat} {a1 : Int32} {h : TH} {C : TH → Prop} (ht : is2 t) (hL : Lay h) (hW : W50 t a1 h C) : xPk (d + 5) 50 [.ref t, .int a1] h.X (postV C) := by
  unfold W50 at hW
  refine kin (Nat.le_of_ble_eq_true rfl) ?_
  iterate 2 (refine kst rfl rfl ?_)
  refine wrem rfl (by decide) ?_
  iterate 2 (refine kst rfl rfl ?_)
  obtain ⟨q1, hW⟩ := hW
  refine wgetP rfl (oK2 hL ht) rfl q1 ?_
  obtain ⟨q2, hW⟩ := hW
  refine walen (kd := 0) rfl q2 (by decide) rfl ?_
  refine kst rfl rfl ?_
  refine wcm_ge rfl hW (fun hW => ?_) (fun hW => ?_)
  · refine wjp ?_ (R50_26 (h := h) ht hL hW)
    exact ⟨rfl, rfl, rfl, trivial⟩
  · iterate 2 (refine kst rfl rfl ?_)
    obtain ⟨q3, hW⟩ := hW
    refine wgetP rfl (oK2 hL ht) rfl q3 ?_
    obtain ⟨q4, hW⟩ := hW
    refine walen (kd := 0) rfl q4 (by decide) rfl ?_
    obtain ⟨q5, hW⟩ := hW
    obtain ⟨q6, hW⟩ := hW
    refine wnewA rfl (by decide) q5 ?_
    replace hL := lnew hL (k := 100) (l := (ix (nI (h.N (h.R t 5))))) (m := (ix (nI (h.N (h.R t 5))))) q6
    refine wputP rfl (oK2 hL ht) rfl ?_
    replace hL := ls2_16 hL ht (b := h.n)
    refine wjp ?_ (R50_26 (h := ((h.new 100 (ix (nI (h.N (h.R t 5)))) (ix (nI (h.N (h.R t 5))))).sP t 16 h.n)) ht hL hW)
    exact ⟨rfl, rfl, rfl, trivial⟩
/-- 47: Least findPath -/
def B47_55 (t : Nat) (a1 : Int32) (x2 : Int32) (h : TH) (C : Int32 → TH → Prop) : Prop :=
  W48 t a1 x2 h (fun h3 => W50 t x2 h3 (fun h4 => C (h4.I t 17) h4))
def F47_15 (t : Nat) (a1 : Int32) (x2 : Int32) (C : Int32 → TH → Prop) (X15 : Int32 × TH → Prop) : Int32 × TH → Prop := fun
  | (x3, h) =>
    if 4096 ≤ x3 then (B47_55 t a1 x2 h C) else (if (h.I t 10) ≤ 0 then (B47_55 t a1 x2 h C) else (h.P t 5 = some (h.R t 5) ∧ h.P t 6 = some (h.R t 6) ∧ okA h (h.R t 6) 100 0 ∧ okA h (h.R t 5) 100 (h.I (h.R t 6) (ix 0)) ∧ if x2 < (h.I (h.R t 5) (ix (h.I (h.R t 6) (ix 0)))) then (B47_55 t a1 x2 h C) else (W37 t h (fun v3 h4 => X15 ((x3 + 1), h4)))))
def B47_15 (t : Nat) (a1 : Int32) (x2 : Int32) (x3 : Int32) (h : TH) (C : Int32 → TH → Prop) : Prop := LFP (F47_15 t a1 x2 C) (x3, h)
def W47 (t : Nat) (a1 : Int32) (h : TH) (C : Int32 → TH → Prop) : Prop :=
  W36 t a1 h (fun v1 h2 => if ¬ v1 = (-1) then (B47_15 t a1 v1 0 h2 C) else (C (-1) h2))

theorem R47_55 {d : Nat} {t : Nat} {a1 : Int32} {x2 : Int32} {h : TH} {C : Int32 → TH → Prop} (ht : is2 t) (hL : Lay h) (hW : B47_55 t a1 x2 h C) : xEk (d + 6) 47 (55, [(0, .ref t), (1, .int a1), (2, .int x2)], [], h.X) (postI C) := by
  unfold B47_55 at hW
  iterate 3 (refine kst rfl rfl ?_)
  refine wcvV rfl (oK2 hL ht) rfl rfl (R48 (d := d + 0) (h := h) ht hL hW) (fun h3 hL hW => ?_)
  iterate 2 (refine kst rfl rfl ?_)
  refine wcvV rfl (oK2 hL ht) rfl rfl (R50 (d := d + 0) (h := h3) ht hL hW) (fun h4 hL hW => ?_)
  refine kst rfl rfl ?_
  refine wgetI rfl (oK2 hL ht) rfl ?_
  refine kre rfl rfl ?_
  exact ⟨_, _, rfl, hL, hW⟩
theorem R47_15 {d : Nat} {t : Nat} {a1 : Int32} {x2 : Int32} {x3 : Int32} {h : TH} {C : Int32 → TH → Prop} (ht : is2 t) (hL : Lay h) (hW : B47_15 t a1 x2 x3 h C) : xEk (d + 6) 47 (15, [(0, .ref t), (1, .int a1), (2, .int x2), (3, .int x3)], [], h.X) (postI C) := by
  refine hW (fun s => Lay (s.2) → xEk (d + 6) 47 (15, [(0, .ref t), (1, .int a1), (2, .int x2), (3, .int (s.1))], [], (TH.X (s.2))) (postI C)) ?_ hL
  rintro ⟨x3, h⟩ hW hL
  have k15 : ∀ s : Int32 × TH, (fun s => Lay (s.2) → xEk (d + 6) 47 (15, [(0, .ref t), (1, .int a1), (2, .int x2), (3, .int (s.1))], [], (TH.X (s.2))) (postI C)) s → Lay (s.2) → xEk (d + 6) 47 (15, [(0, .ref t), (1, .int a1), (2, .int x2), (3, .int (s.1))], [], (TH.X (s.2))) (postI C) := fun s hs => hs
  unfold F47_15 at hW
  dsimp only at hW
  iterate 2 (refine kst rfl rfl ?_)
  refine wcm_ge rfl hW (fun hW => ?_) (fun hW => ?_)
  · refine wjp ?_ (R47_55 (h := h) ht hL hW)
    exact ⟨rfl, rfl, rfl, trivial⟩
  · refine kst rfl rfl ?_
    refine wgetI rfl (oK2 hL ht) rfl ?_
    refine wif_le rfl hW (fun hW => ?_) (fun hW => ?_)
    · refine wjp ?_ (R47_55 (h := h) ht hL hW)
      exact ⟨rfl, rfl, rfl, trivial⟩
    · refine kst rfl rfl ?_
      obtain ⟨q1, hW⟩ := hW
      refine wgetP rfl (oK2 hL ht) rfl q1 ?_
      refine kst rfl rfl ?_
      obtain ⟨q2, hW⟩ := hW
      refine wgetP rfl (oK2 hL ht) rfl q2 ?_
      refine kst rfl rfl ?_
      obtain ⟨q3, hW⟩ := hW
      refine wald rfl (Or.inl q3.1) rfl q3.2.2 q3.2.1 ?_
      obtain ⟨q4, hW⟩ := hW
      refine wald rfl (Or.inl q4.1) rfl q4.2.2 q4.2.1 ?_
      refine kst rfl rfl ?_
      refine wcm_gt rfl hW (fun hW => ?_) (fun hW => ?_)
      · refine wjp ?_ (R47_55 (h := h) ht hL hW)
        exact ⟨rfl, rfl, rfl, trivial⟩
      · refine kst rfl rfl ?_
        refine wcvI rfl (oK2 hL ht) rfl rfl (R37 (d := d + 1) (h := h) ht hL hW) (fun v3 h4 hL hW => ?_)
        iterate 3 (refine kst rfl rfl ?_)
        have z9 := k15 ((x3 + 1), h4) hW hL
        refine wjp ?_ z9
        exact ⟨rfl, rfl, rfl, rfl, trivial⟩
theorem R47 {d : Nat} {t : Nat} {a1 : Int32} {h : TH} {C : Int32 → TH → Prop} (ht : is2 t) (hL : Lay h) (hW : W47 t a1 h C) : xPk (d + 6) 47 [.ref t, .int a1] h.X (postI C) := by
  unfold W47 at hW
  refine kin (Nat.le_of_ble_eq_true rfl) ?_
  iterate 2 (refine kst rfl rfl ?_)
  refine wcvI rfl (oK2 hL ht) rfl rfl (R36 (d := d + 0) (h := h) ht hL hW) (fun v1 h2 hL hW => ?_)
  iterate 3 (refine kst rfl rfl ?_)
  refine wcm_ne rfl hW (fun hW => ?_) (fun hW => ?_)
  · iterate 2 (refine kst rfl rfl ?_)
    refine wjp ?_ (R47_15 (h := h2) ht hL hW)
    exact ⟨rfl, rfl, rfl, rfl, trivial⟩
  · refine kst rfl rfl ?_
    refine kre rfl rfl ?_
    exact ⟨_, _, rfl, hL, hW⟩
/-- 52: Menu clear -/
def W52 (t : Nat) (h : TH) (C : TH → Prop) : Prop :=
  C ((((h.sI t 1 0).sI t 2 0).sI t 3 0).sI t 4 0)

theorem R52 {d : Nat} {t : Nat} {h : TH} {C : TH → Prop} (ht : is3 t) (hL : Lay h) (hW : W52 t h C) : xPk d 52 [.ref t] h.X (postV C) := by
  unfold W52 at hW
  refine kin (Nat.le_of_ble_eq_true rfl) ?_
  iterate 2 (refine kst rfl rfl ?_)
  refine wputI rfl (oK3 hL ht) rfl ?_
  replace hL : Lay (h.sI t 1 0) := lsI hL
  iterate 2 (refine kst rfl rfl ?_)
  refine wputI rfl (oK3 hL ht) rfl ?_
  replace hL : Lay ((h.sI t 1 0).sI t 2 0) := lsI hL
  iterate 2 (refine kst rfl rfl ?_)
  refine wputI rfl (oK3 hL ht) rfl ?_
  replace hL : Lay (((h.sI t 1 0).sI t 2 0).sI t 3 0) := lsI hL
  iterate 2 (refine kst rfl rfl ?_)
  refine wputI rfl (oK3 hL ht) rfl ?_
  replace hL : Lay ((((h.sI t 1 0).sI t 2 0).sI t 3 0).sI t 4 0) := lsI hL
  refine kre rfl rfl ?_
  exact ⟨_, rfl, hL, hW⟩
/-- 108: Room copyFrom -/
def W108 (t : Nat) (a1 : Nat) (h : TH) (C : TH → Prop) : Prop :=
  ∀ h1, h1 = ((h.cI (t + 1) (va_cpy (h.I (a1 + 1)) (h.I (t + 1)) (ix 0) (ix 0) (ix 9))).cI (t + 2) (va_cpy ((h.cI (t + 1) (va_cpy (h.I (a1 + 1)) (h.I (t + 1)) (ix 0) (ix 0) (ix 9))).I (a1 + 2)) ((h.cI (t + 1) (va_cpy (h.I (a1 + 1)) (h.I (t + 1)) (ix 0) (ix 0) (ix 9))).I (t + 2)) (ix 0) (ix 0) (ix 9))) → C (h1.sI t 2 (h1.I a1 2))

theorem R108 {d : Nat} {t : Nat} {a1 : Nat} {h : TH} {C : TH → Prop} (ht : is7 t) (ha1 : is7 a1) (hL : Lay h) (hW : W108 t a1 h C) : xPk d 108 [.ref t, .ref a1] h.X (postV C) := by
  unfold W108 at hW
  refine kin (Nat.le_of_ble_eq_true rfl) ?_
  refine kst rfl rfl ?_
  refine wgetP (b := (a1 + 1)) rfl (oK7 hL ha1) rfl (oP7_0 hL ha1) ?_
  iterate 2 (refine kst rfl rfl ?_)
  refine wgetP (b := (t + 1)) rfl (oK7 hL ht) rfl (oP7_0 hL ht) ?_
  iterate 2 (refine kst rfl rfl ?_)
  refine wcopyI rfl (aK7_0 hL ha1) (aK7_0 hL ht) (aN7_0 hL ha1) (aN7_0 hL ht) (by decide) (by decide) ⟨by decide, by decide, by decide, by decide, by decide⟩ (Nat.le_of_ble_eq_true rfl) ?_
  replace hL : Lay (h.cI (t + 1) (va_cpy (h.I (a1 + 1)) (h.I (t + 1)) (ix 0) (ix 0) (ix 9))) := lcI hL
  refine kst rfl rfl ?_
  refine wgetP (b := (a1 + 2)) rfl (oK7 hL ha1) rfl (oP7_1 hL ha1) ?_
  iterate 2 (refine kst rfl rfl ?_)
  refine wgetP (b := (t + 2)) rfl (oK7 hL ht) rfl (oP7_1 hL ht) ?_
  iterate 2 (refine kst rfl rfl ?_)
  refine wcopyI rfl (aK7_1 hL ha1) (aK7_1 hL ht) (aN7_1 hL ha1) (aN7_1 hL ht) (by decide) (by decide) ⟨by decide, by decide, by decide, by decide, by decide⟩ (Nat.le_of_ble_eq_true rfl) ?_
  replace hL : Lay ((h.cI (t + 1) (va_cpy (h.I (a1 + 1)) (h.I (t + 1)) (ix 0) (ix 0) (ix 9))).cI (t + 2) (va_cpy ((h.cI (t + 1) (va_cpy (h.I (a1 + 1)) (h.I (t + 1)) (ix 0) (ix 0) (ix 9))).I (a1 + 2)) ((h.cI (t + 1) (va_cpy (h.I (a1 + 1)) (h.I (t + 1)) (ix 0) (ix 0) (ix 9))).I (t + 2)) (ix 0) (ix 0) (ix 9))) := lcI hL
  iterate 2 (refine kst rfl rfl ?_)
  refine whb (h := ((h.cI (t + 1) (va_cpy (h.I (a1 + 1)) (h.I (t + 1)) (ix 0) (ix 0) (ix 9))).cI (t + 2) (va_cpy ((h.cI (t + 1) (va_cpy (h.I (a1 + 1)) (h.I (t + 1)) (ix 0) (ix 0) (ix 9))).I (a1 + 2)) ((h.cI (t + 1) (va_cpy (h.I (a1 + 1)) (h.I (t + 1)) (ix 0) (ix 0) (ix 9))).I (t + 2)) (ix 0) (ix 0) (ix 9)))) (fun h1 eh1 => ?_)
  replace hW := hW h1 eh1
  replace hL : Lay h1 := by rw [eh1]; exact hL
  clear eh1
  refine wgetI rfl (oK7 hL ha1) rfl ?_
  refine wputI rfl (oK7 hL ht) rfl ?_
  replace hL : Lay (h1.sI t 2 (h1.I a1 2)) := lsI hL
  refine kre rfl rfl ?_
  exact ⟨_, rfl, hL, hW⟩
/-- 53: Menu copyFrom -/
def W53 (t : Nat) (a1 : Nat) (h : TH) (C : TH → Prop) : Prop :=
  ∀ h1, h1 = (((h.sI t 0 (h.I a1 0)).sI t 1 ((h.sI t 0 (h.I a1 0)).I a1 1)).sI t 2 (((h.sI t 0 (h.I a1 0)).sI t 1 ((h.sI t 0 (h.I a1 0)).I a1 1)).I a1 2)) → ∀ h2, h2 = (((h1.sI t 3 (h1.I a1 3)).sI t 4 ((h1.sI t 3 (h1.I a1 3)).I a1 4)).cJ (t + 1) (va_cpy (((h1.sI t 3 (h1.I a1 3)).sI t 4 ((h1.sI t 3 (h1.I a1 3)).I a1 4)).J (a1 + 1)) (((h1.sI t 3 (h1.I a1 3)).sI t 4 ((h1.sI t 3 (h1.I a1 3)).I a1 4)).J (t + 1)) (ix 0) (ix 0) (ix 12))) → ∀ h3, h3 = ((h2.cI (t + 2) (va_cpy (h2.I (a1 + 2)) (h2.I (t + 2)) (ix 0) (ix 0) (ix 12))).cI (t + 3) (va_cpy ((h2.cI (t + 2) (va_cpy (h2.I (a1 + 2)) (h2.I (t + 2)) (ix 0) (ix 0) (ix 12))).I (a1 + 3)) ((h2.cI (t + 2) (va_cpy (h2.I (a1 + 2)) (h2.I (t + 2)) (ix 0) (ix 0) (ix 12))).I (t + 3)) (ix 0) (ix 0) (ix 12))) → ∀ h4, h4 = ((h3.cI (t + 4) (va_cpy (h3.I (a1 + 4)) (h3.I (t + 4)) (ix 0) (ix 0) (ix 12))).cI (t + 5) (va_cpy ((h3.cI (t + 4) (va_cpy (h3.I (a1 + 4)) (h3.I (t + 4)) (ix 0) (ix 0) (ix 12))).I (a1 + 5)) ((h3.cI (t + 4) (va_cpy (h3.I (a1 + 4)) (h3.I (t + 4)) (ix 0) (ix 0) (ix 12))).I (t + 5)) (ix 0) (ix 0) (ix 12))) → ∀ h5, h5 = ((h4.cI (t + 6) (va_cpy (h4.I (a1 + 6)) (h4.I (t + 6)) (ix 0) (ix 0) (ix 12))).cI (t + 7) (va_cpy ((h4.cI (t + 6) (va_cpy (h4.I (a1 + 6)) (h4.I (t + 6)) (ix 0) (ix 0) (ix 12))).I (a1 + 7)) ((h4.cI (t + 6) (va_cpy (h4.I (a1 + 6)) (h4.I (t + 6)) (ix 0) (ix 0) (ix 12))).I (t + 7)) (ix 0) (ix 0) (ix 12))) → ∀ h6, h6 = ((h5.cI (t + 8) (va_cpy (h5.I (a1 + 8)) (h5.I (t + 8)) (ix 0) (ix 0) (ix 8))).cI (t + 9) (va_cpy ((h5.cI (t + 8) (va_cpy (h5.I (a1 + 8)) (h5.I (t + 8)) (ix 0) (ix 0) (ix 8))).I (a1 + 9)) ((h5.cI (t + 8) (va_cpy (h5.I (a1 + 8)) (h5.I (t + 8)) (ix 0) (ix 0) (ix 8))).I (t + 9)) (ix 0) (ix 0) (ix 12))) → ∀ h7, h7 = ((h6.cI (t + 10) (va_cpy (h6.I (a1 + 10)) (h6.I (t + 10)) (ix 0) (ix 0) (ix 12))).cI (t + 11) (va_cpy ((h6.cI (t + 10) (va_cpy (h6.I (a1 + 10)) (h6.I (t + 10)) (ix 0) (ix 0) (ix 12))).I (a1 + 11)) ((h6.cI (t + 10) (va_cpy (h6.I (a1 + 10)) (h6.I (t + 10)) (ix 0) (ix 0) (ix 12))).I (t + 11)) (ix 0) (ix 0) (ix 12))) → W108 (t + 12) (a1 + 12) h7 (fun h8 => C h8)

theorem R53 {d : Nat} {t : Nat} {a1 : Nat} {h : TH} {C : TH → Prop} (ht : is3 t) (ha1 : is3 a1) (hL : Lay h) (hW : W53 t a1 h C) : xPk (d + 1) 53 [.ref t, .ref a1] h.X (postV C) := by
  unfold W53 at hW
  refine kin (Nat.le_of_ble_eq_true rfl) ?_
  iterate 2 (refine kst rfl rfl ?_)
  refine wgetI rfl (oK3 hL ha1) rfl ?_
  refine wputI rfl (oK3 hL ht) rfl ?_
  replace hL : Lay (h.sI t 0 (h.I a1 0)) := lsI hL
  iterate 2 (refine kst rfl rfl ?_)
  refine wgetI rfl (oK3 hL ha1) rfl ?_
  refine wputI rfl (oK3 hL ht) rfl ?_
  replace hL : Lay ((h.sI t 0 (h.I a1 0)).sI t 1 ((h.sI t 0 (h.I a1 0)).I a1 1)) := lsI hL
  iterate 2 (refine kst rfl rfl ?_)
  refine wgetI rfl (oK3 hL ha1) rfl ?_
  refine wputI rfl (oK3 hL ht) rfl ?_
  replace hL : Lay (((h.sI t 0 (h.I a1 0)).sI t 1 ((h.sI t 0 (h.I a1 0)).I a1 1)).sI t 2 (((h.sI t 0 (h.I a1 0)).sI t 1 ((h.sI t 0 (h.I a1 0)).I a1 1)).I a1 2)) := lsI hL
  iterate 2 (refine kst rfl rfl ?_)
  refine whb (h := (((h.sI t 0 (h.I a1 0)).sI t 1 ((h.sI t 0 (h.I a1 0)).I a1 1)).sI t 2 (((h.sI t 0 (h.I a1 0)).sI t 1 ((h.sI t 0 (h.I a1 0)).I a1 1)).I a1 2))) (fun h1 eh1 => ?_)
  replace hW := hW h1 eh1
  replace hL : Lay h1 := by rw [eh1]; exact hL
  clear eh1
  refine wgetI rfl (oK3 hL ha1) rfl ?_
  refine wputI rfl (oK3 hL ht) rfl ?_
  replace hL : Lay (h1.sI t 3 (h1.I a1 3)) := lsI hL
  iterate 2 (refine kst rfl rfl ?_)
  refine wgetI rfl (oK3 hL ha1) rfl ?_
  refine wputI rfl (oK3 hL ht) rfl ?_
  replace hL : Lay ((h1.sI t 3 (h1.I a1 3)).sI t 4 ((h1.sI t 3 (h1.I a1 3)).I a1 4)) := lsI hL
  refine kst rfl rfl ?_
  refine wgetP (b := (a1 + 1)) rfl (oK3 hL ha1) rfl (oP3_5 hL ha1) ?_
  iterate 2 (refine kst rfl rfl ?_)
  refine wgetP (b := (t + 1)) rfl (oK3 hL ht) rfl (oP3_5 hL ht) ?_
  iterate 2 (refine kst rfl rfl ?_)
  refine wcopyJ rfl (aK3_5 hL ha1) (aK3_5 hL ht) (aN3_5 hL ha1) (aN3_5 hL ht) (by decide) (by decide) ⟨by decide, by decide, by decide, by decide, by decide⟩ (Nat.le_of_ble_eq_true rfl) ?_
  replace hL : Lay (((h1.sI t 3 (h1.I a1 3)).sI t 4 ((h1.sI t 3 (h1.I a1 3)).I a1 4)).cJ (t + 1) (va_cpy (((h1.sI t 3 (h1.I a1 3)).sI t 4 ((h1.sI t 3 (h1.I a1 3)).I a1 4)).J (a1 + 1)) (((h1.sI t 3 (h1.I a1 3)).sI t 4 ((h1.sI t 3 (h1.I a1 3)).I a1 4)).J (t + 1)) (ix 0) (ix 0) (ix 12))) := lcJ hL
  refine kst rfl rfl ?_
  refine whb (h := (((h1.sI t 3 (h1.I a1 3)).sI t 4 ((h1.sI t 3 (h1.I a1 3)).I a1 4)).cJ (t + 1) (va_cpy (((h1.sI t 3 (h1.I a1 3)).sI t 4 ((h1.sI t 3 (h1.I a1 3)).I a1 4)).J (a1 + 1)) (((h1.sI t 3 (h1.I a1 3)).sI t 4 ((h1.sI t 3 (h1.I a1 3)).I a1 4)).J (t + 1)) (ix 0) (ix 0) (ix 12)))) (fun h2 eh2 => ?_)
  replace hW := hW h2 eh2
  replace hL : Lay h2 := by rw [eh2]; exact hL
  clear eh2
  refine wgetP (b := (a1 + 2)) rfl (oK3 hL ha1) rfl (oP3_6 hL ha1) ?_
  iterate 2 (refine kst rfl rfl ?_)
  refine wgetP (b := (t + 2)) rfl (oK3 hL ht) rfl (oP3_6 hL ht) ?_
  iterate 2 (refine kst rfl rfl ?_)
  refine wcopyI rfl (aK3_6 hL ha1) (aK3_6 hL ht) (aN3_6 hL ha1) (aN3_6 hL ht) (by decide) (by decide) ⟨by decide, by decide, by decide, by decide, by decide⟩ (Nat.le_of_ble_eq_true rfl) ?_
  replace hL : Lay (h2.cI (t + 2) (va_cpy (h2.I (a1 + 2)) (h2.I (t + 2)) (ix 0) (ix 0) (ix 12))) := lcI hL
  refine kst rfl rfl ?_
  refine wgetP (b := (a1 + 3)) rfl (oK3 hL ha1) rfl (oP3_7 hL ha1) ?_
  iterate 2 (refine kst rfl rfl ?_)
  refine wgetP (b := (t + 3)) rfl (oK3 hL ht) rfl (oP3_7 hL ht) ?_
  iterate 2 (refine kst rfl rfl ?_)
  refine wcopyI rfl (aK3_7 hL ha1) (aK3_7 hL ht) (aN3_7 hL ha1) (aN3_7 hL ht) (by decide) (by decide) ⟨by decide, by decide, by decide, by decide, by decide⟩ (Nat.le_of_ble_eq_true rfl) ?_
  replace hL : Lay ((h2.cI (t + 2) (va_cpy (h2.I (a1 + 2)) (h2.I (t + 2)) (ix 0) (ix 0) (ix 12))).cI (t + 3) (va_cpy ((h2.cI (t + 2) (va_cpy (h2.I (a1 + 2)) (h2.I (t + 2)) (ix 0) (ix 0) (ix 12))).I (a1 + 3)) ((h2.cI (t + 2) (va_cpy (h2.I (a1 + 2)) (h2.I (t + 2)) (ix 0) (ix 0) (ix 12))).I (t + 3)) (ix 0) (ix 0) (ix 12))) := lcI hL
  refine kst rfl rfl ?_
  refine whb (h := ((h2.cI (t + 2) (va_cpy (h2.I (a1 + 2)) (h2.I (t + 2)) (ix 0) (ix 0) (ix 12))).cI (t + 3) (va_cpy ((h2.cI (t + 2) (va_cpy (h2.I (a1 + 2)) (h2.I (t + 2)) (ix 0) (ix 0) (ix 12))).I (a1 + 3)) ((h2.cI (t + 2) (va_cpy (h2.I (a1 + 2)) (h2.I (t + 2)) (ix 0) (ix 0) (ix 12))).I (t + 3)) (ix 0) (ix 0) (ix 12)))) (fun h3 eh3 => ?_)
  replace hW := hW h3 eh3
  replace hL : Lay h3 := by rw [eh3]; exact hL
  clear eh3
  refine wgetP (b := (a1 + 4)) rfl (oK3 hL ha1) rfl (oP3_8 hL ha1) ?_
  iterate 2 (refine kst rfl rfl ?_)
  refine wgetP (b := (t + 4)) rfl (oK3 hL ht) rfl (oP3_8 hL ht) ?_
  iterate 2 (refine kst rfl rfl ?_)
  refine wcopyI rfl (aK3_8 hL ha1) (aK3_8 hL ht) (aN3_8 hL ha1) (aN3_8 hL ht) (by decide) (by decide) ⟨by decide, by decide, by decide, by decide, by decide⟩ (Nat.le_of_ble_eq_true rfl) ?_
  replace hL : Lay (h3.cI (t + 4) (va_cpy (h3.I (a1 + 4)) (h3.I (t + 4)) (ix 0) (ix 0) (ix 12))) := lcI hL
  refine kst rfl rfl ?_
  refine wgetP (b := (a1 + 5)) rfl (oK3 hL ha1) rfl (oP3_9 hL ha1) ?_
  iterate 2 (refine kst rfl rfl ?_)
  refine wgetP (b := (t + 5)) rfl (oK3 hL ht) rfl (oP3_9 hL ht) ?_
  iterate 2 (refine kst rfl rfl ?_)
  refine wcopyI rfl (aK3_9 hL ha1) (aK3_9 hL ht) (aN3_9 hL ha1) (aN3_9 hL ht) (by decide) (by decide) ⟨by decide, by decide, by decide, by decide, by decide⟩ (Nat.le_of_ble_eq_true rfl) ?_
  replace hL : Lay ((h3.cI (t + 4) (va_cpy (h3.I (a1 + 4)) (h3.I (t + 4)) (ix 0) (ix 0) (ix 12))).cI (t + 5) (va_cpy ((h3.cI (t + 4) (va_cpy (h3.I (a1 + 4)) (h3.I (t + 4)) (ix 0) (ix 0) (ix 12))).I (a1 + 5)) ((h3.cI (t + 4) (va_cpy (h3.I (a1 + 4)) (h3.I (t + 4)) (ix 0) (ix 0) (ix 12))).I (t + 5)) (ix 0) (ix 0) (ix 12))) := lcI hL
  refine kst rfl rfl ?_
  refine whb (h := ((h3.cI (t + 4) (va_cpy (h3.I (a1 + 4)) (h3.I (t + 4)) (ix 0) (ix 0) (ix 12))).cI (t + 5) (va_cpy ((h3.cI (t + 4) (va_cpy (h3.I (a1 + 4)) (h3.I (t + 4)) (ix 0) (ix 0) (ix 12))).I (a1 + 5)) ((h3.cI (t + 4) (va_cpy (h3.I (a1 + 4)) (h3.I (t + 4)) (ix 0) (ix 0) (ix 12))).I (t + 5)) (ix 0) (ix 0) (ix 12)))) (fun h4 eh4 => ?_)
  replace hW := hW h4 eh4
  replace hL : Lay h4 := by rw [eh4]; exact hL
  clear eh4
  refine wgetP (b := (a1 + 6)) rfl (oK3 hL ha1) rfl (oP3_10 hL ha1) ?_
  iterate 2 (refine kst rfl rfl ?_)
  refine wgetP (b := (t + 6)) rfl (oK3 hL ht) rfl (oP3_10 hL ht) ?_
  iterate 2 (refine kst rfl rfl ?_)
  refine wcopyI rfl (aK3_10 hL ha1) (aK3_10 hL ht) (aN3_10 hL ha1) (aN3_10 hL ht) (by decide) (by decide) ⟨by decide, by decide, by decide, by decide, by decide⟩ (Nat.le_of_ble_eq_true rfl) ?_
  replace hL : Lay (h4.cI (t + 6) (va_cpy (h4.I (a1 + 6)) (h4.I (t + 6)) (ix 0) (ix 0) (ix 12))) := lcI hL
  refine kst rfl rfl ?_
  refine wgetP (b := (a1 + 7)) rfl (oK3 hL ha1) rfl (oP3_11 hL ha1) ?_
  iterate 2 (refine kst rfl rfl ?_)
  refine wgetP (b := (t + 7)) rfl (oK3 hL ht) rfl (oP3_11 hL ht) ?_
  iterate 2 (refine kst rfl rfl ?_)
  refine wcopyI rfl (aK3_11 hL ha1) (aK3_11 hL ht) (aN3_11 hL ha1) (aN3_11 hL ht) (by decide) (by decide) ⟨by decide, by decide, by decide, by decide, by decide⟩ (Nat.le_of_ble_eq_true rfl) ?_
  replace hL : Lay ((h4.cI (t + 6) (va_cpy (h4.I (a1 + 6)) (h4.I (t + 6)) (ix 0) (ix 0) (ix 12))).cI (t + 7) (va_cpy ((h4.cI (t + 6) (va_cpy (h4.I (a1 + 6)) (h4.I (t + 6)) (ix 0) (ix 0) (ix 12))).I (a1 + 7)) ((h4.cI (t + 6) (va_cpy (h4.I (a1 + 6)) (h4.I (t + 6)) (ix 0) (ix 0) (ix 12))).I (t + 7)) (ix 0) (ix 0) (ix 12))) := lcI hL
  refine kst rfl rfl ?_
  refine whb (h := ((h4.cI (t + 6) (va_cpy (h4.I (a1 + 6)) (h4.I (t + 6)) (ix 0) (ix 0) (ix 12))).cI (t + 7) (va_cpy ((h4.cI (t + 6) (va_cpy (h4.I (a1 + 6)) (h4.I (t + 6)) (ix 0) (ix 0) (ix 12))).I (a1 + 7)) ((h4.cI (t + 6) (va_cpy (h4.I (a1 + 6)) (h4.I (t + 6)) (ix 0) (ix 0) (ix 12))).I (t + 7)) (ix 0) (ix 0) (ix 12)))) (fun h5 eh5 => ?_)
  replace hW := hW h5 eh5
  replace hL : Lay h5 := by rw [eh5]; exact hL
  clear eh5
  refine wgetP (b := (a1 + 8)) rfl (oK3 hL ha1) rfl (oP3_12 hL ha1) ?_
  iterate 2 (refine kst rfl rfl ?_)
  refine wgetP (b := (t + 8)) rfl (oK3 hL ht) rfl (oP3_12 hL ht) ?_
  iterate 2 (refine kst rfl rfl ?_)
  refine wcopyI rfl (aK3_12 hL ha1) (aK3_12 hL ht) (aN3_12 hL ha1) (aN3_12 hL ht) (by decide) (by decide) ⟨by decide, by decide, by decide, by decide, by decide⟩ (Nat.le_of_ble_eq_true rfl) ?_
  replace hL : Lay (h5.cI (t + 8) (va_cpy (h5.I (a1 + 8)) (h5.I (t + 8)) (ix 0) (ix 0) (ix 8))) := lcI hL
  refine kst rfl rfl ?_
  refine wgetP (b := (a1 + 9)) rfl (oK3 hL ha1) rfl (oP3_13 hL ha1) ?_
  iterate 2 (refine kst rfl rfl ?_)
  refine wgetP (b := (t + 9)) rfl (oK3 hL ht) rfl (oP3_13 hL ht) ?_
  iterate 2 (refine kst rfl rfl ?_)
  refine wcopyI rfl (aK3_13 hL ha1) (aK3_13 hL ht) (aN3_13 hL ha1) (aN3_13 hL ht) (by decide) (by decide) ⟨by decide, by decide, by decide, by decide, by decide⟩ (Nat.le_of_ble_eq_true rfl) ?_
  replace hL : Lay ((h5.cI (t + 8) (va_cpy (h5.I (a1 + 8)) (h5.I (t + 8)) (ix 0) (ix 0) (ix 8))).cI (t + 9) (va_cpy ((h5.cI (t + 8) (va_cpy (h5.I (a1 + 8)) (h5.I (t + 8)) (ix 0) (ix 0) (ix 8))).I (a1 + 9)) ((h5.cI (t + 8) (va_cpy (h5.I (a1 + 8)) (h5.I (t + 8)) (ix 0) (ix 0) (ix 8))).I (t + 9)) (ix 0) (ix 0) (ix 12))) := lcI hL
  refine kst rfl rfl ?_
  refine whb (h := ((h5.cI (t + 8) (va_cpy (h5.I (a1 + 8)) (h5.I (t + 8)) (ix 0) (ix 0) (ix 8))).cI (t + 9) (va_cpy ((h5.cI (t + 8) (va_cpy (h5.I (a1 + 8)) (h5.I (t + 8)) (ix 0) (ix 0) (ix 8))).I (a1 + 9)) ((h5.cI (t + 8) (va_cpy (h5.I (a1 + 8)) (h5.I (t + 8)) (ix 0) (ix 0) (ix 8))).I (t + 9)) (ix 0) (ix 0) (ix 12)))) (fun h6 eh6 => ?_)
  replace hW := hW h6 eh6
  replace hL : Lay h6 := by rw [eh6]; exact hL
  clear eh6
  refine wgetP (b := (a1 + 10)) rfl (oK3 hL ha1) rfl (oP3_14 hL ha1) ?_
  iterate 2 (refine kst rfl rfl ?_)
  refine wgetP (b := (t + 10)) rfl (oK3 hL ht) rfl (oP3_14 hL ht) ?_
  iterate 2 (refine kst rfl rfl ?_)
  refine wcopyI rfl (aK3_14 hL ha1) (aK3_14 hL ht) (aN3_14 hL ha1) (aN3_14 hL ht) (by decide) (by decide) ⟨by decide, by decide, by decide, by decide, by decide⟩ (Nat.le_of_ble_eq_true rfl) ?_
  replace hL : Lay (h6.cI (t + 10) (va_cpy (h6.I (a1 + 10)) (h6.I (t + 10)) (ix 0) (ix 0) (ix 12))) := lcI hL
  refine kst rfl rfl ?_
  refine wgetP (b := (a1 + 11)) rfl (oK3 hL ha1) rfl (oP3_15 hL ha1) ?_
  iterate 2 (refine kst rfl rfl ?_)
  refine wgetP (b := (t + 11)) rfl (oK3 hL ht) rfl (oP3_15 hL ht) ?_
  iterate 2 (refine kst rfl rfl ?_)
  refine wcopyI rfl (aK3_15 hL ha1) (aK3_15 hL ht) (aN3_15 hL ha1) (aN3_15 hL ht) (by decide) (by decide) ⟨by decide, by decide, by decide, by decide, by decide⟩ (Nat.le_of_ble_eq_true rfl) ?_
  replace hL : Lay ((h6.cI (t + 10) (va_cpy (h6.I (a1 + 10)) (h6.I (t + 10)) (ix 0) (ix 0) (ix 12))).cI (t + 11) (va_cpy ((h6.cI (t + 10) (va_cpy (h6.I (a1 + 10)) (h6.I (t + 10)) (ix 0) (ix 0) (ix 12))).I (a1 + 11)) ((h6.cI (t + 10) (va_cpy (h6.I (a1 + 10)) (h6.I (t + 10)) (ix 0) (ix 0) (ix 12))).I (t + 11)) (ix 0) (ix 0) (ix 12))) := lcI hL
  refine kst rfl rfl ?_
  refine whb (h := ((h6.cI (t + 10) (va_cpy (h6.I (a1 + 10)) (h6.I (t + 10)) (ix 0) (ix 0) (ix 12))).cI (t + 11) (va_cpy ((h6.cI (t + 10) (va_cpy (h6.I (a1 + 10)) (h6.I (t + 10)) (ix 0) (ix 0) (ix 12))).I (a1 + 11)) ((h6.cI (t + 10) (va_cpy (h6.I (a1 + 10)) (h6.I (t + 10)) (ix 0) (ix 0) (ix 12))).I (t + 11)) (ix 0) (ix 0) (ix 12)))) (fun h7 eh7 => ?_)
  replace hW := hW h7 eh7
  replace hL : Lay h7 := by rw [eh7]; exact hL
  clear eh7
  refine wgetP (b := (t + 12)) rfl (oK3 hL ht) rfl (oP3_16 hL ht) ?_
  refine kst rfl rfl ?_
  refine wgetP (b := (a1 + 12)) rfl (oK3 hL ha1) rfl (oP3_16 hL ha1) ?_
  refine wcvV rfl (oK7 hL (is_3_16 ht)) rfl rfl (R108 (d := d + 0) (h := h7) (is_3_16 ht) (is_3_16 ha1) hL hW) (fun h8 hL hW => ?_)
  refine kre rfl rfl ?_
  exact ⟨_, rfl, hL, hW⟩
