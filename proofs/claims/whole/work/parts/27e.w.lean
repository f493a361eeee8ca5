/-! WHAT EACH METHOD NEEDS: W: the condition; R: the small machine keeps it (printed by wgen.py) -/
/-- 117: Rounds add -/
def W117 (a1 : Int32) (h : TH) (C : TH → Prop) : Prop :=
  h.P 190 4 = some (h.R 190 4) ∧ okA h (h.R 190 4) 102 a1 ∧ if ¬ (h.I (h.R 190 4) (ix a1)) = 0 then (C h) else (h.P 190 3 = some (h.R 190 3) ∧ h.K (h.R 190 3) = 100 ∧ if (h.I 190 5) < (nI (h.N (h.R 190 3))) then (h.P 190 4 = some (h.R 190 4) ∧ okA h (h.R 190 4) 102 a1 ∧ (h.sI (h.R 190 4) (ix a1) (1 &&& 1)).P 190 3 = some ((h.sI (h.R 190 4) (ix a1) (1 &&& 1)).R 190 3) ∧ okA (h.sI (h.R 190 4) (ix a1) (1 &&& 1)) ((h.sI (h.R 190 4) (ix a1) (1 &&& 1)).R 190 3) 100 ((h.sI (h.R 190 4) (ix a1) (1 &&& 1)).I 190 5) ∧ ∀ h1, h1 = ((h.sI (h.R 190 4) (ix a1) (1 &&& 1)).sI ((h.sI (h.R 190 4) (ix a1) (1 &&& 1)).R 190 3) (ix ((h.sI (h.R 190 4) (ix a1) (1 &&& 1)).I 190 5)) a1) → if ¬ (a1 &&& ((h1.sI 190 5 ((h1.I 190 5) + 1)).I 190 1)) = ((h1.sI 190 5 ((h1.I 190 5) + 1)).I 190 1) then (((((h1.sI 190 5 ((h1.I 190 5) + 1)).I 190 6) ||| 0) = 0 ∨ (((h1.sI 190 5 ((h1.I 190 5) + 1)).I 190 6) ||| 0) = 1) ∧ C ((h1.sI 190 5 ((h1.I 190 5) + 1)).sI 190 6 (((h1.sI 190 5 ((h1.I 190 5) + 1)).I 190 6) ||| 0))) else (((((h1.sI 190 5 ((h1.I 190 5) + 1)).I 190 6) ||| 1) = 0 ∨ (((h1.sI 190 5 ((h1.I 190 5) + 1)).I 190 6) ||| 1) = 1) ∧ C ((h1.sI 190 5 ((h1.I 190 5) + 1)).sI 190 6 (((h1.sI 190 5 ((h1.I 190 5) + 1)).I 190 6) ||| 1)))) else (C h))

theorem R117 {d : Nat} {a1 : Int32} {h : TH} {C : TH → Prop} (hL : Lay h) (hW : W117 a1 h C) : xPk d 117 [.ref 190, .int a1] h.X (postV C) := by
  unfold W117 at hW
  refine kin (Nat.le_of_ble_eq_true rfl) ?_
  refine kst rfl rfl ?_
  obtain ⟨q1, hW⟩ := hW
  refine wgetP rfl (oK8 hL rfl) rfl q1 ?_
  refine kst rfl rfl ?_
  obtain ⟨q2, hW⟩ := hW
  refine wbald rfl (Or.inl q2.1) rfl q2.2.2 q2.2.1 ?_
  refine wif_ne rfl hW (fun hW => ?_) (fun hW => ?_)
  · refine kre rfl rfl ?_
    exact ⟨_, rfl, hL, hW⟩
  · refine kst rfl rfl ?_
    refine wgetI rfl (oK8 hL rfl) rfl ?_
    refine kst rfl rfl ?_
    obtain ⟨q3, hW⟩ := hW
    refine wgetP rfl (oK8 hL rfl) rfl q3 ?_
    obtain ⟨q4, hW⟩ := hW
    refine walen (kd := 0) rfl q4 (by decide) rfl ?_
    refine wcm_lt rfl hW (fun hW => ?_) (fun hW => ?_)
    · refine kst rfl rfl ?_
      obtain ⟨q5, hW⟩ := hW
      refine wgetP rfl (oK8 hL rfl) rfl q5 ?_
      iterate 2 (refine kst rfl rfl ?_)
      obtain ⟨q6, hW⟩ := hW
      refine wzast rfl q6.1 rfl q6.2.2 q6.2.1 ?_
      replace hL : Lay (h.sI (h.R 190 4) (ix a1) (1 &&& 1)) := lsI hL
      refine kst rfl rfl ?_
      obtain ⟨q7, hW⟩ := hW
      refine wgetP rfl (oK8 hL rfl) rfl q7 ?_
      refine kst rfl rfl ?_
      refine wgetI rfl (oK8 hL rfl) rfl ?_
      refine kst rfl rfl ?_
      obtain ⟨q8, hW⟩ := hW
      refine wast rfl q8.1 rfl q8.2.2 q8.2.1 ?_
      replace hL : Lay ((h.sI (h.R 190 4) (ix a1) (1 &&& 1)).sI ((h.sI (h.R 190 4) (ix a1) (1 &&& 1)).R 190 3) (ix ((h.sI (h.R 190 4) (ix a1) (1 &&& 1)).I 190 5)) a1) := lsI hL
      iterate 2 (refine kst rfl rfl ?_)
      refine whb (h := ((h.sI (h.R 190 4) (ix a1) (1 &&& 1)).sI ((h.sI (h.R 190 4) (ix a1) (1 &&& 1)).R 190 3) (ix ((h.sI (h.R 190 4) (ix a1) (1 &&& 1)).I 190 5)) a1)) (fun h1 eh1 => ?_)
      replace hW := hW h1 eh1
      replace hL : Lay h1 := by rw [eh1]; exact hL
      clear eh1
      refine wgetI rfl (oK8 hL rfl) rfl ?_
      iterate 2 (refine kst rfl rfl ?_)
      refine wputI rfl (oK8 hL rfl) rfl ?_
      replace hL : Lay (h1.sI 190 5 ((h1.I 190 5) + 1)) := lsI hL
      iterate 2 (refine kst rfl rfl ?_)
      refine wgetI rfl (oK8 hL rfl) rfl ?_
      iterate 2 (refine kst rfl rfl ?_)
      refine wgetI rfl (oK8 hL rfl) rfl ?_
      iterate 2 (refine kst rfl rfl ?_)
      refine wgetI rfl (oK8 hL rfl) rfl ?_
      refine wcm_ne rfl hW (fun hW => ?_) (fun hW => ?_)
      · iterate 2 (refine kst rfl rfl ?_)
        obtain ⟨q9, hW⟩ := hW
        refine wputZ rfl (oK8 hL rfl) rfl q9 ?_
        replace hL : Lay ((h1.sI 190 5 ((h1.I 190 5) + 1)).sI 190 6 (((h1.sI 190 5 ((h1.I 190 5) + 1)).I 190 6) ||| 0)) := lsI hL
        refine kre rfl rfl ?_
        exact ⟨_, rfl, hL, hW⟩
      · iterate 3 (refine kst rfl rfl ?_)
        obtain ⟨q9, hW⟩ := hW
        refine wputZ rfl (oK8 hL rfl) rfl q9 ?_
        replace hL : Lay ((h1.sI 190 5 ((h1.I 190 5) + 1)).sI 190 6 (((h1.sI 190 5 ((h1.I 190 5) + 1)).I 190 6) ||| 1)) := lsI hL
        refine kre rfl rfl ?_
        exact ⟨_, rfl, hL, hW⟩
    · refine kre rfl rfl ?_
      exact ⟨_, rfl, hL, hW⟩
/-- 116: Rounds restart -/
def F116_35 (x1 : Int32) (C : TH → Prop) (X35 : Int32 × TH → Prop) : Int32 × TH → Prop := fun
  | (x2, h) =>
    if x1 ≤ x2 then (W117 0 ((h.sI 190 5 0).sI 190 6 0) (fun h1 => C h1)) else (h.P 190 4 = some (h.R 190 4) ∧ okA h (h.R 190 4) 102 x2 ∧ X35 ((x2 + 1), (h.sI (h.R 190 4) (ix x2) (0 &&& 1))))
def B116_35 (x1 : Int32) (x2 : Int32) (h : TH) (C : TH → Prop) : Prop := LFP (F116_35 x1 C) (x2, h)
def W116 (h : TH) (C : TH → Prop) : Prop :=
  h.P 190 0 = some (h.R 190 0) ∧ is3 (h.R 190 0) ∧ h.P 190 3 = some (h.R 190 3) ∧ h.K (h.R 190 3) = 100 ∧ if (ishl 1 (h.I (h.R 190 0) 1)) ≤ (nI (h.N (h.R 190 3))) then (B116_35 (ishl 1 (h.I (h.R 190 0) 1)) 0 h C) else (inb (ishl 1 (h.I (h.R 190 0) 1)) 60001 ∧ h.n < 1000000 ∧ ∀ h1, h1 = ((h.new 100 (ix (ishl 1 (h.I (h.R 190 0) 1))) (ix (ishl 1 (h.I (h.R 190 0) 1)))).sP 190 3 h.n) → inb (ishl 1 (h.I (h.R 190 0) 1)) 60001 ∧ h1.n < 1000000 ∧ B116_35 (ishl 1 (h.I (h.R 190 0) 1)) 0 ((h1.new 102 (ix (ishl 1 (h.I (h.R 190 0) 1))) (ix (ishl 1 (h.I (h.R 190 0) 1)))).sP 190 4 h1.n) C)

theorem R116_35 {d : Nat} {x1 : Int32} {x2 : Int32} {h : TH} {C : TH → Prop} (hL : Lay h) (hW : B116_35 x1 x2 h C) : xEk (d + 1) 116 (35, [(0, .ref 190), (1, .int x1), (2, .int x2)], [], h.X) (postV C) := by
  refine hW (fun s => Lay (s.2) → xEk (d + 1) 116 (35, [(0, .ref 190), (1, .int x1), (2, .int (s.1))], [], (TH.X (s.2))) (postV C)) ?_ hL
  rintro ⟨x2, h⟩ hW hL
  have k35 : ∀ s : Int32 × TH, (fun s => Lay (s.2) → xEk (d + 1) 116 (35, [(0, .ref 190), (1, .int x1), (2, .int (s.1))], [], (TH.X (s.2))) (postV C)) s → Lay (s.2) → xEk (d + 1) 116 (35, [(0, .ref 190), (1, .int x1), (2, .int (s.1))], [], (TH.X (s.2))) (postV C) := fun s hs => hs
  unfold F116_35 at hW
  dsimp only at hW
  iterate 2 (refine kst rfl rfl ?_)
  refine wcm_ge rfl hW (fun hW => ?_) (fun hW => ?_)
  · iterate 2 (refine kst rfl rfl ?_)
    refine wputI rfl (oK8 hL rfl) rfl ?_
    replace hL : Lay (h.sI 190 5 0) := lsI hL
    iterate 2 (refine kst rfl rfl ?_)
    refine wputZ rfl (oK8 hL rfl) rfl (by decide) ?_
    replace hL : Lay ((h.sI 190 5 0).sI 190 6 0) := lsI hL
    iterate 2 (refine kst rfl rfl ?_)
    refine wcvV rfl (oK8 hL rfl) rfl rfl (R117 (d := d + 0) (h := ((h.sI 190 5 0).sI 190 6 0)) hL hW) (fun h1 hL hW => ?_)
    refine kre rfl rfl ?_
    exact ⟨_, rfl, hL, hW⟩
  · refine kst rfl rfl ?_
    obtain ⟨q5, hW⟩ := hW
    refine wgetP rfl (oK8 hL rfl) rfl q5 ?_
    iterate 2 (refine kst rfl rfl ?_)
    obtain ⟨q6, hW⟩ := hW
    refine wzast rfl q6.1 rfl q6.2.2 q6.2.1 ?_
    replace hL : Lay (h.sI (h.R 190 4) (ix x2) (0 &&& 1)) := lsI hL
    iterate 2 (refine kst rfl rfl ?_)
    have z9 := k35 ((x2 + 1), (h.sI (h.R 190 4) (ix x2) (0 &&& 1))) hW hL
    refine wjp ?_ z9
    exact ⟨rfl, rfl, rfl, trivial⟩
theorem R116 {d : Nat} {h : TH} {C : TH → Prop} (hL : Lay h) (hW : W116  h C) : xPk (d + 1) 116 [.ref 190] h.X (postV C) := by
  unfold W116 at hW
  refine kin (Nat.le_of_ble_eq_true rfl) ?_
  iterate 2 (refine kst rfl rfl ?_)
  obtain ⟨q1, hW⟩ := hW
  obtain ⟨q2, hW⟩ := hW
  refine wgetP rfl (oK8 hL rfl) rfl q1 ?_
  refine wgetI rfl (oK3 hL q2) rfl ?_
  iterate 3 (refine kst rfl rfl ?_)
  obtain ⟨q3, hW⟩ := hW
  refine wgetP rfl (oK8 hL rfl) rfl q3 ?_
  obtain ⟨q4, hW⟩ := hW
  refine walen (kd := 0) rfl q4 (by decide) rfl ?_
  refine kst rfl rfl ?_
  refine wcm_ge rfl hW (fun hW => ?_) (fun hW => ?_)
  · iterate 2 (refine kst rfl rfl ?_)
    refine wjp ?_ (R116_35 (h := h) hL hW)
    exact ⟨rfl, rfl, rfl, trivial⟩
  · iterate 2 (refine kst rfl rfl ?_)
    obtain ⟨q5, hW⟩ := hW
    obtain ⟨q6, hW⟩ := hW
    refine wnewA rfl (by decide) q5 ?_
    replace hL := lnew hL (k := 100) (l := (ix (ishl 1 (h.I (h.R 190 0) 1)))) (m := (ix (ishl 1 (h.I (h.R 190 0) 1)))) q6
    refine wputP rfl (oK8 hL rfl) rfl ?_
    replace hL := ls8_3 hL rfl (b := h.n)
    iterate 2 (refine kst rfl rfl ?_)
    refine whb (h := ((h.new 100 (ix (ishl 1 (h.I (h.R 190 0) 1))) (ix (ishl 1 (h.I (h.R 190 0) 1)))).sP 190 3 h.n)) (fun h1 eh1 => ?_)
    replace hW := hW h1 eh1
    replace hL : Lay h1 := by rw [eh1]; exact hL
    clear eh1
    obtain ⟨q7, hW⟩ := hW
    obtain ⟨q8, hW⟩ := hW
    refine wnewA rfl (by decide) q7 ?_
    replace hL := lnew hL (k := 102) (l := (ix (ishl 1 (h.I (h.R 190 0) 1)))) (m := (ix (ishl 1 (h.I (h.R 190 0) 1)))) q8
    refine wputP rfl (oK8 hL rfl) rfl ?_
    replace hL := ls8_4 hL rfl (b := h1.n)
    iterate 2 (refine kst rfl rfl ?_)
    refine wjp ?_ (R116_35 (h := ((h1.new 102 (ix (ishl 1 (h.I (h.R 190 0) 1))) (ix (ishl 1 (h.I (h.R 190 0) 1)))).sP 190 4 h1.n)) hL hW)
    exact ⟨rfl, rfl, rfl, trivial⟩
/-- 118: Rounds washFrom -/
def F118_21 (x2 : Int32) (C : TH → Prop) (X2 : Int32 × TH → Prop) (X21 : Int32 × TH → Prop) : Int32 × TH → Prop := fun
  | (x3, h) =>
    h.P 190 0 = some (h.R 190 0) ∧ is3 (h.R 190 0) ∧ if (h.I (h.R 190 0) 1) ≤ x3 then (X2 ((x2 + 1), h)) else (h.P 190 3 = some (h.R 190 3) ∧ okA h (h.R 190 3) 100 x2 ∧ if ((h.I (h.R 190 3) (ix x2)) &&& (ishl 1 x3)) = 0 then (X21 ((x3 + 1), h)) else (h.P 190 3 = some (h.R 190 3) ∧ okA h (h.R 190 3) 100 x2 ∧ W117 ((h.I (h.R 190 3) (ix x2)) &&& ((ishl 1 x3) ^^^ (-1))) h (fun h1 => X21 ((x3 + 1), h1))))
def B118_21 (x2 : Int32) (x3 : Int32) (h : TH) (C : TH → Prop) (X2 : Int32 × TH → Prop) : Prop := LFP (F118_21 x2 C X2) (x3, h)
def F118_2 (C : TH → Prop) (X2 : Int32 × TH → Prop) : Int32 × TH → Prop := fun
  | (x2, h) =>
    h.P 190 3 = some (h.R 190 3) ∧ h.K (h.R 190 3) = 100 ∧ if (nI (h.N (h.R 190 3))) ≤ x2 then (C h) else (if (h.I 190 5) ≤ x2 then (C h) else (B118_21 x2 0 h C X2))
def B118_2 (x2 : Int32) (h : TH) (C : TH → Prop) : Prop := LFP (F118_2 C) (x2, h)
def W118 (a1 : Int32) (h : TH) (C : TH → Prop) : Prop :=
  B118_2 a1 h C

theorem R118_21 {d : Nat} {x2 : Int32} {x3 : Int32} {h : TH} {C : TH → Prop} {X2 : Int32 × TH → Prop} (k2 : ∀ s : Int32 × TH, X2 s → Lay (s.2) → xEk (d + 1) 118 (2, [(0, .ref 190), (2, .int (s.1))], [], (TH.X (s.2))) (postV C)) (hL : Lay h) (hW : B118_21 x2 x3 h C X2) : xEk (d + 1) 118 (21, [(0, .ref 190), (2, .int x2), (3, .int x3)], [], h.X) (postV C) := by
  refine hW (fun s => Lay (s.2) → xEk (d + 1) 118 (21, [(0, .ref 190), (2, .int x2), (3, .int (s.1))], [], (TH.X (s.2))) (postV C)) ?_ hL
  rintro ⟨x3, h⟩ hW hL
  have k21 : ∀ s : Int32 × TH, (fun s => Lay (s.2) → xEk (d + 1) 118 (21, [(0, .ref 190), (2, .int x2), (3, .int (s.1))], [], (TH.X (s.2))) (postV C)) s → Lay (s.2) → xEk (d + 1) 118 (21, [(0, .ref 190), (2, .int x2), (3, .int (s.1))], [], (TH.X (s.2))) (postV C) := fun s hs => hs
  unfold F118_21 at hW
  dsimp only at hW
  iterate 2 (refine kst rfl rfl ?_)
  obtain ⟨q3, hW⟩ := hW
  obtain ⟨q4, hW⟩ := hW
  refine wgetP rfl (oK8 hL rfl) rfl q3 ?_
  refine wgetI rfl (oK3 hL q4) rfl ?_
  refine wcm_ge rfl hW (fun hW => ?_) (fun hW => ?_)
  · iterate 2 (refine kst rfl rfl ?_)
    have z9 := k2 ((x2 + 1), h) hW hL
    refine wjp ?_ z9
    exact ⟨rfl, rfl, trivial⟩
  · refine kst rfl rfl ?_
    obtain ⟨q5, hW⟩ := hW
    refine wgetP rfl (oK8 hL rfl) rfl q5 ?_
    refine kst rfl rfl ?_
    obtain ⟨q6, hW⟩ := hW
    refine wald rfl (Or.inl q6.1) rfl q6.2.2 q6.2.1 ?_
    iterate 4 (refine kst rfl rfl ?_)
    refine wif_eq rfl hW (fun hW => ?_) (fun hW => ?_)
    · iterate 2 (refine kst rfl rfl ?_)
      have z9 := k21 ((x3 + 1), h) hW hL
      refine wjp ?_ z9
      exact ⟨rfl, rfl, rfl, trivial⟩
    · iterate 2 (refine kst rfl rfl ?_)
      obtain ⟨q7, hW⟩ := hW
      refine wgetP rfl (oK8 hL rfl) rfl q7 ?_
      refine kst rfl rfl ?_
      obtain ⟨q8, hW⟩ := hW
      refine wald rfl (Or.inl q8.1) rfl q8.2.2 q8.2.1 ?_
      iterate 6 (refine kst rfl rfl ?_)
      refine wcvV rfl (oK8 hL rfl) rfl rfl (R117 (d := d + 0) (h := h) hL hW) (fun h1 hL hW => ?_)
      iterate 2 (refine kst rfl rfl ?_)
      have z9 := k21 ((x3 + 1), h1) hW hL
      refine wjp ?_ z9
      exact ⟨rfl, rfl, rfl, trivial⟩
theorem R118_2 {d : Nat} {x2 : Int32} {h : TH} {C : TH → Prop} (hL : Lay h) (hW : B118_2 x2 h C) : xEk (d + 1) 118 (2, [(0, .ref 190), (2, .int x2)], [], h.X) (postV C) := by
  refine hW (fun s => Lay (s.2) → xEk (d + 1) 118 (2, [(0, .ref 190), (2, .int (s.1))], [], (TH.X (s.2))) (postV C)) ?_ hL
  rintro ⟨x2, h⟩ hW hL
  have k2 : ∀ s : Int32 × TH, (fun s => Lay (s.2) → xEk (d + 1) 118 (2, [(0, .ref 190), (2, .int (s.1))], [], (TH.X (s.2))) (postV C)) s → Lay (s.2) → xEk (d + 1) 118 (2, [(0, .ref 190), (2, .int (s.1))], [], (TH.X (s.2))) (postV C) := fun s hs => hs
  unfold F118_2 at hW
  dsimp only at hW
  iterate 2 (refine kst rfl rfl ?_)
  obtain ⟨q1, hW⟩ := hW
  refine wgetP rfl (oK8 hL rfl) rfl q1 ?_
  obtain ⟨q2, hW⟩ := hW
  refine walen (kd := 0) rfl q2 (by decide) rfl ?_
  refine wcm_ge rfl hW (fun hW => ?_) (fun hW => ?_)
  · refine kre rfl rfl ?_
    exact ⟨_, rfl, hL, hW⟩
  · iterate 2 (refine kst rfl rfl ?_)
    refine wgetI rfl (oK8 hL rfl) rfl ?_
    refine wcm_ge rfl hW (fun hW => ?_) (fun hW => ?_)
    · refine kre rfl rfl ?_
      exact ⟨_, rfl, hL, hW⟩
    · iterate 2 (refine kst rfl rfl ?_)
      refine wjp ?_ (R118_21 (h := h) k2 hL hW)
      exact ⟨rfl, rfl, rfl, trivial⟩
theorem R118 {d : Nat} {a1 : Int32} {h : TH} {C : TH → Prop} (hL : Lay h) (hW : W118 a1 h C) : xPk (d + 1) 118 [.ref 190, .int a1] h.X (postV C) := by
  unfold W118 at hW
  refine kin (Nat.le_of_ble_eq_true rfl) ?_
  iterate 2 (refine kst rfl rfl ?_)
  refine wjp ?_ (R118_2 (h := h) hL hW)
  exact ⟨rfl, rfl, trivial⟩
/-- 119: Rounds readyAt -/
def F119_4 (a1 : Int32) (h : TH) (C : Int32 → Prop) (X4 : Int32 × Int32 → Prop) : Int32 × Int32 → Prop := fun
  | (x2, x3) =>
    h.P 190 0 = some (h.R 190 0) ∧ is3 (h.R 190 0) ∧ if (h.I (h.R 190 0) 1) ≤ x3 then (C x2) else (if (((h.I 190 2) &&& (a1 ^^^ (-1))) &&& (ishl 1 x3)) = 0 then (X4 (x2, (x3 + 1))) else (h.P 190 0 = some (h.R 190 0) ∧ is3 (h.R 190 0) ∧ inb x3 12 ∧ if ¬ ((h.I ((h.R 190 0) + 6) (ix x3)) &&& (a1 ^^^ (-1))) = 0 then (X4 (x2, (x3 + 1))) else (X4 ((x2 ||| (ishl 1 x3)), (x3 + 1)))))
def B119_4 (a1 : Int32) (x2 : Int32) (x3 : Int32) (h : TH) (C : Int32 → Prop) : Prop := LFP (F119_4 a1 h C) (x2, x3)
def W119 (a1 : Int32) (h : TH) (C : Int32 → Prop) : Prop :=
  B119_4 a1 0 0 h C

theorem R119_4 {d : Nat} {a1 : Int32} {x2 : Int32} {x3 : Int32} {h : TH} {C : Int32 → Prop} (hL : Lay h) (hW : B119_4 a1 x2 x3 h C) : xEk d 119 (4, [(0, .ref 190), (1, .int a1), (2, .int x2), (3, .int x3)], [], h.X) (qostI h C) := by
  refine hW (fun s => xEk d 119 (4, [(0, .ref 190), (1, .int a1), (2, .int (s.1)), (3, .int (s.2))], [], (TH.X (h))) (qostI h C)) ?_
  rintro ⟨x2, x3⟩ hW 
  have k4 : ∀ s : Int32 × Int32, (fun s => xEk d 119 (4, [(0, .ref 190), (1, .int a1), (2, .int (s.1)), (3, .int (s.2))], [], (TH.X (h))) (qostI h C)) s → xEk d 119 (4, [(0, .ref 190), (1, .int a1), (2, .int (s.1)), (3, .int (s.2))], [], (TH.X (h))) (qostI h C) := fun s hs => hs
  unfold F119_4 at hW
  dsimp only at hW
  iterate 2 (refine kst rfl rfl ?_)
  obtain ⟨q1, hW⟩ := hW
  obtain ⟨q2, hW⟩ := hW
  refine wgetP rfl (oK8 hL rfl) rfl q1 ?_
  refine wgetI rfl (oK3 hL q2) rfl ?_
  refine wcm_ge rfl hW (fun hW => ?_) (fun hW => ?_)
  · refine kst rfl rfl ?_
    refine kre rfl rfl ?_
    exact ⟨_, rfl, hW⟩
  · refine kst rfl rfl ?_
    refine wgetI rfl (oK8 hL rfl) rfl ?_
    iterate 8 (refine kst rfl rfl ?_)
    refine wif_eq rfl hW (fun hW => ?_) (fun hW => ?_)
    · iterate 2 (refine kst rfl rfl ?_)
      have z9 := k4 (x2, (x3 + 1)) hW
      refine wjp ?_ z9
      exact ⟨rfl, rfl, rfl, rfl, trivial⟩
    · refine kst rfl rfl ?_
      obtain ⟨q3, hW⟩ := hW
      obtain ⟨q4, hW⟩ := hW
      refine wgetP rfl (oK8 hL rfl) rfl q3 ?_
      refine wgetP (b := ((h.R 190 0) + 6)) rfl (oK3 hL q4) rfl (oP3_10 hL q4) ?_
      refine kst rfl rfl ?_
      obtain ⟨q5, hW⟩ := hW
      refine wald rfl (Or.inl (aK3_10 hL q4)) (aN3_10 hL q4) (by decide) q5 ?_
      iterate 4 (refine kst rfl rfl ?_)
      refine wif_ne rfl hW (fun hW => ?_) (fun hW => ?_)
      · iterate 2 (refine kst rfl rfl ?_)
        have z9 := k4 (x2, (x3 + 1)) hW
        refine wjp ?_ z9
        exact ⟨rfl, rfl, rfl, rfl, trivial⟩
      · iterate 8 (refine kst rfl rfl ?_)
        have z9 := k4 ((x2 ||| (ishl 1 x3)), (x3 + 1)) hW
        refine wjp ?_ z9
        exact ⟨rfl, rfl, rfl, rfl, trivial⟩
theorem R119 {d : Nat} {a1 : Int32} {h : TH} {C : Int32 → Prop} (hL : Lay h) (hW : W119 a1 h C) : xPk d 119 [.ref 190, .int a1] h.X (qostI h C) := by
  unfold W119 at hW
  refine kin (Nat.le_of_ble_eq_true rfl) ?_
  iterate 4 (refine kst rfl rfl ?_)
  refine wjp ?_ (R119_4 (h := h) hL hW)
  exact ⟨rfl, rfl, rfl, rfl, trivial⟩
/-- 120: Rounds cookMore -/
def F120_6 (Wr : Int32 → Int32 → Int32 → Int32 → Int32 → TH → (TH → Prop) → Prop) (a1 : Int32) (a3 : Int32) (a4 : Int32) (a5 : Int32) (C : TH → Prop) (X6 : Int32 × Int32 × TH → Prop) : Int32 × Int32 × TH → Prop := fun
  | (x6, x7, h) =>
    h.P 190 0 = some (h.R 190 0) ∧ is3 (h.R 190 0) ∧ if (h.I (h.R 190 0) 1) ≤ x7 then (C h) else (if x6 = 0 then (C h) else (if ¬ (h.I 190 6) = 0 then (C h) else (if ¬ (x6 &&& (ishl 1 x7)) = 0 then (h.P 190 0 = some (h.R 190 0) ∧ is3 (h.R 190 0) ∧ W112 ((h.R 190 0) + 12) ((a1 ||| a3) ||| (ishl 1 x7)) h (fun v1 => if v1 = 0 then (X6 ((x6 &&& ((ishl 1 x7) ^^^ (-1))), (x7 + 1), h)) else (h.P 190 0 = some (h.R 190 0) ∧ is3 (h.R 190 0) ∧ W63 (h.R 190 0) x7 h (fun v2 => W117 (((a1 ||| a3) ||| (ishl 1 x7)) &&& ((a4 ||| v2) ^^^ (-1))) h (fun h3 => if a5 ≤ 1 then (X6 ((x6 &&& ((ishl 1 x7) ^^^ (-1))), (x7 + 1), h3)) else (Wr a1 (x6 &&& ((ishl 1 x7) ^^^ (-1))) (a3 ||| (ishl 1 x7)) (a4 ||| v2) (a5 - 1) h3 (fun h4 => X6 ((x6 &&& ((ishl 1 x7) ^^^ (-1))), (x7 + 1), h4)))))))) else (X6 (x6, (x7 + 1), h)))))
def B120_6 (Wr : Int32 → Int32 → Int32 → Int32 → Int32 → TH → (TH → Prop) → Prop) (a1 : Int32) (a3 : Int32) (a4 : Int32) (a5 : Int32) (x6 : Int32) (x7 : Int32) (h : TH) (C : TH → Prop) : Prop := LFP (F120_6 Wr a1 a3 a4 a5 C) (x6, x7, h)
def W120 : Nat → Int32 → Int32 → Int32 → Int32 → Int32 → TH → (TH → Prop) → Prop
  | 0 => fun _ _ _ _ _ _ _ => False
  | k + 1 => fun a1 a2 a3 a4 a5 h C => (fun Wr => B120_6 Wr a1 a3 a4 a5 a2 0 h C) (W120 k)

theorem R120_6 {d : Nat} {Wr : Int32 → Int32 → Int32 → Int32 → Int32 → TH → (TH → Prop) → Prop} (hr : ∀ a1 a2 a3 a4 a5 (h : TH) (C : TH → Prop), Lay h → Wr a1 a2 a3 a4 a5 h C → xPk (d + 1) 120 [.ref 190, .int a1, .int a2, .int a3, .int a4, .int a5] h.X (postV C)) {a1 : Int32} {a3 : Int32} {a4 : Int32} {a5 : Int32} {x6 : Int32} {x7 : Int32} {h : TH} {C : TH → Prop} (hL : Lay h) (hW : B120_6 Wr a1 a3 a4 a5 x6 x7 h C) : xEk (d + 2) 120 (6, [(0, .ref 190), (1, .int a1), (3, .int a3), (4, .int a4), (5, .int a5), (6, .int x6), (7, .int x7)], [], h.X) (postV C) := by
  refine hW (fun s => Lay (s.2.2) → xEk (d + 2) 120 (6, [(0, .ref 190), (1, .int a1), (3, .int a3), (4, .int a4), (5, .int a5), (6, .int (s.1)), (7, .int (s.2.1))], [], (TH.X (s.2.2))) (postV C)) ?_ hL
  rintro ⟨x6, x7, h⟩ hW hL
  have k6 : ∀ s : Int32 × Int32 × TH, (fun s => Lay (s.2.2) → xEk (d + 2) 120 (6, [(0, .ref 190), (1, .int a1), (3, .int a3), (4, .int a4), (5, .int a5), (6, .int (s.1)), (7, .int (s.2.1))], [], (TH.X (s.2.2))) (postV C)) s → Lay (s.2.2) → xEk (d + 2) 120 (6, [(0, .ref 190), (1, .int a1), (3, .int a3), (4, .int a4), (5, .int a5), (6, .int (s.1)), (7, .int (s.2.1))], [], (TH.X (s.2.2))) (postV C) := fun s hs => hs
  unfold F120_6 at hW
  dsimp only at hW
  iterate 2 (refine kst rfl rfl ?_)
  obtain ⟨q1, hW⟩ := hW
  obtain ⟨q2, hW⟩ := hW
  refine wgetP rfl (oK8 hL rfl) rfl q1 ?_
  refine wgetI rfl (oK3 hL q2) rfl ?_
  refine wcm_ge rfl hW (fun hW => ?_) (fun hW => ?_)
  · refine kre rfl rfl ?_
    exact ⟨_, rfl, hL, hW⟩
  · refine kst rfl rfl ?_
    refine wif_eq rfl hW (fun hW => ?_) (fun hW => ?_)
    · refine kre rfl rfl ?_
      exact ⟨_, rfl, hL, hW⟩
    · refine kst rfl rfl ?_
      refine wgetI rfl (oK8 hL rfl) rfl ?_
      refine wif_ne rfl hW (fun hW => ?_) (fun hW => ?_)
      · refine kre rfl rfl ?_
        exact ⟨_, rfl, hL, hW⟩
      · iterate 7 (refine kst rfl rfl ?_)
        refine wif_ne rfl hW (fun hW => ?_) (fun hW => ?_)
        · iterate 7 (refine kst rfl rfl ?_)
          obtain ⟨q3, hW⟩ := hW
          obtain ⟨q4, hW⟩ := hW
          refine wgetP rfl (oK8 hL rfl) rfl q3 ?_
          refine wgetP (b := ((h.R 190 0) + 12)) rfl (oK3 hL q4) rfl (oP3_16 hL q4) ?_
          iterate 5 (refine kst rfl rfl ?_)
          refine qcvI rfl (oK7 hL (is_3_16 q4)) rfl rfl (R112 (d := d + 0) (h := h) (is_3_16 q4) hL hW) (fun v1 hW => ?_)
          refine wif_eq rfl hW (fun hW => ?_) (fun hW => ?_)
          · iterate 2 (refine kst rfl rfl ?_)
            have z9 := k6 ((x6 &&& ((ishl 1 x7) ^^^ (-1))), (x7 + 1), h) hW hL
            refine wjp ?_ z9
            exact ⟨rfl, rfl, rfl, rfl, rfl, rfl, rfl, trivial⟩
          · iterate 2 (refine kst rfl rfl ?_)
            obtain ⟨q5, hW⟩ := hW
            obtain ⟨q6, hW⟩ := hW
            refine wgetP rfl (oK8 hL rfl) rfl q5 ?_
            refine kst rfl rfl ?_
            refine qcvI rfl (oK3 hL q6) rfl rfl (R63 (d := d + 1) (h := h) q6 hL hW) (fun v2 hW => ?_)
            iterate 12 (refine kst rfl rfl ?_)
            refine wcvV rfl (oK8 hL rfl) rfl rfl (R117 (d := d + 1) (h := h) hL hW) (fun h3 hL hW => ?_)
            iterate 2 (refine kst rfl rfl ?_)
            refine wcm_le rfl hW (fun hW => ?_) (fun hW => ?_)
            · iterate 2 (refine kst rfl rfl ?_)
              have z9 := k6 ((x6 &&& ((ishl 1 x7) ^^^ (-1))), (x7 + 1), h3) hW hL
              refine wjp ?_ z9
              exact ⟨rfl, rfl, rfl, rfl, rfl, rfl, rfl, trivial⟩
            · iterate 10 (refine kst rfl rfl ?_)
              refine wcvV rfl (oK8 hL rfl) rfl rfl (hr _ _ _ _ _ _ _ hL hW) (fun h4 hL hW => ?_)
              iterate 2 (refine kst rfl rfl ?_)
              have z9 := k6 ((x6 &&& ((ishl 1 x7) ^^^ (-1))), (x7 + 1), h4) hW hL
              refine wjp ?_ z9
              exact ⟨rfl, rfl, rfl, rfl, rfl, rfl, rfl, trivial⟩
        · iterate 3 (refine kst rfl rfl ?_)
          have z9 := k6 (x6, (x7 + 1), h) hW hL
          refine wjp ?_ z9
          exact ⟨rfl, rfl, rfl, rfl, rfl, rfl, rfl, trivial⟩
theorem R120 {d : Nat} : ∀ (k : Nat) {a1 a2 a3 a4 a5 : Int32} {h : TH} {C : TH → Prop} (hL : Lay h) (hW : W120 k a1 a2 a3 a4 a5 h C), xPk (d + 1 + k) 120 [.ref 190, .int a1, .int a2, .int a3, .int a4, .int a5] h.X (postV C) := by
  intro k
  induction k with
  | zero => intro a1 a2 a3 a4 a5 h C hL hW; exact hW.elim
  | succ k ih =>
    intro a1 a2 a3 a4 a5 h C hL hW
    unfold W120 at hW
    have hr : ∀ a1 a2 a3 a4 a5 (h : TH) (C : TH → Prop), Lay h → W120 k a1 a2 a3 a4 a5 h C → xPk (d + k + 1) 120 [.ref 190, .int a1, .int a2, .int a3, .int a4, .int a5] h.X (postV C) := by
      intro a1 a2 a3 a4 a5 h C hL hW
      have := ih hL hW
      rwa [show d + 1 + k = d + k + 1 from by omega] at this
    rw [show d + 1 + (k + 1) = (d + k) + 2 from by omega]
    refine kin (Nat.le_of_ble_eq_true rfl) ?_
    iterate 4 (refine kst rfl rfl ?_)
    refine wjp ?_ (R120_6 (h := h) hr hL hW)
    exact ⟨rfl, rfl, rfl, rfl, rfl, rfl, rfl, trivial⟩
/-- 114: Rounds countRounds -/
def B114_126 (a3 : Int32) (x5 : Int32) (x6 : Int32) (h : TH) (C : Int32 → TH → Prop) (X38 : Int32 × Int32 × TH → Prop) : Prop :=
  X38 (x6, (x5 + 1), h)
def F114_81 (a3 : Int32) (x5 : Int32) (x6 : Int32) (C : Int32 → TH → Prop) (X38 : Int32 × Int32 × TH → Prop) (X81 : Int32 × TH → Prop) : Int32 × TH → Prop := fun
  | (x7, h) =>
    if x6 ≤ x7 then (B114_126 a3 x5 x6 h C X38) else (if ¬ (h.I 190 6) = 0 then (B114_126 a3 x5 x6 h C X38) else (h.P 190 3 = some (h.R 190 3) ∧ okA h (h.R 190 3) 100 x7 ∧ h.P 190 3 = some (h.R 190 3) ∧ okA h (h.R 190 3) 100 x7 ∧ W119 (h.I (h.R 190 3) (ix x7)) h (fun v5 => W120 5 (h.I (h.R 190 3) (ix x7)) v5 0 0 a3 h (fun h6 => X81 ((x7 + 1), h6)))))
def B114_81 (a3 : Int32) (x5 : Int32) (x6 : Int32) (x7 : Int32) (h : TH) (C : Int32 → TH → Prop) (X38 : Int32 × Int32 × TH → Prop) : Prop := LFP (F114_81 a3 x5 x6 C X38) (x7, h)
def F114_38 (a3 : Int32) (C : Int32 → TH → Prop) (X38 : Int32 × Int32 × TH → Prop) : Int32 × Int32 × TH → Prop := fun
  | (x4, x5, h) =>
    if 4096 < x5 then (C (-1) h) else (if (h.I 190 6) = 0 then (W118 x4 h (fun h4 => if ¬ x4 = (h4.I 190 5) then (B114_81 a3 x5 (h4.I 190 5) x4 h4 C X38) else (C (-1) h4))) else (C x5 h))
def B114_38 (a3 : Int32) (x4 : Int32) (x5 : Int32) (h : TH) (C : Int32 → TH → Prop) : Prop := LFP (F114_38 a3 C) (x4, x5, h)
def W114 (a1 : Nat) (a2 : Int32) (a3 : Int32) (h : TH) (C : Int32 → TH → Prop) : Prop :=
  W67 a1 a2 ((h.sP 190 0 a1).sI 190 1 a2) (fun v1 => W115  (((h.sP 190 0 a1).sI 190 1 a2).sI 190 2 v1) (fun v2 => if ¬ v2 = 0 then (W116  (((h.sP 190 0 a1).sI 190 1 a2).sI 190 2 v1) (fun h3 => B114_38 a3 0 0 h3 C)) else (C (-1) (((h.sP 190 0 a1).sI 190 1 a2).sI 190 2 v1))))

theorem R114_126 {d : Nat} {a3 : Int32} {x5 : Int32} {x6 : Int32} {h : TH} {C : Int32 → TH → Prop} {X38 : Int32 × Int32 × TH → Prop} (k38 : ∀ s : Int32 × Int32 × TH, X38 s → Lay (s.2.2) → xEk (d + 7) 114 (38, [(0, .ref 190), (3, .int a3), (4, .int (s.1)), (5, .int (s.2.1))], [], (TH.X (s.2.2))) (postI C)) (hL : Lay h) (hW : B114_126 a3 x5 x6 h C X38) : xEk (d + 7) 114 (126, [(0, .ref 190), (3, .int a3), (5, .int x5), (6, .int x6)], [], h.X) (postI C) := by
  unfold B114_126 at hW
  iterate 4 (refine kst rfl rfl ?_)
  have z9 := k38 (x6, (x5 + 1), h) hW hL
  refine wjp ?_ z9
  exact ⟨rfl, rfl, rfl, rfl, trivial⟩
theorem R114_81 {d : Nat} {a3 : Int32} {x5 : Int32} {x6 : Int32} {x7 : Int32} {h : TH} {C : Int32 → TH → Prop} {X38 : Int32 × Int32 × TH → Prop} (k38 : ∀ s : Int32 × Int32 × TH, X38 s → Lay (s.2.2) → xEk (d + 7) 114 (38, [(0, .ref 190), (3, .int a3), (4, .int (s.1)), (5, .int (s.2.1))], [], (TH.X (s.2.2))) (postI C)) (hL : Lay h) (hW : B114_81 a3 x5 x6 x7 h C X38) : xEk (d + 7) 114 (81, [(0, .ref 190), (3, .int a3), (5, .int x5), (6, .int x6), (7, .int x7)], [], h.X) (postI C) := by
  refine hW (fun s => Lay (s.2) → xEk (d + 7) 114 (81, [(0, .ref 190), (3, .int a3), (5, .int x5), (6, .int x6), (7, .int (s.1))], [], (TH.X (s.2))) (postI C)) ?_ hL
  rintro ⟨x7, h⟩ hW hL
  have k81 : ∀ s : Int32 × TH, (fun s => Lay (s.2) → xEk (d + 7) 114 (81, [(0, .ref 190), (3, .int a3), (5, .int x5), (6, .int x6), (7, .int (s.1))], [], (TH.X (s.2))) (postI C)) s → Lay (s.2) → xEk (d + 7) 114 (81, [(0, .ref 190), (3, .int a3), (5, .int x5), (6, .int x6), (7, .int (s.1))], [], (TH.X (s.2))) (postI C) := fun s hs => hs
  unfold F114_81 at hW
  dsimp only at hW
  iterate 2 (refine kst rfl rfl ?_)
  refine wcm_ge rfl hW (fun hW => ?_) (fun hW => ?_)
  · refine wjp ?_ (R114_126 (h := h) k38 hL hW)
    exact ⟨rfl, rfl, rfl, rfl, trivial⟩
  · refine kst rfl rfl ?_
    refine wgetI rfl (oK8 hL rfl) rfl ?_
    refine wif_ne rfl hW (fun hW => ?_) (fun hW => ?_)
    · refine wjp ?_ (R114_126 (h := h) k38 hL hW)
      exact ⟨rfl, rfl, rfl, rfl, trivial⟩
    · iterate 2 (refine kst rfl rfl ?_)
      obtain ⟨q1, hW⟩ := hW
      refine wgetP rfl (oK8 hL rfl) rfl q1 ?_
      refine kst rfl rfl ?_
      obtain ⟨q2, hW⟩ := hW
      refine wald rfl (Or.inl q2.1) rfl q2.2.2 q2.2.1 ?_
      iterate 2 (refine kst rfl rfl ?_)
      obtain ⟨q3, hW⟩ := hW
      refine wgetP rfl (oK8 hL rfl) rfl q3 ?_
      refine kst rfl rfl ?_
      obtain ⟨q4, hW⟩ := hW
      refine wald rfl (Or.inl q4.1) rfl q4.2.2 q4.2.1 ?_
      refine qcvI rfl (oK8 hL rfl) rfl rfl (R119 (d := d + 6) (h := h) hL hW) (fun v5 hW => ?_)
      iterate 3 (refine kst rfl rfl ?_)
      refine wcvV rfl (oK8 hL rfl) rfl rfl (R120 (d := d + 0) (h := h) 5 hL hW) (fun h6 hL hW => ?_)
      iterate 2 (refine kst rfl rfl ?_)
      have z9 := k81 ((x7 + 1), h6) hW hL
      refine wjp ?_ z9
      exact ⟨rfl, rfl, rfl, rfl, rfl, trivial⟩
theorem R114_38 {d : Nat} {a3 : Int32} {x4 : Int32} {x5 : Int32} {h : TH} {C : Int32 → TH → Prop} (hL : Lay h) (hW : B114_38 a3 x4 x5 h C) : xEk (d + 7) 114 (38, [(0, .ref 190), (3, .int a3), (4, .int x4), (5, .int x5)], [], h.X) (postI C) := by
  refine hW (fun s => Lay (s.2.2) → xEk (d + 7) 114 (38, [(0, .ref 190), (3, .int a3), (4, .int (s.1)), (5, .int (s.2.1))], [], (TH.X (s.2.2))) (postI C)) ?_ hL
  rintro ⟨x4, x5, h⟩ hW hL
  have k38 : ∀ s : Int32 × Int32 × TH, (fun s => Lay (s.2.2) → xEk (d + 7) 114 (38, [(0, .ref 190), (3, .int a3), (4, .int (s.1)), (5, .int (s.2.1))], [], (TH.X (s.2.2))) (postI C)) s → Lay (s.2.2) → xEk (d + 7) 114 (38, [(0, .ref 190), (3, .int a3), (4, .int (s.1)), (5, .int (s.2.1))], [], (TH.X (s.2.2))) (postI C) := fun s hs => hs
  unfold F114_38 at hW
  dsimp only at hW
  iterate 2 (refine kst rfl rfl ?_)
  refine wcm_gt rfl hW (fun hW => ?_) (fun hW => ?_)
  · refine kst rfl rfl ?_
    refine kre rfl rfl ?_
    exact ⟨_, _, rfl, hL, hW⟩
  · refine kst rfl rfl ?_
    refine wgetI rfl (oK8 hL rfl) rfl ?_
    refine wif_eq rfl hW (fun hW => ?_) (fun hW => ?_)
    · iterate 2 (refine kst rfl rfl ?_)
      refine wcvV rfl (oK8 hL rfl) rfl rfl (R118 (d := d + 5) (h := h) hL hW) (fun h4 hL hW => ?_)
      refine kst rfl rfl ?_
      refine wgetI rfl (oK8 hL rfl) rfl ?_
      iterate 3 (refine kst rfl rfl ?_)
      refine wcm_ne rfl hW (fun hW => ?_) (fun hW => ?_)
      · iterate 2 (refine kst rfl rfl ?_)
        refine wjp ?_ (R114_81 (h := h4) k38 hL hW)
        exact ⟨rfl, rfl, rfl, rfl, rfl, trivial⟩
      · refine kst rfl rfl ?_
        refine kre rfl rfl ?_
        exact ⟨_, _, rfl, hL, hW⟩
    · refine kst rfl rfl ?_
      refine kre rfl rfl ?_
      exact ⟨_, _, rfl, hL, hW⟩
theorem R114 {d : Nat} {a1 : Nat} {a2 : Int32} {a3 : Int32} {h : TH} {C : Int32 → TH → Prop} (ha1 : is3 a1) (hL : Lay h) (hW : W114 a1 a2 a3 h C) : xPk (d + 7) 114 [.ref 190, .ref a1, .int a2, .int a3] h.X (postI C) := by
  unfold W114 at hW
  refine kin (Nat.le_of_ble_eq_true rfl) ?_
  iterate 2 (refine kst rfl rfl ?_)
  refine wputP rfl (oK8 hL rfl) rfl ?_
  replace hL := ls8_0 hL rfl (b := a1)
  iterate 2 (refine kst rfl rfl ?_)
  refine wputI rfl (oK8 hL rfl) rfl ?_
  replace hL : Lay ((h.sP 190 0 a1).sI 190 1 a2) := lsI hL
  iterate 3 (refine kst rfl rfl ?_)
  refine qcvI rfl (oK3 hL ha1) rfl rfl (R67 (d := d + 6) (h := ((h.sP 190 0 a1).sI 190 1 a2)) ha1 hL hW) (fun v1 hW => ?_)
  refine wputI rfl (oK8 hL rfl) rfl ?_
  replace hL : Lay (((h.sP 190 0 a1).sI 190 1 a2).sI 190 2 v1) := lsI hL
  refine kst rfl rfl ?_
  refine qcvI rfl (oK8 hL rfl) rfl rfl (R115 (d := d + 4) (h := (((h.sP 190 0 a1).sI 190 1 a2).sI 190 2 v1)) hL hW) (fun v2 hW => ?_)
  refine wif_ne rfl hW (fun hW => ?_) (fun hW => ?_)
  · refine kst rfl rfl ?_
    refine wcvV rfl (oK8 hL rfl) rfl rfl (R116 (d := d + 5) (h := (((h.sP 190 0 a1).sI 190 1 a2).sI 190 2 v1)) hL hW) (fun h3 hL hW => ?_)
    iterate 4 (refine kst rfl rfl ?_)
    refine wjp ?_ (R114_38 (h := h3) hL hW)
    exact ⟨rfl, rfl, rfl, rfl, trivial⟩
  · refine kst rfl rfl ?_
    refine kre rfl rfl ?_
    exact ⟨_, _, rfl, hL, hW⟩
/-- 123: Text hasRoom -/
def W123 (h : TH) (C : Int32 → Prop) : Prop :=
  if 880 < (h.I 9 1) then (C 0) else (C 1)

theorem R123 {d : Nat} {h : TH} {C : Int32 → Prop} (hL : Lay h) (hW : W123  h C) : xPk d 123 [.ref 9] h.X (qostI h C) := by
  unfold W123 at hW
  refine kin (Nat.le_of_ble_eq_true rfl) ?_
  refine kst rfl rfl ?_
  refine wgetI rfl (oK9 hL rfl) rfl ?_
  refine kst rfl rfl ?_
  refine wcm_gt rfl hW (fun hW => ?_) (fun hW => ?_)
  · refine kst rfl rfl ?_
    refine kre rfl rfl ?_
    exact ⟨_, rfl, hW⟩
  · iterate 2 (refine kst rfl rfl ?_)
    refine kre rfl rfl ?_
    exact ⟨_, rfl, hW⟩
/-- 124: Text append -/
def F124_3 (a1 : Int32) (C : TH → Prop) (X3 : Int32 × TH → Prop) : Int32 × TH → Prop := fun
  | (x2, h) =>
    if x2 < 0 then (C h) else (if 900 ≤ (h.I 9 1) then (C h) else (inb (h.I 9 1) 900 ∧ X3 ((x2 + (-8)), ((h.sI 10 (ix (h.I 9 1)) ((iushr a1 x2) &&& 255)).sI 9 1 (((h.sI 10 (ix (h.I 9 1)) ((iushr a1 x2) &&& 255)).I 9 1) + 1)))))
def B124_3 (a1 : Int32) (x2 : Int32) (h : TH) (C : TH → Prop) : Prop := LFP (F124_3 a1 C) (x2, h)
def W124 (a1 : Int32) (h : TH) (C : TH → Prop) : Prop :=
  B124_3 a1 24 h C

theorem R124_3 {d : Nat} {a1 : Int32} {x2 : Int32} {h : TH} {C : TH → Prop} (hL : Lay h) (hW : B124_3 a1 x2 h C) : xEk d 124 (3, [(0, .ref 9), (1, .int a1), (2, .int x2)], [], h.X) (postV C) := by
  refine hW (fun s => Lay (s.2) → xEk d 124 (3, [(0, .ref 9), (1, .int a1), (2, .int (s.1))], [], (TH.X (s.2))) (postV C)) ?_ hL
  rintro ⟨x2, h⟩ hW hL
  have k3 : ∀ s : Int32 × TH, (fun s => Lay (s.2) → xEk d 124 (3, [(0, .ref 9), (1, .int a1), (2, .int (s.1))], [], (TH.X (s.2))) (postV C)) s → Lay (s.2) → xEk d 124 (3, [(0, .ref 9), (1, .int a1), (2, .int (s.1))], [], (TH.X (s.2))) (postV C) := fun s hs => hs
  unfold F124_3 at hW
  dsimp only at hW
  refine kst rfl rfl ?_
  refine wif_lt rfl hW (fun hW => ?_) (fun hW => ?_)
  · refine kre rfl rfl ?_
    exact ⟨_, rfl, hL, hW⟩
  · refine kst rfl rfl ?_
    refine wgetI rfl (oK9 hL rfl) rfl ?_
    refine kst rfl rfl ?_
    refine wcm_ge rfl hW (fun hW => ?_) (fun hW => ?_)
    · refine kre rfl rfl ?_
      exact ⟨_, rfl, hL, hW⟩
    · refine kst rfl rfl ?_
      refine wgetP (b := 10) rfl (oK9 hL rfl) rfl (oP9_0 hL) ?_
      refine kst rfl rfl ?_
      refine wgetI rfl (oK9 hL rfl) rfl ?_
      iterate 5 (refine kst rfl rfl ?_)
      obtain ⟨q1, hW⟩ := hW
      refine wast rfl (aK9_0 hL) (aN9_0 hL) (by decide) q1 ?_
      replace hL : Lay (h.sI 10 (ix (h.I 9 1)) ((iushr a1 x2) &&& 255)) := lsI hL
      iterate 2 (refine kst rfl rfl ?_)
      refine wgetI rfl (oK9 hL rfl) rfl ?_
      iterate 2 (refine kst rfl rfl ?_)
      refine wputI rfl (oK9 hL rfl) rfl ?_
      replace hL : Lay ((h.sI 10 (ix (h.I 9 1)) ((iushr a1 x2) &&& 255)).sI 9 1 (((h.sI 10 (ix (h.I 9 1)) ((iushr a1 x2) &&& 255)).I 9 1) + 1)) := lsI hL
      iterate 2 (refine kst rfl rfl ?_)
      have z9 := k3 ((x2 + (-8)), ((h.sI 10 (ix (h.I 9 1)) ((iushr a1 x2) &&& 255)).sI 9 1 (((h.sI 10 (ix (h.I 9 1)) ((iushr a1 x2) &&& 255)).I 9 1) + 1))) hW hL
      refine wjp ?_ z9
      exact ⟨rfl, rfl, rfl, trivial⟩
theorem R124 {d : Nat} {a1 : Int32} {h : TH} {C : TH → Prop} (hL : Lay h) (hW : W124 a1 h C) : xPk d 124 [.ref 9, .int a1] h.X (postV C) := by
  unfold W124 at hW
  refine kin (Nat.le_of_ble_eq_true rfl) ?_
  iterate 2 (refine kst rfl rfl ?_)
  refine wjp ?_ (R124_3 (h := h) hL hW)
  exact ⟨rfl, rfl, rfl, trivial⟩
/-- 125: Text emptyTape -/
def W125 (h : TH) (C : TH → Prop) : Prop :=
  C (h.sI 9 1 0)

theorem R125 {d : Nat} {h : TH} {C : TH → Prop} (hL : Lay h) (hW : W125  h C) : xPk d 125 [.ref 9] h.X (postV C) := by
  unfold W125 at hW
  refine kin (Nat.le_of_ble_eq_true rfl) ?_
  iterate 2 (refine kst rfl rfl ?_)
  refine wputI rfl (oK9 hL rfl) rfl ?_
  replace hL : Lay (h.sI 9 1 0) := lsI hL
  refine kre rfl rfl ?_
  exact ⟨_, rfl, hL, hW⟩
/-- 140: Trays isTray -/
def W140 (a1 : Int32) (h : TH) (C : Int32 → Prop) : Prop :=
  if a1 < 0 then (C 0) else (if 4 ≤ a1 then (C 0) else (C 1))

theorem R140 {d : Nat} {a1 : Int32} {h : TH} {C : Int32 → Prop} (hL : Lay h) (hW : W140 a1 h C) : xPk d 140 [.ref 1, .int a1] h.X (qostI h C) := by
  unfold W140 at hW
  refine kin (Nat.le_of_ble_eq_true rfl) ?_
  refine kst rfl rfl ?_
  refine wif_lt rfl hW (fun hW => ?_) (fun hW => ?_)
  · refine kst rfl rfl ?_
    refine kre rfl rfl ?_
    exact ⟨_, rfl, hW⟩
  · iterate 2 (refine kst rfl rfl ?_)
    refine wcm_ge rfl hW (fun hW => ?_) (fun hW => ?_)
    · refine kst rfl rfl ?_
      refine kre rfl rfl ?_
      exact ⟨_, rfl, hW⟩
    · iterate 2 (refine kst rfl rfl ?_)
      refine kre rfl rfl ?_
      exact ⟨_, rfl, hW⟩
/-- 141: Trays isSort -/
def W141 (a1 : Int32) (h : TH) (C : Int32 → Prop) : Prop :=
  if a1 < 0 then (C 0) else (if 4 ≤ a1 then (C 0) else (C 1))

theorem R141 {d : Nat} {a1 : Int32} {h : TH} {C : Int32 → Prop} (hL : Lay h) (hW : W141 a1 h C) : xPk d 141 [.ref 1, .int a1] h.X (qostI h C) := by
  unfold W141 at hW
  refine kin (Nat.le_of_ble_eq_true rfl) ?_
  refine kst rfl rfl ?_
  refine wif_lt rfl hW (fun hW => ?_) (fun hW => ?_)
  · refine kst rfl rfl ?_
    refine kre rfl rfl ?_
    exact ⟨_, rfl, hW⟩
  · iterate 2 (refine kst rfl rfl ?_)
    refine wcm_ge rfl hW (fun hW => ?_) (fun hW => ?_)
    · refine kst rfl rfl ?_
      refine kre rfl rfl ?_
      exact ⟨_, rfl, hW⟩
    · iterate 2 (refine kst rfl rfl ?_)
      refine kre rfl rfl ?_
      exact ⟨_, rfl, hW⟩
/-- 142: Trays isThere -/
def W142 (a1 : Int32) (h : TH) (C : Int32 → Prop) : Prop :=
  inb a1 4 ∧ if (h.I 8 (ix a1)) = (-1) then (C 0) else (C 1)

theorem R142 {d : Nat} {a1 : Int32} {h : TH} {C : Int32 → Prop} (hL : Lay h) (hW : W142 a1 h C) : xPk d 142 [.ref 1, .int a1] h.X (qostI h C) := by
  unfold W142 at hW
  refine kin (Nat.le_of_ble_eq_true rfl) ?_
  refine kst rfl rfl ?_
  refine wgetP (b := 8) rfl (oK10 hL rfl) rfl (oP10_2 hL) ?_
  refine kst rfl rfl ?_
  obtain ⟨q1, hW⟩ := hW
  refine wald rfl (Or.inl (aK10_2 hL)) (aN10_2 hL) (by decide) q1 ?_
  refine kst rfl rfl ?_
  refine wcm_eq rfl hW (fun hW => ?_) (fun hW => ?_)
  · refine kst rfl rfl ?_
    refine kre rfl rfl ?_
    exact ⟨_, rfl, hW⟩
  · iterate 2 (refine kst rfl rfl ?_)
    refine kre rfl rfl ?_
    exact ⟨_, rfl, hW⟩
/-- 143: Trays areAlike -/
def W143 (a1 : Int32) (a2 : Int32) (h : TH) (C : Int32 → Prop) : Prop :=
  inb a1 4 ∧ inb a2 4 ∧ if ¬ (h.I 7 (ix a1)) = (h.I 7 (ix a2)) then (C 0) else (C 1)

theorem R143 {d : Nat} {a1 : Int32} {a2 : Int32} {h : TH} {C : Int32 → Prop} (hL : Lay h) (hW : W143 a1 a2 h C) : xPk d 143 [.ref 1, .int a1, .int a2] h.X (qostI h C) := by
  unfold W143 at hW
  refine kin (Nat.le_of_ble_eq_true rfl) ?_
  refine kst rfl rfl ?_
  refine wgetP (b := 7) rfl (oK10 hL rfl) rfl (oP10_1 hL) ?_
  refine kst rfl rfl ?_
  obtain ⟨q1, hW⟩ := hW
  refine wald rfl (Or.inl (aK10_1 hL)) (aN10_1 hL) (by decide) q1 ?_
  refine kst rfl rfl ?_
  refine wgetP (b := 7) rfl (oK10 hL rfl) rfl (oP10_1 hL) ?_
  refine kst rfl rfl ?_
  obtain ⟨q2, hW⟩ := hW
  refine wald rfl (Or.inl (aK10_1 hL)) (aN10_1 hL) (by decide) q2 ?_
  refine wcm_ne rfl hW (fun hW => ?_) (fun hW => ?_)
  · refine kst rfl rfl ?_
    refine kre rfl rfl ?_
    exact ⟨_, rfl, hW⟩
  · iterate 2 (refine kst rfl rfl ?_)
    refine kre rfl rfl ?_
    exact ⟨_, rfl, hW⟩
/-- 144: Trays hasRun -/
def W144 (a1 : Int32) (a2 : Int32) (a3 : Int32) (h : TH) (C : Int32 → Prop) : Prop :=
  inb a1 4 ∧ if (h.I 8 (ix a1)) < a2 then (C 0) else (inb a1 4 ∧ if ((h.I 8 (ix a1)) - a2) < a3 then (C 0) else (C 1))

theorem R144 {d : Nat} {a1 : Int32} {a2 : Int32} {a3 : Int32} {h : TH} {C : Int32 → Prop} (hL : Lay h) (hW : W144 a1 a2 a3 h C) : xPk d 144 [.ref 1, .int a1, .int a2, .int a3] h.X (qostI h C) := by
  unfold W144 at hW
  refine kin (Nat.le_of_ble_eq_true rfl) ?_
  iterate 2 (refine kst rfl rfl ?_)
  refine wgetP (b := 8) rfl (oK10 hL rfl) rfl (oP10_2 hL) ?_
  refine kst rfl rfl ?_
  obtain ⟨q1, hW⟩ := hW
  refine wald rfl (Or.inl (aK10_2 hL)) (aN10_2 hL) (by decide) q1 ?_
  refine wcm_gt rfl hW (fun hW => ?_) (fun hW => ?_)
  · refine kst rfl rfl ?_
    refine kre rfl rfl ?_
    exact ⟨_, rfl, hW⟩
  · iterate 2 (refine kst rfl rfl ?_)
    refine wgetP (b := 8) rfl (oK10 hL rfl) rfl (oP10_2 hL) ?_
    refine kst rfl rfl ?_
    obtain ⟨q2, hW⟩ := hW
    refine wald rfl (Or.inl (aK10_2 hL)) (aN10_2 hL) (by decide) q2 ?_
    iterate 2 (refine kst rfl rfl ?_)
    refine wcm_gt rfl hW (fun hW => ?_) (fun hW => ?_)
    · refine kst rfl rfl ?_
      refine kre rfl rfl ?_
      exact ⟨_, rfl, hW⟩
    · iterate 2 (refine kst rfl rfl ?_)
      refine kre rfl rfl ?_
      exact ⟨_, rfl, hW⟩
/-- 328: java/util/Arrays fill -/
def F328_6 (a1 : Nat) (a2 : Int64) (x4 : Int32) (C : TH → Prop) (X6 : Int32 × TH → Prop) : Int32 × TH → Prop := fun
  | (x3, h) =>
    if x4 ≤ x3 then (C h) else (okA h a1 101 x3 ∧ X6 ((x3 + 1), (h.sJ a1 (ix x3) a2)))
def B328_6 (a1 : Nat) (a2 : Int64) (x4 : Int32) (x3 : Int32) (h : TH) (C : TH → Prop) : Prop := LFP (F328_6 a1 a2 x4 C) (x3, h)
def W328 (a1 : Nat) (a2 : Int64) (h : TH) (C : TH → Prop) : Prop :=
  h.K a1 = 101 ∧ B328_6 a1 a2 (nI (h.N a1)) 0 h C

theorem R328_6 {d : Nat} {a1 : Nat} {a2 : Int64} {x4 : Int32} {x3 : Int32} {h : TH} {C : TH → Prop} (hL : Lay h) (hW : B328_6 a1 a2 x4 x3 h C) : xEk d 328 (6, [(0, .ref a1), (1, .long a2), (3, .int x3), (4, .int x4)], [], h.X) (postV C) := by
  refine hW (fun s => Lay (s.2) → xEk d 328 (6, [(0, .ref a1), (1, .long a2), (3, .int (s.1)), (4, .int x4)], [], (TH.X (s.2))) (postV C)) ?_ hL
  rintro ⟨x3, h⟩ hW hL
  have k6 : ∀ s : Int32 × TH, (fun s => Lay (s.2) → xEk d 328 (6, [(0, .ref a1), (1, .long a2), (3, .int (s.1)), (4, .int x4)], [], (TH.X (s.2))) (postV C)) s → Lay (s.2) → xEk d 328 (6, [(0, .ref a1), (1, .long a2), (3, .int (s.1)), (4, .int x4)], [], (TH.X (s.2))) (postV C) := fun s hs => hs
  unfold F328_6 at hW
  dsimp only at hW
  iterate 2 (refine kst rfl rfl ?_)
  refine wcm_ge rfl hW (fun hW => ?_) (fun hW => ?_)
  · refine kre rfl rfl ?_
    exact ⟨_, rfl, hL, hW⟩
  · iterate 3 (refine kst rfl rfl ?_)
    obtain ⟨q2, hW⟩ := hW
    refine wlast rfl q2.1 rfl q2.2.2 q2.2.1 ?_
    replace hL : Lay (h.sJ a1 (ix x3) a2) := lsJ hL
    iterate 2 (refine kst rfl rfl ?_)
    have z9 := k6 ((x3 + 1), (h.sJ a1 (ix x3) a2)) hW hL
    refine wjp ?_ z9
    exact ⟨rfl, rfl, rfl, rfl, trivial⟩
theorem R328 {d : Nat} {a1 : Nat} {a2 : Int64} {h : TH} {C : TH → Prop} (hL : Lay h) (hW : W328 a1 a2 h C) : xPk d 328 [.ref a1, .long a2] h.X (postV C) := by
  unfold W328 at hW
  refine kin (Nat.le_of_ble_eq_true rfl) ?_
  iterate 3 (refine kst rfl rfl ?_)
  obtain ⟨q1, hW⟩ := hW
  refine walen (kd := 1) rfl q1 (by decide) rfl ?_
  refine kst rfl rfl ?_
  refine wjp ?_ (R328_6 (h := h) hL hW)
  exact ⟨rfl, rfl, rfl, rfl, trivial⟩
/-- 145: Trays lay -/
def W145 (a1 : Int32) (a2 : Int32) (a3 : Int32) (h : TH) (C : TH → Prop) : Prop :=
  inb a1 4 ∧ inb a1 4 ∧ inb a1 4 ∧ W328 (3 + 1 * ix a1) (0 : Int64) ((h.sI 7 (ix a1) a2).sI 8 (ix a1) a3) (fun h1 => C h1)

theorem R145 {d : Nat} {a1 : Int32} {a2 : Int32} {a3 : Int32} {h : TH} {C : TH → Prop} (hL : Lay h) (hW : W145 a1 a2 a3 h C) : xPk (d + 1) 145 [.ref 1, .int a1, .int a2, .int a3] h.X (postV C) := by
  unfold W145 at hW
  refine kin (Nat.le_of_ble_eq_true rfl) ?_
  refine kst rfl rfl ?_
  refine wgetP (b := 7) rfl (oK10 hL rfl) rfl (oP10_1 hL) ?_
  iterate 2 (refine kst rfl rfl ?_)
  obtain ⟨q1, hW⟩ := hW
  refine wast rfl (aK10_1 hL) (aN10_1 hL) (by decide) q1 ?_
  replace hL : Lay (h.sI 7 (ix a1) a2) := lsI hL
  refine kst rfl rfl ?_
  refine wgetP (b := 8) rfl (oK10 hL rfl) rfl (oP10_2 hL) ?_
  iterate 2 (refine kst rfl rfl ?_)
  obtain ⟨q2, hW⟩ := hW
  refine wast rfl (aK10_2 hL) (aN10_2 hL) (by decide) q2 ?_
  replace hL : Lay ((h.sI 7 (ix a1) a2).sI 8 (ix a1) a3) := lsI hL
  refine kst rfl rfl ?_
  refine wgetP (b := 2) rfl (oK10 hL rfl) rfl (oP10_0 hL) ?_
  refine kst rfl rfl ?_
  obtain ⟨q3, hW⟩ := hW
  refine waald (kd := 7) rfl (aK10_0 hL) (by decide) (aN10_0 hL) (by decide) q3 (aA10_0 hL q3) ?_
  refine kst rfl rfl ?_
  refine wcaV rfl rfl (R328 (d := d + 0) (h := ((h.sI 7 (ix a1) a2).sI 8 (ix a1) a3)) hL hW) (fun h1 hL hW => ?_)
  refine kre rfl rfl ?_
  exact ⟨_, rfl, hL, hW⟩
/-- 146: Trays whyNot -/
def W146 (a1 : Int32) (a2 : Int32) (h : TH) (C : Int32 → Prop) : Prop :=
  W140 a1 h (fun v1 => if ¬ v1 = 0 then (W142 a1 h (fun v2 => if ¬ v2 = 0 then (if a2 < 0 then (C 3) else (inb a1 4 ∧ if a2 < (h.I 8 (ix a1)) then (C 0) else (C 3))) else (C 2))) else (C 1))

theorem R146 {d : Nat} {a1 : Int32} {a2 : Int32} {h : TH} {C : Int32 → Prop} (hL : Lay h) (hW : W146 a1 a2 h C) : xPk (d + 1) 146 [.ref 1, .int a1, .int a2] h.X (qostI h C) := by
  unfold W146 at hW
  refine kin (Nat.le_of_ble_eq_true rfl) ?_
  iterate 2 (refine kst rfl rfl ?_)
  refine qcvI rfl (oK10 hL rfl) rfl rfl (R140 (d := d + 0) (h := h) hL hW) (fun v1 hW => ?_)
  refine wif_ne rfl hW (fun hW => ?_) (fun hW => ?_)
  · iterate 2 (refine kst rfl rfl ?_)
    refine qcvI rfl (oK10 hL rfl) rfl rfl (R142 (d := d + 0) (h := h) hL hW) (fun v2 hW => ?_)
    refine wif_ne rfl hW (fun hW => ?_) (fun hW => ?_)
    · refine kst rfl rfl ?_
      refine wif_lt rfl hW (fun hW => ?_) (fun hW => ?_)
      · iterate 2 (refine kst rfl rfl ?_)
        refine kre rfl rfl ?_
        exact ⟨_, rfl, hW⟩
      · iterate 2 (refine kst rfl rfl ?_)
        refine wgetP (b := 8) rfl (oK10 hL rfl) rfl (oP10_2 hL) ?_
        refine kst rfl rfl ?_
        obtain ⟨q1, hW⟩ := hW
        refine wald rfl (Or.inl (aK10_2 hL)) (aN10_2 hL) (by decide) q1 ?_
        refine wcm_lt rfl hW (fun hW => ?_) (fun hW => ?_)
        · refine kst rfl rfl ?_
          refine kre rfl rfl ?_
          exact ⟨_, rfl, hW⟩
        · iterate 2 (refine kst rfl rfl ?_)
          refine kre rfl rfl ?_
          exact ⟨_, rfl, hW⟩
    · refine kst rfl rfl ?_
      refine kre rfl rfl ?_
      exact ⟨_, rfl, hW⟩
  · refine kst rfl rfl ?_
    refine kre rfl rfl ?_
    exact ⟨_, rfl, hW⟩
/-- 147: Trays put -/
def W147 (a1 : Int32) (a2 : Int32) (a3 : Int64) (h : TH) (C : TH → Prop) : Prop :=
  inb a1 4 ∧ if (h.I 7 (ix a1)) = 0 then (inb a1 4 ∧ inb a2 60 ∧ C (h.sJ (3 + 1 * ix a1) (ix a2) ((((a3).toInt32).toInt8.toInt32).toInt64))) else if (h.I 7 (ix a1)) = 1 then (inb a1 4 ∧ inb a2 60 ∧ C (h.sJ (3 + 1 * ix a1) (ix a2) ((((a3).toInt32).toInt16.toInt32).toInt64))) else if (h.I 7 (ix a1)) = 2 then (inb a1 4 ∧ inb a2 60 ∧ C (h.sJ (3 + 1 * ix a1) (ix a2) (((a3).toInt32).toInt64))) else (inb a1 4 ∧ inb a2 60 ∧ C (h.sJ (3 + 1 * ix a1) (ix a2) a3))

theorem R147 {d : Nat} {a1 : Int32} {a2 : Int32} {a3 : Int64} {h : TH} {C : TH → Prop} (hL : Lay h) (hW : W147 a1 a2 a3 h C) : xPk d 147 [.ref 1, .int a1, .int a2, .long a3] h.X (postV C) := by
  unfold W147 at hW
  refine kin (Nat.le_of_ble_eq_true rfl) ?_
  refine kst rfl rfl ?_
  refine wgetP (b := 7) rfl (oK10 hL rfl) rfl (oP10_1 hL) ?_
  refine kst rfl rfl ?_
  obtain ⟨q1, hW⟩ := hW
  refine wald rfl (Or.inl (aK10_1 hL)) (aN10_1 hL) (by decide) q1 ?_
  refine wsw hW (fun c0 hW => ?_) (fun c0 hW => ?_)
  · refine wswi (t := 32) rfl (fun _ => rfl) (swc c0 rfl) ?_
    refine kst rfl rfl ?_
    refine wgetP (b := 2) rfl (oK10 hL rfl) rfl (oP10_0 hL) ?_
    refine kst rfl rfl ?_
    obtain ⟨q2, hW⟩ := hW
    refine waald (kd := 7) rfl (aK10_0 hL) (by decide) (aN10_0 hL) (by decide) q2 (aA10_0 hL q2) ?_
    iterate 5 (refine kst rfl rfl ?_)
    obtain ⟨q3, hW⟩ := hW
    refine wlast rfl (aRK10_0 hL q2) (aRN10_0 hL q2) (by decide) q3 ?_
    replace hL : Lay (h.sJ (3 + 1 * ix a1) (ix a2) ((((a3).toInt32).toInt8.toInt32).toInt64)) := lsJ hL
    refine kst rfl rfl ?_
    refine kre rfl rfl ?_
    exact ⟨_, rfl, hL, hW⟩
  refine wsw hW (fun c1 hW => ?_) (fun c1 hW => ?_)
  · refine wswi (t := 47) rfl (fun _ => rfl) (swc c1 rfl) ?_
    refine kst rfl rfl ?_
    refine wgetP (b := 2) rfl (oK10 hL rfl) rfl (oP10_0 hL) ?_
    refine kst rfl rfl ?_
    obtain ⟨q4, hW⟩ := hW
    refine waald (kd := 7) rfl (aK10_0 hL) (by decide) (aN10_0 hL) (by decide) q4 (aA10_0 hL q4) ?_
    iterate 5 (refine kst rfl rfl ?_)
    obtain ⟨q5, hW⟩ := hW
    refine wlast rfl (aRK10_0 hL q4) (aRN10_0 hL q4) (by decide) q5 ?_
    replace hL : Lay (h.sJ (3 + 1 * ix a1) (ix a2) ((((a3).toInt32).toInt16.toInt32).toInt64)) := lsJ hL
    refine kst rfl rfl ?_
    refine kre rfl rfl ?_
    exact ⟨_, rfl, hL, hW⟩
  refine wsw hW (fun c2 hW => ?_) (fun c2 hW => ?_)
  · refine wswi (t := 62) rfl (fun _ => rfl) (swc c2 rfl) ?_
    refine kst rfl rfl ?_
    refine wgetP (b := 2) rfl (oK10 hL rfl) rfl (oP10_0 hL) ?_
    refine kst rfl rfl ?_
    obtain ⟨q6, hW⟩ := hW
    refine waald (kd := 7) rfl (aK10_0 hL) (by decide) (aN10_0 hL) (by decide) q6 (aA10_0 hL q6) ?_
    iterate 4 (refine kst rfl rfl ?_)
    obtain ⟨q7, hW⟩ := hW
    refine wlast rfl (aRK10_0 hL q6) (aRN10_0 hL q6) (by decide) q7 ?_
    replace hL : Lay (h.sJ (3 + 1 * ix a1) (ix a2) (((a3).toInt32).toInt64)) := lsJ hL
    refine kst rfl rfl ?_
    refine kre rfl rfl ?_
    exact ⟨_, rfl, hL, hW⟩
  refine wswi (t := 76) rfl (fun _ => rfl) (tswD (by have z0 := i32ne (k := 0) c0 rfl; have z1 := i32ne (k := 1) c1 rfl; have z2 := i32ne (k := 2) c2 rfl; first | omega | (have z9 := i32ne c0 rfl; omega)) rfl) ?_
  refine kst rfl rfl ?_
  refine wgetP (b := 2) rfl (oK10 hL rfl) rfl (oP10_0 hL) ?_
  refine kst rfl rfl ?_
  obtain ⟨q8, hW⟩ := hW
  refine waald (kd := 7) rfl (aK10_0 hL) (by decide) (aN10_0 hL) (by decide) q8 (aA10_0 hL q8) ?_
  iterate 2 (refine kst rfl rfl ?_)
  obtain ⟨q9, hW⟩ := hW
  refine wlast rfl (aRK10_0 hL q8) (aRN10_0 hL q8) (by decide) q9 ?_
  replace hL : Lay (h.sJ (3 + 1 * ix a1) (ix a2) a3) := lsJ hL
  refine kre rfl rfl ?_
  exact ⟨_, rfl, hL, hW⟩
/-- 148: Trays numberAt -/
def W148 (a1 : Int32) (a2 : Int32) (h : TH) (C : Int64 → Prop) : Prop :=
  inb a1 4 ∧ inb a2 60 ∧ C (h.J (3 + 1 * ix a1) (ix a2))

theorem R148 {d : Nat} {a1 : Int32} {a2 : Int32} {h : TH} {C : Int64 → Prop} (hL : Lay h) (hW : W148 a1 a2 h C) : xPk d 148 [.ref 1, .int a1, .int a2] h.X (qostL h C) := by
  unfold W148 at hW
  refine kin (Nat.le_of_ble_eq_true rfl) ?_
  refine kst rfl rfl ?_
  refine wgetP (b := 2) rfl (oK10 hL rfl) rfl (oP10_0 hL) ?_
  refine kst rfl rfl ?_
  obtain ⟨q1, hW⟩ := hW
  refine waald (kd := 7) rfl (aK10_0 hL) (by decide) (aN10_0 hL) (by decide) q1 (aA10_0 hL q1) ?_
  refine kst rfl rfl ?_
  obtain ⟨q2, hW⟩ := hW
  refine wlald rfl (aRK10_0 hL q1) (aRN10_0 hL q1) (by decide) q2 ?_
  refine kre rfl rfl ?_
  exact ⟨_, rfl, hW⟩
/-- 149: Trays carry -/
def W149 (a1 : Int32) (a2 : Int32) (a3 : Int32) (a4 : Int32) (a5 : Int32) (h : TH) (C : TH → Prop) : Prop :=
  inb a1 4 ∧ inb a3 4 ∧ cpok a2 a4 a5 60 60 ∧ C (h.cJ (3 + 1 * ix a3) (va_cpy (h.J (3 + 1 * ix a1)) (h.J (3 + 1 * ix a3)) (ix a2) (ix a4) (ix a5)))

theorem R149 {d : Nat} {a1 : Int32} {a2 : Int32} {a3 : Int32} {a4 : Int32} {a5 : Int32} {h : TH} {C : TH → Prop} (hL : Lay h) (hW : W149 a1 a2 a3 a4 a5 h C) : xPk d 149 [.ref 1, .int a1, .int a2, .int a3, .int a4, .int a5] h.X (postV C) := by
  unfold W149 at hW
  refine kin (Nat.le_of_ble_eq_true rfl) ?_
  refine kst rfl rfl ?_
  refine wgetP (b := 2) rfl (oK10 hL rfl) rfl (oP10_0 hL) ?_
  refine kst rfl rfl ?_
  obtain ⟨q1, hW⟩ := hW
  refine waald (kd := 7) rfl (aK10_0 hL) (by decide) (aN10_0 hL) (by decide) q1 (aA10_0 hL q1) ?_
  iterate 2 (refine kst rfl rfl ?_)
  refine wgetP (b := 2) rfl (oK10 hL rfl) rfl (oP10_0 hL) ?_
  refine kst rfl rfl ?_
  obtain ⟨q2, hW⟩ := hW
  refine waald (kd := 7) rfl (aK10_0 hL) (by decide) (aN10_0 hL) (by decide) q2 (aA10_0 hL q2) ?_
  iterate 2 (refine kst rfl rfl ?_)
  obtain ⟨q3, hW⟩ := hW
  refine wcopyJ rfl (aRK10_0 hL q1) (aRK10_0 hL q2) (aRN10_0 hL q1) (aRN10_0 hL q2) (by decide) (by decide) q3 (Nat.le_of_ble_eq_true rfl) ?_
  replace hL : Lay (h.cJ (3 + 1 * ix a3) (va_cpy (h.J (3 + 1 * ix a1)) (h.J (3 + 1 * ix a3)) (ix a2) (ix a4) (ix a5))) := lcJ hL
  refine kre rfl rfl ?_
  exact ⟨_, rfl, hL, hW⟩
/-- 151: FourPots status -/
def W151 (h : TH) (C : Int32 → Prop) : Prop :=
  C (h.I 0 0)

theorem R151 {d : Nat} {h : TH} {C : Int32 → Prop} (hL : Lay h) (hW : W151  h C) : xPk d 151 [.ref 0] h.X (qostI h C) := by
  unfold W151 at hW
  refine kin (Nat.le_of_ble_eq_true rfl) ?_
  refine kst rfl rfl ?_
  refine wgetI rfl (oK11 hL rfl) rfl ?_
  refine kre rfl rfl ?_
  exact ⟨_, rfl, hW⟩
/-- 152: FourPots top -/
def W152 (h : TH) (C : Int64 → Prop) : Prop :=
  C (h.J 0 1)

theorem R152 {d : Nat} {h : TH} {C : Int64 → Prop} (hL : Lay h) (hW : W152  h C) : xPk d 152 [.ref 0] h.X (qostL h C) := by
  unfold W152 at hW
  refine kin (Nat.le_of_ble_eq_true rfl) ?_
  refine kst rfl rfl ?_
  refine wgetJ rfl (oK11 hL rfl) rfl ?_
  refine kre rfl rfl ?_
  exact ⟨_, rfl, hW⟩
/-- 153: FourPots bottom -/
def W153 (h : TH) (C : Int64 → Prop) : Prop :=
  C (h.J 0 2)

theorem R153 {d : Nat} {h : TH} {C : Int64 → Prop} (hL : Lay h) (hW : W153  h C) : xPk d 153 [.ref 0] h.X (qostL h C) := by
  unfold W153 at hW
  refine kin (Nat.le_of_ble_eq_true rfl) ?_
  refine kst rfl rfl ?_
  refine wgetJ rfl (oK11 hL rfl) rfl ?_
  refine kre rfl rfl ?_
  exact ⟨_, rfl, hW⟩
/-- 197: FourPots denied -/
def W197 (a1 : Int32) (h : TH) (C : Int32 → TH → Prop) : Prop :=
  C 0 (h.sI 0 0 a1)

theorem R197 {d : Nat} {a1 : Int32} {h : TH} {C : Int32 → TH → Prop} (hL : Lay h) (hW : W197 a1 h C) : xPk d 197 [.ref 0, .int a1] h.X (postI C) := by
  unfold W197 at hW
  refine kin (Nat.le_of_ble_eq_true rfl) ?_
  iterate 2 (refine kst rfl rfl ?_)
  refine wputI rfl (oK11 hL rfl) rfl ?_
  replace hL : Lay (h.sI 0 0 a1) := lsI hL
  refine kst rfl rfl ?_
  refine kre rfl rfl ?_
  exact ⟨_, _, rfl, hL, hW⟩
/-- 196: FourPots granted -/
def W196 (h : TH) (C : Int32 → TH → Prop) : Prop :=
  C 1 (h.sI 0 0 0)

theorem R196 {d : Nat} {h : TH} {C : Int32 → TH → Prop} (hL : Lay h) (hW : W196  h C) : xPk d 196 [.ref 0] h.X (postI C) := by
  unfold W196 at hW
  refine kin (Nat.le_of_ble_eq_true rfl) ?_
  iterate 2 (refine kst rfl rfl ?_)
  refine wputI rfl (oK11 hL rfl) rfl ?_
  replace hL : Lay (h.sI 0 0 0) := lsI hL
  refine kst rfl rfl ?_
  refine kre rfl rfl ?_
  exact ⟨_, _, rfl, hL, hW⟩
/-- 154: FourPots tray -/
def B154_36 (a1 : Int32) (a2 : Int32) (a3 : Int32) (h : TH) (C : Int32 → TH → Prop) : Prop :=
  W197 1 h (fun v2 h3 => (v2 = 0 ∨ v2 = 1) ∧ C v2 h3)
def W154 (a1 : Int32) (a2 : Int32) (a3 : Int32) (h : TH) (C : Int32 → TH → Prop) : Prop :=
  W140 a1 h (fun v1 => if v1 = 0 then (B154_36 a1 a2 a3 h C) else (W141 a2 h (fun v2 => if v2 = 0 then (B154_36 a1 a2 a3 h C) else (if a3 < 0 then (B154_36 a1 a2 a3 h C) else (if 60 < a3 then (B154_36 a1 a2 a3 h C) else (W145 a1 a2 a3 h (fun h3 => W196  h3 (fun v4 h5 => (v4 = 0 ∨ v4 = 1) ∧ C v4 h5))))))))

theorem R154_36 {d : Nat} {a1 : Int32} {a2 : Int32} {a3 : Int32} {h : TH} {C : Int32 → TH → Prop} (hL : Lay h) (hW : B154_36 a1 a2 a3 h C) : xEk (d + 2) 154 (36, [(0, .ref 0), (1, .int a1), (2, .int a2), (3, .int a3)], [], h.X) (postI C) := by
  unfold B154_36 at hW
  iterate 3 (refine kst rfl rfl ?_)
  refine kif_ne rfl (fun c9 => absurd c9 (by decide)) (fun _ => ?_)
  iterate 2 (refine kst rfl rfl ?_)
  refine wcvI rfl (oK11 hL rfl) rfl rfl (R197 (d := d + 1) (h := h) hL hW) (fun v2 h3 hL hW => ?_)
  obtain ⟨q1, hW⟩ := hW
  refine wrZ rfl q1 ?_
  exact ⟨_, _, rfl, hL, hW⟩
theorem R154 {d : Nat} {a1 : Int32} {a2 : Int32} {a3 : Int32} {h : TH} {C : Int32 → TH → Prop} (hL : Lay h) (hW : W154 a1 a2 a3 h C) : xPk (d + 2) 154 [.ref 0, .int a1, .int a2, .int a3] h.X (postI C) := by
  unfold W154 at hW
  refine kin (Nat.le_of_ble_eq_true rfl) ?_
  refine kst rfl rfl ?_
  refine wgetP (b := 1) rfl (oK11 hL rfl) rfl (oP11_3 hL) ?_
  refine kst rfl rfl ?_
  refine qcvI rfl (oK10 hL rfl) rfl rfl (R140 (d := d + 1) (h := h) hL hW) (fun v1 hW => ?_)
  refine wif_eq rfl hW (fun hW => ?_) (fun hW => ?_)
  · refine wjp ?_ (R154_36 (h := h) hL hW)
    exact ⟨rfl, rfl, rfl, rfl, trivial⟩
  · refine kst rfl rfl ?_
    refine wgetP (b := 1) rfl (oK11 hL rfl) rfl (oP11_3 hL) ?_
    refine kst rfl rfl ?_
    refine qcvI rfl (oK10 hL rfl) rfl rfl (R141 (d := d + 1) (h := h) hL hW) (fun v2 hW => ?_)
    refine wif_eq rfl hW (fun hW => ?_) (fun hW => ?_)
    · refine wjp ?_ (R154_36 (h := h) hL hW)
      exact ⟨rfl, rfl, rfl, rfl, trivial⟩
    · refine kst rfl rfl ?_
      refine wif_lt rfl hW (fun hW => ?_) (fun hW => ?_)
      · refine wjp ?_ (R154_36 (h := h) hL hW)
        exact ⟨rfl, rfl, rfl, rfl, trivial⟩
      · iterate 2 (refine kst rfl rfl ?_)
        refine wcm_gt rfl hW (fun hW => ?_) (fun hW => ?_)
        · refine wjp ?_ (R154_36 (h := h) hL hW)
          exact ⟨rfl, rfl, rfl, rfl, trivial⟩
        · iterate 4 (refine kst rfl rfl ?_)
          refine kif_ne rfl (fun _ => ?_) (fun c9 => absurd c9 (by decide))
          refine kst rfl rfl ?_
          refine wgetP (b := 1) rfl (oK11 hL rfl) rfl (oP11_3 hL) ?_
          iterate 3 (refine kst rfl rfl ?_)
          refine wcvV rfl (oK10 hL rfl) rfl rfl (R145 (d := d + 0) (h := h) hL hW) (fun h3 hL hW => ?_)
          refine kst rfl rfl ?_
          refine wcvI rfl (oK11 hL rfl) rfl rfl (R196 (d := d + 1) (h := h3) hL hW) (fun v4 h5 hL hW => ?_)
          obtain ⟨q1, hW⟩ := hW
          refine wrZ rfl q1 ?_
          exact ⟨_, _, rfl, hL, hW⟩
/-- 155: FourPots write -/
def W155 (a1 : Int32) (a2 : Int32) (a3 : Int64) (h : TH) (C : Int32 → TH → Prop) : Prop :=
  W146 a1 a2 h (fun v1 => if v1 = 0 then (W147 a1 a2 a3 h (fun h2 => W196  h2 (fun v3 h4 => (v3 = 0 ∨ v3 = 1) ∧ C v3 h4))) else (W197 v1 h (fun v5 h6 => (v5 = 0 ∨ v5 = 1) ∧ C v5 h6)))

theorem R155 {d : Nat} {a1 : Int32} {a2 : Int32} {a3 : Int64} {h : TH} {C : Int32 → TH → Prop} (hL : Lay h) (hW : W155 a1 a2 a3 h C) : xPk (d + 2) 155 [.ref 0, .int a1, .int a2, .long a3] h.X (postI C) := by
  unfold W155 at hW
  refine kin (Nat.le_of_ble_eq_true rfl) ?_
  refine kst rfl rfl ?_
  refine wgetP (b := 1) rfl (oK11 hL rfl) rfl (oP11_3 hL) ?_
  iterate 2 (refine kst rfl rfl ?_)
  refine qcvI rfl (oK10 hL rfl) rfl rfl (R146 (d := d + 0) (h := h) hL hW) (fun v1 hW => ?_)
  iterate 2 (refine kst rfl rfl ?_)
  refine wif_eq rfl hW (fun hW => ?_) (fun hW => ?_)
  · refine kst rfl rfl ?_
    refine wgetP (b := 1) rfl (oK11 hL rfl) rfl (oP11_3 hL) ?_
    iterate 3 (refine kst rfl rfl ?_)
    refine wcvV rfl (oK10 hL rfl) rfl rfl (R147 (d := d + 1) (h := h) hL hW) (fun h2 hL hW => ?_)
    refine kst rfl rfl ?_
    refine wcvI rfl (oK11 hL rfl) rfl rfl (R196 (d := d + 1) (h := h2) hL hW) (fun v3 h4 hL hW => ?_)
    obtain ⟨q1, hW⟩ := hW
    refine wrZ rfl q1 ?_
    exact ⟨_, _, rfl, hL, hW⟩
  · iterate 2 (refine kst rfl rfl ?_)
    refine wcvI rfl (oK11 hL rfl) rfl rfl (R197 (d := d + 1) (h := h) hL hW) (fun v5 h6 hL hW => ?_)
    obtain ⟨q1, hW⟩ := hW
    refine wrZ rfl q1 ?_
    exact ⟨_, _, rfl, hL, hW⟩
/-- 156: FourPots read -/
def W156 (a1 : Int32) (a2 : Int32) (h : TH) (C : Int64 → TH → Prop) : Prop :=
  W146 a1 a2 h (fun v1 => if ¬ ((h.sI 0 0 v1).I 0 0) = 0 then (C (-1) (h.sI 0 0 v1)) else (W148 a1 a2 (h.sI 0 0 v1) (fun v2 => C v2 (h.sI 0 0 v1))))

theorem R156 {d : Nat} {a1 : Int32} {a2 : Int32} {h : TH} {C : Int64 → TH → Prop} (hL : Lay h) (hW : W156 a1 a2 h C) : xPk (d + 2) 156 [.ref 0, .int a1, .int a2] h.X (postL C) := by
  unfold W156 at hW
  refine kin (Nat.le_of_ble_eq_true rfl) ?_
  iterate 2 (refine kst rfl rfl ?_)
  refine wgetP (b := 1) rfl (oK11 hL rfl) rfl (oP11_3 hL) ?_
  iterate 2 (refine kst rfl rfl ?_)
  refine qcvI rfl (oK10 hL rfl) rfl rfl (R146 (d := d + 0) (h := h) hL hW) (fun v1 hW => ?_)
  refine wputI rfl (oK11 hL rfl) rfl ?_
  replace hL : Lay (h.sI 0 0 v1) := lsI hL
  refine kst rfl rfl ?_
  refine wgetI rfl (oK11 hL rfl) rfl ?_
  refine wif_ne rfl hW (fun hW => ?_) (fun hW => ?_)
  · refine kst rfl rfl ?_
    refine kre rfl rfl ?_
    exact ⟨_, _, rfl, hL, hW⟩
  · refine kst rfl rfl ?_
    refine wgetP (b := 1) rfl (oK11 hL rfl) rfl (oP11_3 hL) ?_
    iterate 2 (refine kst rfl rfl ?_)
    refine qcvL rfl (oK10 hL rfl) rfl rfl (R148 (d := d + 1) (h := (h.sI 0 0 v1)) hL hW) (fun v2 hW => ?_)
    refine kst rfl rfl ?_
    refine kre rfl rfl ?_
    exact ⟨_, _, rfl, hL, hW⟩
/-- 157: FourPots pour -/
def B157_40 (a1 : Int32) (a2 : Int32) (a3 : Int32) (a4 : Int32) (a5 : Int32) (h : TH) (C : Int32 → TH → Prop) : Prop :=
  W197 1 h (fun v2 h3 => (v2 = 0 ∨ v2 = 1) ∧ C v2 h3)
def W157 (a1 : Int32) (a2 : Int32) (a3 : Int32) (a4 : Int32) (a5 : Int32) (h : TH) (C : Int32 → TH → Prop) : Prop :=
  W140 a1 h (fun v1 => if v1 = 0 then (B157_40 a1 a2 a3 a4 a5 h C) else (W140 a3 h (fun v2 => if v2 = 0 then (B157_40 a1 a2 a3 a4 a5 h C) else (if a2 < 0 then (B157_40 a1 a2 a3 a4 a5 h C) else (if a4 < 0 then (B157_40 a1 a2 a3 a4 a5 h C) else (if a5 < 0 then (B157_40 a1 a2 a3 a4 a5 h C) else (W142 a1 h (fun v3 => if v3 = 0 then (W197 2 h (fun v4 h5 => (v4 = 0 ∨ v4 = 1) ∧ C v4 h5)) else (W142 a3 h (fun v6 => if ¬ v6 = 0 then (W143 a1 a3 h (fun v7 => if ¬ v7 = 0 then (W144 a1 a2 a5 h (fun v8 => if v8 = 0 then (W197 3 h (fun v9 h10 => (v9 = 0 ∨ v9 = 1) ∧ C v9 h10)) else (W144 a3 a4 a5 h (fun v11 => if ¬ v11 = 0 then (W149 a1 a2 a3 a4 a5 h (fun h12 => W196  h12 (fun v13 h14 => (v13 = 0 ∨ v13 = 1) ∧ C v13 h14))) else (W197 3 h (fun v15 h16 => (v15 = 0 ∨ v15 = 1) ∧ C v15 h16)))))) else (W197 8 h (fun v17 h18 => (v17 = 0 ∨ v17 = 1) ∧ C v17 h18)))) else (W197 2 h (fun v19 h20 => (v19 = 0 ∨ v19 = 1) ∧ C v19 h20))))))))))))

theorem R157_40 {d : Nat} {a1 : Int32} {a2 : Int32} {a3 : Int32} {a4 : Int32} {a5 : Int32} {h : TH} {C : Int32 → TH → Prop} (hL : Lay h) (hW : B157_40 a1 a2 a3 a4 a5 h C) : xEk (d + 1) 157 (40, [(0, .ref 0), (1, .int a1), (2, .int a2), (3, .int a3), (4, .int a4), (5, .int a5)], [], h.X) (postI C) := by
  unfold B157_40 at hW
  iterate 3 (refine kst rfl rfl ?_)
  refine kif_ne rfl (fun c9 => absurd c9 (by decide)) (fun _ => ?_)
  iterate 2 (refine kst rfl rfl ?_)
  refine wcvI rfl (oK11 hL rfl) rfl rfl (R197 (d := d + 0) (h := h) hL hW) (fun v2 h3 hL hW => ?_)
  obtain ⟨q1, hW⟩ := hW
  refine wrZ rfl q1 ?_
  exact ⟨_, _, rfl, hL, hW⟩
theorem R157 {d : Nat} {a1 : Int32} {a2 : Int32} {a3 : Int32} {a4 : Int32} {a5 : Int32} {h : TH} {C : Int32 → TH → Prop} (hL : Lay h) (hW : W157 a1 a2 a3 a4 a5 h C) : xPk (d + 1) 157 [.ref 0, .int a1, .int a2, .int a3, .int a4, .int a5] h.X (postI C) := by
  unfold W157 at hW
  refine kin (Nat.le_of_ble_eq_true rfl) ?_
  refine kst rfl rfl ?_
  refine wgetP (b := 1) rfl (oK11 hL rfl) rfl (oP11_3 hL) ?_
  refine kst rfl rfl ?_
  refine qcvI rfl (oK10 hL rfl) rfl rfl (R140 (d := d + 0) (h := h) hL hW) (fun v1 hW => ?_)
  refine wif_eq rfl hW (fun hW => ?_) (fun hW => ?_)
  · refine wjp ?_ (R157_40 (h := h) hL hW)
    exact ⟨rfl, rfl, rfl, rfl, rfl, rfl, trivial⟩
  · refine kst rfl rfl ?_
    refine wgetP (b := 1) rfl (oK11 hL rfl) rfl (oP11_3 hL) ?_
    refine kst rfl rfl ?_
    refine qcvI rfl (oK10 hL rfl) rfl rfl (R140 (d := d + 0) (h := h) hL hW) (fun v2 hW => ?_)
    refine wif_eq rfl hW (fun hW => ?_) (fun hW => ?_)
    · refine wjp ?_ (R157_40 (h := h) hL hW)
      exact ⟨rfl, rfl, rfl, rfl, rfl, rfl, trivial⟩
    · refine kst rfl rfl ?_
      refine wif_lt rfl hW (fun hW => ?_) (fun hW => ?_)
      · refine wjp ?_ (R157_40 (h := h) hL hW)
        exact ⟨rfl, rfl, rfl, rfl, rfl, rfl, trivial⟩
      · refine kst rfl rfl ?_
        refine wif_lt rfl hW (fun hW => ?_) (fun hW => ?_)
        · refine wjp ?_ (R157_40 (h := h) hL hW)
          exact ⟨rfl, rfl, rfl, rfl, rfl, rfl, trivial⟩
        · refine kst rfl rfl ?_
          refine wif_lt rfl hW (fun hW => ?_) (fun hW => ?_)
          · refine wjp ?_ (R157_40 (h := h) hL hW)
            exact ⟨rfl, rfl, rfl, rfl, rfl, rfl, trivial⟩
          · iterate 4 (refine kst rfl rfl ?_)
            refine kif_ne rfl (fun _ => ?_) (fun c9 => absurd c9 (by decide))
            refine kst rfl rfl ?_
            refine wgetP (b := 1) rfl (oK11 hL rfl) rfl (oP11_3 hL) ?_
            refine kst rfl rfl ?_
            refine qcvI rfl (oK10 hL rfl) rfl rfl (R142 (d := d + 0) (h := h) hL hW) (fun v3 hW => ?_)
            refine wif_eq rfl hW (fun hW => ?_) (fun hW => ?_)
            · iterate 2 (refine kst rfl rfl ?_)
              refine wcvI rfl (oK11 hL rfl) rfl rfl (R197 (d := d + 0) (h := h) hL hW) (fun v4 h5 hL hW => ?_)
              obtain ⟨q1, hW⟩ := hW
              refine wrZ rfl q1 ?_
              exact ⟨_, _, rfl, hL, hW⟩
            · refine kst rfl rfl ?_
              refine wgetP (b := 1) rfl (oK11 hL rfl) rfl (oP11_3 hL) ?_
              refine kst rfl rfl ?_
              refine qcvI rfl (oK10 hL rfl) rfl rfl (R142 (d := d + 0) (h := h) hL hW) (fun v6 hW => ?_)
              refine wif_ne rfl hW (fun hW => ?_) (fun hW => ?_)
              · refine kst rfl rfl ?_
                refine wgetP (b := 1) rfl (oK11 hL rfl) rfl (oP11_3 hL) ?_
                iterate 2 (refine kst rfl rfl ?_)
                refine qcvI rfl (oK10 hL rfl) rfl rfl (R143 (d := d + 0) (h := h) hL hW) (fun v7 hW => ?_)
                refine wif_ne rfl hW (fun hW => ?_) (fun hW => ?_)
                · refine kst rfl rfl ?_
                  refine wgetP (b := 1) rfl (oK11 hL rfl) rfl (oP11_3 hL) ?_
                  iterate 3 (refine kst rfl rfl ?_)
                  refine qcvI rfl (oK10 hL rfl) rfl rfl (R144 (d := d + 0) (h := h) hL hW) (fun v8 hW => ?_)
                  refine wif_eq rfl hW (fun hW => ?_) (fun hW => ?_)
                  · iterate 2 (refine kst rfl rfl ?_)
                    refine wcvI rfl (oK11 hL rfl) rfl rfl (R197 (d := d + 0) (h := h) hL hW) (fun v9 h10 hL hW => ?_)
                    obtain ⟨q1, hW⟩ := hW
                    refine wrZ rfl q1 ?_
                    exact ⟨_, _, rfl, hL, hW⟩
                  · refine kst rfl rfl ?_
                    refine wgetP (b := 1) rfl (oK11 hL rfl) rfl (oP11_3 hL) ?_
                    iterate 3 (refine kst rfl rfl ?_)
                    refine qcvI rfl (oK10 hL rfl) rfl rfl (R144 (d := d + 0) (h := h) hL hW) (fun v11 hW => ?_)
                    refine wif_ne rfl hW (fun hW => ?_) (fun hW => ?_)
                    · refine kst rfl rfl ?_
                      refine wgetP (b := 1) rfl (oK11 hL rfl) rfl (oP11_3 hL) ?_
                      iterate 5 (refine kst rfl rfl ?_)
                      refine wcvV rfl (oK10 hL rfl) rfl rfl (R149 (d := d + 0) (h := h) hL hW) (fun h12 hL hW => ?_)
                      refine kst rfl rfl ?_
                      refine wcvI rfl (oK11 hL rfl) rfl rfl (R196 (d := d + 0) (h := h12) hL hW) (fun v13 h14 hL hW => ?_)
                      obtain ⟨q1, hW⟩ := hW
                      refine wrZ rfl q1 ?_
                      exact ⟨_, _, rfl, hL, hW⟩
                    · iterate 2 (refine kst rfl rfl ?_)
                      refine wcvI rfl (oK11 hL rfl) rfl rfl (R197 (d := d + 0) (h := h) hL hW) (fun v15 h16 hL hW => ?_)
                      obtain ⟨q1, hW⟩ := hW
                      refine wrZ rfl q1 ?_
                      exact ⟨_, _, rfl, hL, hW⟩
                · iterate 2 (refine kst rfl rfl ?_)
                  refine wcvI rfl (oK11 hL rfl) rfl rfl (R197 (d := d + 0) (h := h) hL hW) (fun v17 h18 hL hW => ?_)
                  obtain ⟨q1, hW⟩ := hW
                  refine wrZ rfl q1 ?_
                  exact ⟨_, _, rfl, hL, hW⟩
              · iterate 2 (refine kst rfl rfl ?_)
                refine wcvI rfl (oK11 hL rfl) rfl rfl (R197 (d := d + 0) (h := h) hL hW) (fun v19 h20 hL hW => ?_)
                obtain ⟨q1, hW⟩ := hW
                refine wrZ rfl q1 ?_
                exact ⟨_, _, rfl, hL, hW⟩
/-- 158: FourPots feed -/
def W158 (a1 : Int32) (a2 : Int32) (a3 : Int32) (a4 : Int32) (a5 : Int32) (h : TH) (C : Int32 → TH → Prop) : Prop :=
  W123  h (fun v1 => if ¬ v1 = 0 then (W124 a1 h (fun h2 => W124 a2 h2 (fun h3 => W124 a3 h3 (fun h4 => W124 a4 h4 (fun h5 => W124 a5 h5 (fun h6 => C (h6.I 9 1) h6)))))) else (C (-1) h))

theorem R158 {d : Nat} {a1 : Int32} {a2 : Int32} {a3 : Int32} {a4 : Int32} {a5 : Int32} {h : TH} {C : Int32 → TH → Prop} (hL : Lay h) (hW : W158 a1 a2 a3 a4 a5 h C) : xPk (d + 1) 158 [.ref 0, .int a1, .int a2, .int a3, .int a4, .int a5] h.X (postI C) := by
  unfold W158 at hW
  refine kin (Nat.le_of_ble_eq_true rfl) ?_
  refine kst rfl rfl ?_
  refine wgetP (b := 9) rfl (oK11 hL rfl) rfl (oP11_4 hL) ?_
  refine qcvI rfl (oK9 hL rfl) rfl rfl (R123 (d := d + 0) (h := h) hL hW) (fun v1 hW => ?_)
  refine wif_ne rfl hW (fun hW => ?_) (fun hW => ?_)
  · refine kst rfl rfl ?_
    refine wgetP (b := 9) rfl (oK11 hL rfl) rfl (oP11_4 hL) ?_
    refine kst rfl rfl ?_
    refine wcvV rfl (oK9 hL rfl) rfl rfl (R124 (d := d + 0) (h := h) hL hW) (fun h2 hL hW => ?_)
    refine kst rfl rfl ?_
    refine wgetP (b := 9) rfl (oK11 hL rfl) rfl (oP11_4 hL) ?_
    refine kst rfl rfl ?_
    refine wcvV rfl (oK9 hL rfl) rfl rfl (R124 (d := d + 0) (h := h2) hL hW) (fun h3 hL hW => ?_)
    refine kst rfl rfl ?_
    refine wgetP (b := 9) rfl (oK11 hL rfl) rfl (oP11_4 hL) ?_
    refine kst rfl rfl ?_
    refine wcvV rfl (oK9 hL rfl) rfl rfl (R124 (d := d + 0) (h := h3) hL hW) (fun h4 hL hW => ?_)
    refine kst rfl rfl ?_
    refine wgetP (b := 9) rfl (oK11 hL rfl) rfl (oP11_4 hL) ?_
    refine kst rfl rfl ?_
    refine wcvV rfl (oK9 hL rfl) rfl rfl (R124 (d := d + 0) (h := h4) hL hW) (fun h5 hL hW => ?_)
    refine kst rfl rfl ?_
    refine wgetP (b := 9) rfl (oK11 hL rfl) rfl (oP11_4 hL) ?_
    refine kst rfl rfl ?_
    refine wcvV rfl (oK9 hL rfl) rfl rfl (R124 (d := d + 0) (h := h5) hL hW) (fun h6 hL hW => ?_)
    refine kst rfl rfl ?_
    refine wgetP (b := 9) rfl (oK11 hL rfl) rfl (oP11_4 hL) ?_
    refine wgetI rfl (oK9 hL rfl) rfl ?_
    refine kre rfl rfl ?_
    exact ⟨_, _, rfl, hL, hW⟩
  · refine kst rfl rfl ?_
    refine kre rfl rfl ?_
    exact ⟨_, _, rfl, hL, hW⟩
/-- 194: FourPots refuse -/
def W194 (a1 : Int32) (h : TH) (C : Int32 → TH → Prop) : Prop :=
  C (-1) (h.sI 0 0 a1)

theorem R194 {d : Nat} {a1 : Int32} {h : TH} {C : Int32 → TH → Prop} (hL : Lay h) (hW : W194 a1 h C) : xPk d 194 [.ref 0, .int a1] h.X (postI C) := by
  unfold W194 at hW
  refine kin (Nat.le_of_ble_eq_true rfl) ?_
  iterate 2 (refine kst rfl rfl ?_)
  refine wputI rfl (oK11 hL rfl) rfl ?_
  replace hL : Lay (h.sI 0 0 a1) := lsI hL
  refine kst rfl rfl ?_
  refine kre rfl rfl ?_
  exact ⟨_, _, rfl, hL, hW⟩
/-- 192: FourPots here -/
def W192 (h : TH) (C : Nat → Prop) : Prop :=
  inb (h.I 0 10) 4 ∧ C (43 + 24 * ix (h.I 0 10))

theorem R192 {d : Nat} {h : TH} {C : Nat → Prop} (hL : Lay h) (hW : W192  h C) : xPk d 192 [.ref 0] h.X (qostM h C) := by
  unfold W192 at hW
  refine kin (Nat.le_of_ble_eq_true rfl) ?_
  refine kst rfl rfl ?_
  refine wgetP (b := 40) rfl (oK11 hL rfl) rfl (oP11_7 hL) ?_
  refine kst rfl rfl ?_
  refine wgetI rfl (oK11 hL rfl) rfl ?_
  obtain ⟨q1, hW⟩ := hW
  refine waald (kd := 5) rfl (aK11_7 hL) (by decide) (aN11_7 hL) (by decide) q1 (aA11_7 hL q1) ?_
  refine kre rfl rfl ?_
  exact ⟨_, rfl, (aI11_7 q1), hW⟩
/-- 193: FourPots answer -/
def W193 (a1 : Int32) (h : TH) (C : Int32 → TH → Prop) : Prop :=
  C a1 (h.sI 0 0 0)

theorem R193 {d : Nat} {a1 : Int32} {h : TH} {C : Int32 → TH → Prop} (hL : Lay h) (hW : W193 a1 h C) : xPk d 193 [.ref 0, .int a1] h.X (postI C) := by
  unfold W193 at hW
  refine kin (Nat.le_of_ble_eq_true rfl) ?_
  iterate 2 (refine kst rfl rfl ?_)
  refine wputI rfl (oK11 hL rfl) rfl ?_
  replace hL : Lay (h.sI 0 0 0) := lsI hL
  refine kst rfl rfl ?_
  refine kre rfl rfl ?_
  exact ⟨_, _, rfl, hL, hW⟩
/-- 159: FourPots menu -/
def W159 (a1 : Int32) (h : TH) (C : Int32 → TH → Prop) : Prop :=
  if a1 < 0 then (W194 1 h (fun v1 h2 => C v1 h2)) else (if a1 ≤ (h.I 9 1) then (W76 a1 h (fun v3 h4 => W125  h4 (fun h5 => if ¬ v3 = 0 then (W192  h5 (fun v6 => W53 v6 16 h5 (fun h7 => inb (h7.I 0 10) 4 ∧ W14 (65 + 24 * ix (h7.I 0 10)) h7 (fun h8 => inb (h8.I 0 10) 4 ∧ W88 (58 + 24 * ix (h8.I 0 10)) h8 (fun h9 => W192  h9 (fun v10 => W193 (h9.I v10 1) h9 (fun v11 h12 => C v11 h12))))))) else (W194 9 h5 (fun v13 h14 => C v13 h14))))) else (W194 1 h (fun v15 h16 => C v15 h16)))

theorem R159 {d : Nat} {a1 : Int32} {h : TH} {C : Int32 → TH → Prop} (hL : Lay h) (hW : W159 a1 h C) : xPk (d + 7) 159 [.ref 0, .int a1] h.X (postI C) := by
  unfold W159 at hW
  refine kin (Nat.le_of_ble_eq_true rfl) ?_
  refine kst rfl rfl ?_
  refine wif_lt rfl hW (fun hW => ?_) (fun hW => ?_)
  · iterate 2 (refine kst rfl rfl ?_)
    refine wcvI rfl (oK11 hL rfl) rfl rfl (R194 (d := d + 6) (h := h) hL hW) (fun v1 h2 hL hW => ?_)
    refine kre rfl rfl ?_
    exact ⟨_, _, rfl, hL, hW⟩
  · iterate 2 (refine kst rfl rfl ?_)
    refine wgetP (b := 9) rfl (oK11 hL rfl) rfl (oP11_4 hL) ?_
    refine wgetI rfl (oK9 hL rfl) rfl ?_
    refine wcm_le rfl hW (fun hW => ?_) (fun hW => ?_)
    · refine kst rfl rfl ?_
      refine wgetP (b := 15) rfl (oK11 hL rfl) rfl (oP11_5 hL) ?_
      refine kst rfl rfl ?_
      refine wcvI rfl (oK4 hL rfl) rfl rfl (R76 (d := d + 0) (h := h) hL hW) (fun v3 h4 hL hW => ?_)
      iterate 2 (refine kst rfl rfl ?_)
      refine wgetP (b := 9) rfl (oK11 hL rfl) rfl (oP11_4 hL) ?_
      refine wcvV rfl (oK9 hL rfl) rfl rfl (R125 (d := d + 6) (h := h4) hL hW) (fun h5 hL hW => ?_)
      refine kst rfl rfl ?_
      refine wif_ne rfl hW (fun hW => ?_) (fun hW => ?_)
      · refine kst rfl rfl ?_
        refine qcvM rfl (oK11 hL rfl) rfl rfl (R192 (d := d + 6) (h := h5) hL hW) (fun v6 hmv6 hW => ?_)
        refine kst rfl rfl ?_
        refine wgetP (b := 15) rfl (oK11 hL rfl) rfl (oP11_5 hL) ?_
        refine wgetP (b := 16) rfl (oK4 hL rfl) rfl (oP4_1 hL) ?_
        refine wcvV rfl (oK3 hL hmv6) rfl rfl (R53 (d := d + 5) (h := h5) hmv6 is_4_1 hL hW) (fun h7 hL hW => ?_)
        refine kst rfl rfl ?_
        refine wgetP (b := 42) rfl (oK11 hL rfl) rfl (oP11_9 hL) ?_
        refine kst rfl rfl ?_
        refine wgetI rfl (oK11 hL rfl) rfl ?_
        obtain ⟨q1, hW⟩ := hW
        refine waald (kd := 4) rfl (aK11_9 hL) (by decide) (aN11_9 hL) (by decide) q1 (aA11_9 hL q1) ?_
        refine wcvV rfl (oK1 hL (aI11_9 q1)) rfl rfl (R14 (d := d + 6) (h := h7) (aI11_9 q1) hL hW) (fun h8 hL hW => ?_)
        refine kst rfl rfl ?_
        refine wgetP (b := 41) rfl (oK11 hL rfl) rfl (oP11_8 hL) ?_
        refine kst rfl rfl ?_
        refine wgetI rfl (oK11 hL rfl) rfl ?_
        obtain ⟨q2, hW⟩ := hW
        refine waald (kd := 6) rfl (aK11_8 hL) (by decide) (aN11_8 hL) (by decide) q2 (aA11_8 hL q2) ?_
        refine wcvV rfl (oK5 hL (aI11_8 q2)) rfl rfl (R88 (d := d + 6) (h := h8) (aI11_8 q2) hL hW) (fun h9 hL hW => ?_)
        iterate 2 (refine kst rfl rfl ?_)
        refine qcvM rfl (oK11 hL rfl) rfl rfl (R192 (d := d + 6) (h := h9) hL hW) (fun v10 hmv10 hW => ?_)
        refine wgetI rfl (oK3 hL hmv10) rfl ?_
        refine wcvI rfl (oK11 hL rfl) rfl rfl (R193 (d := d + 6) (h := h9) hL hW) (fun v11 h12 hL hW => ?_)
        refine kre rfl rfl ?_
        exact ⟨_, _, rfl, hL, hW⟩
      · iterate 2 (refine kst rfl rfl ?_)
        refine wcvI rfl (oK11 hL rfl) rfl rfl (R194 (d := d + 6) (h := h5) hL hW) (fun v13 h14 hL hW => ?_)
        refine kre rfl rfl ?_
        exact ⟨_, _, rfl, hL, hW⟩
    · iterate 2 (refine kst rfl rfl ?_)
      refine wcvI rfl (oK11 hL rfl) rfl rfl (R194 (d := d + 6) (h := h) hL hW) (fun v15 h16 hL hW => ?_)
      refine kre rfl rfl ?_
      exact ⟨_, _, rfl, hL, hW⟩
/-- 160: FourPots plan -/
def W160 (a1 : Int32) (h : TH) (C : Int32 → TH → Prop) : Prop :=
  if a1 < 0 then (W194 1 h (fun v1 h2 => C v1 h2)) else (if (h.I 9 1) < a1 then (W194 1 h (fun v3 h4 => C v3 h4)) else (if a1 ≤ 300 then (W192  h (fun v5 => W100 v5 a1 h (fun v6 h7 => W125  h7 (fun h8 => if ¬ v6 = 0 then (inb (h8.I 0 10) 4 ∧ W89 (58 + 24 * ix (h8.I 0 10)) 32 h8 (fun h9 => inb (h9.I 0 10) 4 ∧ W193 (h9.I (58 + 24 * ix (h9.I 0 10)) 1) h9 (fun v10 h11 => C v10 h11))) else (W194 9 h8 (fun v12 h13 => C v12 h13)))))) else (W194 1 h (fun v14 h15 => C v14 h15))))

theorem R160 {d : Nat} {a1 : Int32} {h : TH} {C : Int32 → TH → Prop} (hL : Lay h) (hW : W160 a1 h C) : xPk (d + 7) 160 [.ref 0, .int a1] h.X (postI C) := by
  unfold W160 at hW
  refine kin (Nat.le_of_ble_eq_true rfl) ?_
  refine kst rfl rfl ?_
  refine wif_lt rfl hW (fun hW => ?_) (fun hW => ?_)
  · iterate 2 (refine kst rfl rfl ?_)
    refine wcvI rfl (oK11 hL rfl) rfl rfl (R194 (d := d + 6) (h := h) hL hW) (fun v1 h2 hL hW => ?_)
    refine kre rfl rfl ?_
    exact ⟨_, _, rfl, hL, hW⟩
  · iterate 2 (refine kst rfl rfl ?_)
    refine wgetP (b := 9) rfl (oK11 hL rfl) rfl (oP11_4 hL) ?_
    refine wgetI rfl (oK9 hL rfl) rfl ?_
    refine wcm_gt rfl hW (fun hW => ?_) (fun hW => ?_)
    · iterate 2 (refine kst rfl rfl ?_)
      refine wcvI rfl (oK11 hL rfl) rfl rfl (R194 (d := d + 6) (h := h) hL hW) (fun v3 h4 hL hW => ?_)
      refine kre rfl rfl ?_
      exact ⟨_, _, rfl, hL, hW⟩
    · iterate 2 (refine kst rfl rfl ?_)
      refine wcm_le rfl hW (fun hW => ?_) (fun hW => ?_)
      · refine kst rfl rfl ?_
        refine wgetP (b := 31) rfl (oK11 hL rfl) rfl (oP11_6 hL) ?_
        refine kst rfl rfl ?_
        refine qcvM rfl (oK11 hL rfl) rfl rfl (R192 (d := d + 6) (h := h) hL hW) (fun v5 hmv5 hW => ?_)
        refine kst rfl rfl ?_
        refine wcvI rfl (oK6 hL rfl) rfl rfl (R100 (d := d + 0) (h := h) hmv5 hL hW) (fun v6 h7 hL hW => ?_)
        iterate 2 (refine kst rfl rfl ?_)
        refine wgetP (b := 9) rfl (oK11 hL rfl) rfl (oP11_4 hL) ?_
        refine wcvV rfl (oK9 hL rfl) rfl rfl (R125 (d := d + 6) (h := h7) hL hW) (fun h8 hL hW => ?_)
        refine kst rfl rfl ?_
        refine wif_ne rfl hW (fun hW => ?_) (fun hW => ?_)
        · refine kst rfl rfl ?_
          refine wgetP (b := 41) rfl (oK11 hL rfl) rfl (oP11_8 hL) ?_
          refine kst rfl rfl ?_
          refine wgetI rfl (oK11 hL rfl) rfl ?_
          obtain ⟨q1, hW⟩ := hW
          refine waald (kd := 6) rfl (aK11_8 hL) (by decide) (aN11_8 hL) (by decide) q1 (aA11_8 hL q1) ?_
          refine kst rfl rfl ?_
          refine wgetP (b := 31) rfl (oK11 hL rfl) rfl (oP11_6 hL) ?_
          refine wgetP (b := 32) rfl (oK6 hL rfl) rfl (oP6_1 hL) ?_
          refine wcvV rfl (oK5 hL (aI11_8 q1)) rfl rfl (R89 (d := d + 6) (h := h8) (aI11_8 q1) is_6_1 hL hW) (fun h9 hL hW => ?_)
          iterate 2 (refine kst rfl rfl ?_)
          refine wgetP (b := 41) rfl (oK11 hL rfl) rfl (oP11_8 hL) ?_
          refine kst rfl rfl ?_
          refine wgetI rfl (oK11 hL rfl) rfl ?_
          obtain ⟨q2, hW⟩ := hW
          refine waald (kd := 6) rfl (aK11_8 hL) (by decide) (aN11_8 hL) (by decide) q2 (aA11_8 hL q2) ?_
          refine wgetI rfl (oK5 hL (aI11_8 q2)) rfl ?_
          refine wcvI rfl (oK11 hL rfl) rfl rfl (R193 (d := d + 6) (h := h9) hL hW) (fun v10 h11 hL hW => ?_)
          refine kre rfl rfl ?_
          exact ⟨_, _, rfl, hL, hW⟩
        · iterate 2 (refine kst rfl rfl ?_)
          refine wcvI rfl (oK11 hL rfl) rfl rfl (R194 (d := d + 6) (h := h8) hL hW) (fun v12 h13 hL hW => ?_)
          refine kre rfl rfl ?_
          exact ⟨_, _, rfl, hL, hW⟩
      · iterate 2 (refine kst rfl rfl ?_)
        refine wcvI rfl (oK11 hL rfl) rfl rfl (R194 (d := d + 6) (h := h) hL hW) (fun v14 h15 hL hW => ?_)
        refine kre rfl rfl ?_
        exact ⟨_, _, rfl, hL, hW⟩
/-- 161: FourPots fault -/
def W161 (a1 : Int32) (h : TH) (C : Int32 → Prop) : Prop :=
  if ¬ a1 = 0 then (if ¬ a1 = 1 then (C (-1)) else (C (h.I 9 11))) else (C (h.I 9 10))

theorem R161 {d : Nat} {a1 : Int32} {h : TH} {C : Int32 → Prop} (hL : Lay h) (hW : W161 a1 h C) : xPk d 161 [.ref 0, .int a1] h.X (qostI h C) := by
  unfold W161 at hW
  refine kin (Nat.le_of_ble_eq_true rfl) ?_
  refine kst rfl rfl ?_
  refine wif_ne rfl hW (fun hW => ?_) (fun hW => ?_)
  · iterate 2 (refine kst rfl rfl ?_)
    refine wcm_ne rfl hW (fun hW => ?_) (fun hW => ?_)
    · refine kst rfl rfl ?_
      refine kre rfl rfl ?_
      exact ⟨_, rfl, hW⟩
    · refine kst rfl rfl ?_
      refine wgetP (b := 9) rfl (oK11 hL rfl) rfl (oP11_4 hL) ?_
      refine wgetI rfl (oK9 hL rfl) rfl ?_
      refine kst rfl rfl ?_
      refine kre rfl rfl ?_
      exact ⟨_, rfl, hW⟩
  · refine kst rfl rfl ?_
    refine wgetP (b := 9) rfl (oK11 hL rfl) rfl (oP11_4 hL) ?_
    refine wgetI rfl (oK9 hL rfl) rfl ?_
    refine kre rfl rfl ?_
    exact ⟨_, rfl, hW⟩
/-- 162: FourPots told -/
def W162 (a1 : Int32) (h : TH) (C : Int32 → TH → Prop) : Prop :=
  inb (h.I 0 10) 4 ∧ if a1 = 0 then (W192  h (fun v1 => W193 (h.I v1 1) h (fun v2 h3 => C v2 h3))) else if a1 = 1 then (W192  h (fun v4 => W193 (h.I v4 2) h (fun v5 h6 => C v5 h6))) else if a1 = 2 then (W193 (h.I (65 + 24 * ix (h.I 0 10)) 0) h (fun v7 h8 => C v7 h8)) else if a1 = 3 then (W193 (h.I (65 + 24 * ix (h.I 0 10)) 1) h (fun v9 h10 => C v9 h10)) else if a1 = 4 then (W193 (h.I (65 + 24 * ix (h.I 0 10)) 3) h (fun v11 h12 => C v11 h12)) else if a1 = 5 then (W193 (h.I (65 + 24 * ix (h.I 0 10)) 4) h (fun v13 h14 => C v13 h14)) else (W194 1 h (fun v15 h16 => C v15 h16))

theorem R162 {d : Nat} {a1 : Int32} {h : TH} {C : Int32 → TH → Prop} (hL : Lay h) (hW : W162 a1 h C) : xPk (d + 1) 162 [.ref 0, .int a1] h.X (postI C) := by
  unfold W162 at hW
  refine kin (Nat.le_of_ble_eq_true rfl) ?_
  refine kst rfl rfl ?_
  refine wgetP (b := 42) rfl (oK11 hL rfl) rfl (oP11_9 hL) ?_
  refine kst rfl rfl ?_
  refine wgetI rfl (oK11 hL rfl) rfl ?_
  obtain ⟨q1, hW⟩ := hW
  refine waald (kd := 4) rfl (aK11_9 hL) (by decide) (aN11_9 hL) (by decide) q1 (aA11_9 hL q1) ?_
  iterate 2 (refine kst rfl rfl ?_)
  refine wsw hW (fun c0 hW => ?_) (fun c0 hW => ?_)
  · refine wswi (t := 48) rfl (fun _ => rfl) (swc c0 rfl) ?_
    iterate 2 (refine kst rfl rfl ?_)
    refine qcvM rfl (oK11 hL rfl) rfl rfl (R192 (d := d + 0) (h := h) hL hW) (fun v1 hmv1 hW => ?_)
    refine wgetI rfl (oK3 hL hmv1) rfl ?_
    refine wcvI rfl (oK11 hL rfl) rfl rfl (R193 (d := d + 0) (h := h) hL hW) (fun v2 h3 hL hW => ?_)
    refine kre rfl rfl ?_
    exact ⟨_, _, rfl, hL, hW⟩
  refine wsw hW (fun c1 hW => ?_) (fun c1 hW => ?_)
  · refine wswi (t := 60) rfl (fun _ => rfl) (swc c1 rfl) ?_
    iterate 2 (refine kst rfl rfl ?_)
    refine qcvM rfl (oK11 hL rfl) rfl rfl (R192 (d := d + 0) (h := h) hL hW) (fun v4 hmv4 hW => ?_)
    refine wgetI rfl (oK3 hL hmv4) rfl ?_
    refine wcvI rfl (oK11 hL rfl) rfl rfl (R193 (d := d + 0) (h := h) hL hW) (fun v5 h6 hL hW => ?_)
    refine kre rfl rfl ?_
    exact ⟨_, _, rfl, hL, hW⟩
  refine wsw hW (fun c2 hW => ?_) (fun c2 hW => ?_)
  · refine wswi (t := 72) rfl (fun _ => rfl) (swc c2 rfl) ?_
    iterate 2 (refine kst rfl rfl ?_)
    refine wgetI rfl (oK1 hL (aI11_9 q1)) rfl ?_
    refine wcvI rfl (oK11 hL rfl) rfl rfl (R193 (d := d + 0) (h := h) hL hW) (fun v7 h8 hL hW => ?_)
    refine kre rfl rfl ?_
    exact ⟨_, _, rfl, hL, hW⟩
  refine wsw hW (fun c3 hW => ?_) (fun c3 hW => ?_)
  · refine wswi (t := 81) rfl (fun _ => rfl) (swc c3 rfl) ?_
    iterate 2 (refine kst rfl rfl ?_)
    refine wgetI rfl (oK1 hL (aI11_9 q1)) rfl ?_
    refine wcvI rfl (oK11 hL rfl) rfl rfl (R193 (d := d + 0) (h := h) hL hW) (fun v9 h10 hL hW => ?_)
    refine kre rfl rfl ?_
    exact ⟨_, _, rfl, hL, hW⟩
  refine wsw hW (fun c4 hW => ?_) (fun c4 hW => ?_)
  · refine wswi (t := 90) rfl (fun _ => rfl) (swc c4 rfl) ?_
    iterate 2 (refine kst rfl rfl ?_)
    refine wgetI rfl (oK1 hL (aI11_9 q1)) rfl ?_
    refine wcvI rfl (oK11 hL rfl) rfl rfl (R193 (d := d + 0) (h := h) hL hW) (fun v11 h12 hL hW => ?_)
    refine kre rfl rfl ?_
    exact ⟨_, _, rfl, hL, hW⟩
  refine wsw hW (fun c5 hW => ?_) (fun c5 hW => ?_)
  · refine wswi (t := 99) rfl (fun _ => rfl) (swc c5 rfl) ?_
    iterate 2 (refine kst rfl rfl ?_)
    refine wgetI rfl (oK1 hL (aI11_9 q1)) rfl ?_
    refine wcvI rfl (oK11 hL rfl) rfl rfl (R193 (d := d + 0) (h := h) hL hW) (fun v13 h14 hL hW => ?_)
    refine kre rfl rfl ?_
    exact ⟨_, _, rfl, hL, hW⟩
  refine wswi (t := 108) rfl (fun _ => rfl) (tswD (by have z0 := i32ne (k := 0) c0 rfl; have z1 := i32ne (k := 1) c1 rfl; have z2 := i32ne (k := 2) c2 rfl; have z3 := i32ne (k := 3) c3 rfl; have z4 := i32ne (k := 4) c4 rfl; have z5 := i32ne (k := 5) c5 rfl; first | omega | (have z9 := i32ne c0 rfl; omega)) rfl) ?_
  iterate 2 (refine kst rfl rfl ?_)
  refine wcvI rfl (oK11 hL rfl) rfl rfl (R194 (d := d + 0) (h := h) hL hW) (fun v15 h16 hL hW => ?_)
  refine kre rfl rfl ?_
  exact ⟨_, _, rfl, hL, hW⟩
/-- 163: FourPots dish -/
def B163_52 (a1 : Int32) (a2 : Int32) (x3 : Nat) (h : TH) (C : Int32 → TH → Prop) : Prop :=
  W64 x3 a1 a2 h (fun v7 h8 => W193 v7 h8 (fun v9 h10 => C v9 h10))
def W163 (a1 : Int32) (a2 : Int32) (h : TH) (C : Int32 → TH → Prop) : Prop :=
  W192  h (fun v1 => W55 v1 a1 h (fun v2 => if v2 = 0 then (W194 1 h (fun v3 h4 => C v3 h4)) else (if a2 < 0 then (W194 1 h (fun v5 h6 => C v5 h6)) else (if a2 ≤ 8 then (if ¬ a2 = 7 then (B163_52 a1 a2 v1 h C) else (inb a1 12 ∧ if ¬ (h.I (v1 + 7) (ix a1)) = (-1) then (B163_52 a1 a2 v1 h C) else (W194 6 h (fun v7 h8 => C v7 h8)))) else (W194 1 h (fun v9 h10 => C v9 h10))))))

theorem R163_52 {d : Nat} {a1 : Int32} {a2 : Int32} {x3 : Nat} {h : TH} {C : Int32 → TH → Prop} (hx3 : is3 x3) (hL : Lay h) (hW : B163_52 a1 a2 x3 h C) : xEk (d + 2) 163 (52, [(0, .ref 0), (1, .int a1), (2, .int a2), (3, .ref x3)], [], h.X) (postI C) := by
  unfold B163_52 at hW
  iterate 4 (refine kst rfl rfl ?_)
  refine wcvI rfl (oK3 hL hx3) rfl rfl (R64 (d := d + 0) (h := h) hx3 hL hW) (fun v7 h8 hL hW => ?_)
  refine wcvI rfl (oK11 hL rfl) rfl rfl (R193 (d := d + 1) (h := h8) hL hW) (fun v9 h10 hL hW => ?_)
  refine kre rfl rfl ?_
  exact ⟨_, _, rfl, hL, hW⟩
theorem R163 {d : Nat} {a1 : Int32} {a2 : Int32} {h : TH} {C : Int32 → TH → Prop} (hL : Lay h) (hW : W163 a1 a2 h C) : xPk (d + 2) 163 [.ref 0, .int a1, .int a2] h.X (postI C) := by
  unfold W163 at hW
  refine kin (Nat.le_of_ble_eq_true rfl) ?_
  refine kst rfl rfl ?_
  refine qcvM rfl (oK11 hL rfl) rfl rfl (R192 (d := d + 1) (h := h) hL hW) (fun v1 hmv1 hW => ?_)
  iterate 3 (refine kst rfl rfl ?_)
  refine qcvI rfl (oK3 hL hmv1) rfl rfl (R55 (d := d + 1) (h := h) hmv1 hL hW) (fun v2 hW => ?_)
  refine wif_eq rfl hW (fun hW => ?_) (fun hW => ?_)
  · iterate 2 (refine kst rfl rfl ?_)
    refine wcvI rfl (oK11 hL rfl) rfl rfl (R194 (d := d + 1) (h := h) hL hW) (fun v3 h4 hL hW => ?_)
    refine kre rfl rfl ?_
    exact ⟨_, _, rfl, hL, hW⟩
  · refine kst rfl rfl ?_
    refine wif_lt rfl hW (fun hW => ?_) (fun hW => ?_)
    · iterate 2 (refine kst rfl rfl ?_)
      refine wcvI rfl (oK11 hL rfl) rfl rfl (R194 (d := d + 1) (h := h) hL hW) (fun v5 h6 hL hW => ?_)
      refine kre rfl rfl ?_
      exact ⟨_, _, rfl, hL, hW⟩
    · iterate 2 (refine kst rfl rfl ?_)
      refine wcm_le rfl hW (fun hW => ?_) (fun hW => ?_)
      · iterate 2 (refine kst rfl rfl ?_)
        refine wcm_ne rfl hW (fun hW => ?_) (fun hW => ?_)
        · refine wjp ?_ (R163_52 (h := h) hmv1 hL hW)
          exact ⟨rfl, rfl, rfl, rfl, trivial⟩
        · refine kst rfl rfl ?_
          refine wgetP (b := (v1 + 7)) rfl (oK3 hL hmv1) rfl (oP3_11 hL hmv1) ?_
          refine kst rfl rfl ?_
          obtain ⟨q1, hW⟩ := hW
          refine wald rfl (Or.inl (aK3_11 hL hmv1)) (aN3_11 hL hmv1) (by decide) q1 ?_
          refine kst rfl rfl ?_
          refine wcm_ne rfl hW (fun hW => ?_) (fun hW => ?_)
          · refine wjp ?_ (R163_52 (h := h) hmv1 hL hW)
            exact ⟨rfl, rfl, rfl, rfl, trivial⟩
          · iterate 2 (refine kst rfl rfl ?_)
            refine wcvI rfl (oK11 hL rfl) rfl rfl (R194 (d := d + 1) (h := h) hL hW) (fun v7 h8 hL hW => ?_)
            refine kre rfl rfl ?_
            exact ⟨_, _, rfl, hL, hW⟩
      · iterate 2 (refine kst rfl rfl ?_)
        refine wcvI rfl (oK11 hL rfl) rfl rfl (R194 (d := d + 1) (h := h) hL hW) (fun v9 h10 hL hW => ?_)
        refine kre rfl rfl ?_
        exact ⟨_, _, rfl, hL, hW⟩
/-- 164: FourPots pot -/
def W164 (a1 : Int32) (h : TH) (C : Int32 → TH → Prop) : Prop :=
  W192  h (fun v1 => if a1 < 0 then (W194 6 h (fun v2 h3 => C v2 h3)) else (if a1 < (h.I v1 2) then (inb a1 8 ∧ W193 (h.I (v1 + 8) (ix a1)) h (fun v4 h5 => C v4 h5)) else (W194 6 h (fun v6 h7 => C v6 h7))))

theorem R164 {d : Nat} {a1 : Int32} {h : TH} {C : Int32 → TH → Prop} (hL : Lay h) (hW : W164 a1 h C) : xPk (d + 1) 164 [.ref 0, .int a1] h.X (postI C) := by
  unfold W164 at hW
  refine kin (Nat.le_of_ble_eq_true rfl) ?_
  refine kst rfl rfl ?_
  refine qcvM rfl (oK11 hL rfl) rfl rfl (R192 (d := d + 0) (h := h) hL hW) (fun v1 hmv1 hW => ?_)
  iterate 2 (refine kst rfl rfl ?_)
  refine wif_lt rfl hW (fun hW => ?_) (fun hW => ?_)
  · iterate 2 (refine kst rfl rfl ?_)
    refine wcvI rfl (oK11 hL rfl) rfl rfl (R194 (d := d + 0) (h := h) hL hW) (fun v2 h3 hL hW => ?_)
    refine kre rfl rfl ?_
    exact ⟨_, _, rfl, hL, hW⟩
  · iterate 2 (refine kst rfl rfl ?_)
    refine wgetI rfl (oK3 hL hmv1) rfl ?_
    refine wcm_lt rfl hW (fun hW => ?_) (fun hW => ?_)
    · iterate 2 (refine kst rfl rfl ?_)
      refine wgetP (b := (v1 + 8)) rfl (oK3 hL hmv1) rfl (oP3_12 hL hmv1) ?_
      refine kst rfl rfl ?_
      obtain ⟨q1, hW⟩ := hW
      refine wald rfl (Or.inl (aK3_12 hL hmv1)) (aN3_12 hL hmv1) (by decide) q1 ?_
      refine wcvI rfl (oK11 hL rfl) rfl rfl (R193 (d := d + 0) (h := h) hL hW) (fun v4 h5 hL hW => ?_)
      refine kre rfl rfl ?_
      exact ⟨_, _, rfl, hL, hW⟩
    · iterate 2 (refine kst rfl rfl ?_)
      refine wcvI rfl (oK11 hL rfl) rfl rfl (R194 (d := d + 0) (h := h) hL hW) (fun v6 h7 hL hW => ?_)
      refine kre rfl rfl ?_
      exact ⟨_, _, rfl, hL, hW⟩
/-- 165: FourPots fits -/
def W165 (a1 : Int32) (h : TH) (C : Int32 → TH → Prop) : Prop :=
  W192  h (fun v1 => W56 v1 a1 h (fun v2 => if ¬ v2 = 0 then (W192  h (fun v3 => W112 (v3 + 12) a1 h (fun v4 => if v4 = 0 then (W193 0 h (fun v5 h6 => C v5 h6)) else (W193 1 h (fun v7 h8 => C v7 h8))))) else (W194 1 h (fun v9 h10 => C v9 h10))))

theorem R165 {d : Nat} {a1 : Int32} {h : TH} {C : Int32 → TH → Prop} (hL : Lay h) (hW : W165 a1 h C) : xPk (d + 2) 165 [.ref 0, .int a1] h.X (postI C) := by
  unfold W165 at hW
  refine kin (Nat.le_of_ble_eq_true rfl) ?_
  refine kst rfl rfl ?_
  refine qcvM rfl (oK11 hL rfl) rfl rfl (R192 (d := d + 1) (h := h) hL hW) (fun v1 hmv1 hW => ?_)
  refine kst rfl rfl ?_
  refine qcvI rfl (oK3 hL hmv1) rfl rfl (R56 (d := d + 1) (h := h) hmv1 hL hW) (fun v2 hW => ?_)
  refine wif_ne rfl hW (fun hW => ?_) (fun hW => ?_)
  · iterate 2 (refine kst rfl rfl ?_)
    refine qcvM rfl (oK11 hL rfl) rfl rfl (R192 (d := d + 1) (h := h) hL hW) (fun v3 hmv3 hW => ?_)
    refine wgetP (b := (v3 + 12)) rfl (oK3 hL hmv3) rfl (oP3_16 hL hmv3) ?_
    refine kst rfl rfl ?_
    refine qcvI rfl (oK7 hL (is_3_16 hmv3)) rfl rfl (R112 (d := d + 0) (h := h) (is_3_16 hmv3) hL hW) (fun v4 hW => ?_)
    refine wif_eq rfl hW (fun hW => ?_) (fun hW => ?_)
    · refine kst rfl rfl ?_
      refine wcvI rfl (oK11 hL rfl) rfl rfl (R193 (d := d + 1) (h := h) hL hW) (fun v5 h6 hL hW => ?_)
      refine kre rfl rfl ?_
      exact ⟨_, _, rfl, hL, hW⟩
    · iterate 2 (refine kst rfl rfl ?_)
      refine wcvI rfl (oK11 hL rfl) rfl rfl (R193 (d := d + 1) (h := h) hL hW) (fun v7 h8 hL hW => ?_)
      refine kre rfl rfl ?_
      exact ⟨_, _, rfl, hL, hW⟩
  · iterate 2 (refine kst rfl rfl ?_)
    refine wcvI rfl (oK11 hL rfl) rfl rfl (R194 (d := d + 1) (h := h) hL hW) (fun v9 h10 hL hW => ?_)
    refine kre rfl rfl ?_
    exact ⟨_, _, rfl, hL, hW⟩
/-- 166: FourPots needed -/
def W166 (a1 : Int32) (h : TH) (C : Int32 → TH → Prop) : Prop :=
  W192  h (fun v1 => W56 v1 a1 h (fun v2 => if ¬ v2 = 0 then (W192  h (fun v3 => W67 v3 a1 h (fun v4 => W193 v4 h (fun v5 h6 => C v5 h6)))) else (W194 1 h (fun v7 h8 => C v7 h8))))

theorem R166 {d : Nat} {a1 : Int32} {h : TH} {C : Int32 → TH → Prop} (hL : Lay h) (hW : W166 a1 h C) : xPk (d + 1) 166 [.ref 0, .int a1] h.X (postI C) := by
  unfold W166 at hW
  refine kin (Nat.le_of_ble_eq_true rfl) ?_
  refine kst rfl rfl ?_
  refine qcvM rfl (oK11 hL rfl) rfl rfl (R192 (d := d + 0) (h := h) hL hW) (fun v1 hmv1 hW => ?_)
  refine kst rfl rfl ?_
  refine qcvI rfl (oK3 hL hmv1) rfl rfl (R56 (d := d + 0) (h := h) hmv1 hL hW) (fun v2 hW => ?_)
  refine wif_ne rfl hW (fun hW => ?_) (fun hW => ?_)
  · iterate 2 (refine kst rfl rfl ?_)
    refine qcvM rfl (oK11 hL rfl) rfl rfl (R192 (d := d + 0) (h := h) hL hW) (fun v3 hmv3 hW => ?_)
    refine kst rfl rfl ?_
    refine qcvI rfl (oK3 hL hmv3) rfl rfl (R67 (d := d + 0) (h := h) hmv3 hL hW) (fun v4 hW => ?_)
    refine wcvI rfl (oK11 hL rfl) rfl rfl (R193 (d := d + 0) (h := h) hL hW) (fun v5 h6 hL hW => ?_)
    refine kre rfl rfl ?_
    exact ⟨_, _, rfl, hL, hW⟩
  · iterate 2 (refine kst rfl rfl ?_)
    refine wcvI rfl (oK11 hL rfl) rfl rfl (R194 (d := d + 0) (h := h) hL hW) (fun v7 h8 hL hW => ?_)
    refine kre rfl rfl ?_
    exact ⟨_, _, rfl, hL, hW⟩
/-- 198: FourPots afterStep -/
def W198 (a1 : Int32) (h : TH) (C : Int32 → TH → Prop) : Prop :=
  if ¬ a1 = 0 then (inb (h.I 0 10) 4 ∧ W192  h (fun v1 => W26 (65 + 24 * ix (h.I 0 10)) v1 h (fun h2 => inb (h2.I 0 10) 4 ∧ W193 (h2.I (65 + 24 * ix (h2.I 0 10)) 0) h2 (fun v3 h4 => C v3 h4)))) else (W194 7 h (fun v5 h6 => C v5 h6))

theorem R198 {d : Nat} {a1 : Int32} {h : TH} {C : Int32 → TH → Prop} (hL : Lay h) (hW : W198 a1 h C) : xPk (d + 2) 198 [.ref 0, .int a1] h.X (postI C) := by
  unfold W198 at hW
  refine kin (Nat.le_of_ble_eq_true rfl) ?_
  refine kst rfl rfl ?_
  refine wif_ne rfl hW (fun hW => ?_) (fun hW => ?_)
  · refine kst rfl rfl ?_
    refine wgetP (b := 42) rfl (oK11 hL rfl) rfl (oP11_9 hL) ?_
    refine kst rfl rfl ?_
    refine wgetI rfl (oK11 hL rfl) rfl ?_
    obtain ⟨q1, hW⟩ := hW
    refine waald (kd := 4) rfl (aK11_9 hL) (by decide) (aN11_9 hL) (by decide) q1 (aA11_9 hL q1) ?_
    refine kst rfl rfl ?_
    refine qcvM rfl (oK11 hL rfl) rfl rfl (R192 (d := d + 1) (h := h) hL hW) (fun v1 hmv1 hW => ?_)
    refine wcvV rfl (oK1 hL (aI11_9 q1)) rfl rfl (R26 (d := d + 0) (h := h) (aI11_9 q1) hmv1 hL hW) (fun h2 hL hW => ?_)
    iterate 2 (refine kst rfl rfl ?_)
    refine wgetP (b := 42) rfl (oK11 hL rfl) rfl (oP11_9 hL) ?_
    refine kst rfl rfl ?_
    refine wgetI rfl (oK11 hL rfl) rfl ?_
    obtain ⟨q2, hW⟩ := hW
    refine waald (kd := 4) rfl (aK11_9 hL) (by decide) (aN11_9 hL) (by decide) q2 (aA11_9 hL q2) ?_
    refine wgetI rfl (oK1 hL (aI11_9 q2)) rfl ?_
    refine wcvI rfl (oK11 hL rfl) rfl rfl (R193 (d := d + 1) (h := h2) hL hW) (fun v3 h4 hL hW => ?_)
    refine kre rfl rfl ?_
    exact ⟨_, _, rfl, hL, hW⟩
  · iterate 2 (refine kst rfl rfl ?_)
    refine wcvI rfl (oK11 hL rfl) rfl rfl (R194 (d := d + 1) (h := h) hL hW) (fun v5 h6 hL hW => ?_)
    refine kre rfl rfl ?_
    exact ⟨_, _, rfl, hL, hW⟩
/-- 167: FourPots make -/
def W167 (a1 : Int32) (h : TH) (C : Int32 → TH → Prop) : Prop :=
  W192  h (fun v1 => W55 v1 a1 h (fun v2 => if ¬ v2 = 0 then (inb (h.I 0 10) 4 ∧ W192  h (fun v3 => W18 (65 + 24 * ix (h.I 0 10)) v3 a1 h (fun v4 h5 => W198 v4 h5 (fun v6 h7 => C v6 h7)))) else (W194 1 h (fun v8 h9 => C v8 h9))))

theorem R167 {d : Nat} {a1 : Int32} {h : TH} {C : Int32 → TH → Prop} (hL : Lay h) (hW : W167 a1 h C) : xPk (d + 3) 167 [.ref 0, .int a1] h.X (postI C) := by
  unfold W167 at hW
  refine kin (Nat.le_of_ble_eq_true rfl) ?_
  refine kst rfl rfl ?_
  refine qcvM rfl (oK11 hL rfl) rfl rfl (R192 (d := d + 2) (h := h) hL hW) (fun v1 hmv1 hW => ?_)
  refine kst rfl rfl ?_
  refine qcvI rfl (oK3 hL hmv1) rfl rfl (R55 (d := d + 2) (h := h) hmv1 hL hW) (fun v2 hW => ?_)
  refine wif_ne rfl hW (fun hW => ?_) (fun hW => ?_)
  · iterate 2 (refine kst rfl rfl ?_)
    refine wgetP (b := 42) rfl (oK11 hL rfl) rfl (oP11_9 hL) ?_
    refine kst rfl rfl ?_
    refine wgetI rfl (oK11 hL rfl) rfl ?_
    obtain ⟨q1, hW⟩ := hW
    refine waald (kd := 4) rfl (aK11_9 hL) (by decide) (aN11_9 hL) (by decide) q1 (aA11_9 hL q1) ?_
    refine kst rfl rfl ?_
    refine qcvM rfl (oK11 hL rfl) rfl rfl (R192 (d := d + 2) (h := h) hL hW) (fun v3 hmv3 hW => ?_)
    refine kst rfl rfl ?_
    refine wcvI rfl (oK1 hL (aI11_9 q1)) rfl rfl (R18 (d := d + 0) (h := h) (aI11_9 q1) hmv3 hL hW) (fun v4 h5 hL hW => ?_)
    refine wcvI rfl (oK11 hL rfl) rfl rfl (R198 (d := d + 0) (h := h5) hL hW) (fun v6 h7 hL hW => ?_)
    refine kre rfl rfl ?_
    exact ⟨_, _, rfl, hL, hW⟩
  · iterate 2 (refine kst rfl rfl ?_)
    refine wcvI rfl (oK11 hL rfl) rfl rfl (R194 (d := d + 2) (h := h) hL hW) (fun v8 h9 hL hW => ?_)
    refine kre rfl rfl ?_
    exact ⟨_, _, rfl, hL, hW⟩
/-- 168: FourPots pourOver -/
def W168 (a1 : Int32) (a2 : Int32) (h : TH) (C : Int32 → TH → Prop) : Prop :=
  W192  h (fun v1 => W55 v1 a1 h (fun v2 => if v2 = 0 then (W194 1 h (fun v3 h4 => C v3 h4)) else (W192  h (fun v5 => W55 v5 a2 h (fun v6 => if ¬ v6 = 0 then (inb (h.I 0 10) 4 ∧ W192  h (fun v7 => W19 (65 + 24 * ix (h.I 0 10)) v7 a1 a2 h (fun v8 h9 => W198 v8 h9 (fun v10 h11 => C v10 h11)))) else (W194 1 h (fun v12 h13 => C v12 h13)))))))

theorem R168 {d : Nat} {a1 : Int32} {a2 : Int32} {h : TH} {C : Int32 → TH → Prop} (hL : Lay h) (hW : W168 a1 a2 h C) : xPk (d + 3) 168 [.ref 0, .int a1, .int a2] h.X (postI C) := by
  unfold W168 at hW
  refine kin (Nat.le_of_ble_eq_true rfl) ?_
  refine kst rfl rfl ?_
  refine qcvM rfl (oK11 hL rfl) rfl rfl (R192 (d := d + 2) (h := h) hL hW) (fun v1 hmv1 hW => ?_)
  refine kst rfl rfl ?_
  refine qcvI rfl (oK3 hL hmv1) rfl rfl (R55 (d := d + 2) (h := h) hmv1 hL hW) (fun v2 hW => ?_)
  refine wif_eq rfl hW (fun hW => ?_) (fun hW => ?_)
  · iterate 2 (refine kst rfl rfl ?_)
    refine wcvI rfl (oK11 hL rfl) rfl rfl (R194 (d := d + 2) (h := h) hL hW) (fun v3 h4 hL hW => ?_)
    refine kre rfl rfl ?_
    exact ⟨_, _, rfl, hL, hW⟩
  · refine kst rfl rfl ?_
    refine qcvM rfl (oK11 hL rfl) rfl rfl (R192 (d := d + 2) (h := h) hL hW) (fun v5 hmv5 hW => ?_)
    refine kst rfl rfl ?_
    refine qcvI rfl (oK3 hL hmv5) rfl rfl (R55 (d := d + 2) (h := h) hmv5 hL hW) (fun v6 hW => ?_)
    refine wif_ne rfl hW (fun hW => ?_) (fun hW => ?_)
    · iterate 2 (refine kst rfl rfl ?_)
      refine wgetP (b := 42) rfl (oK11 hL rfl) rfl (oP11_9 hL) ?_
      refine kst rfl rfl ?_
      refine wgetI rfl (oK11 hL rfl) rfl ?_
      obtain ⟨q1, hW⟩ := hW
      refine waald (kd := 4) rfl (aK11_9 hL) (by decide) (aN11_9 hL) (by decide) q1 (aA11_9 hL q1) ?_
      refine kst rfl rfl ?_
      refine qcvM rfl (oK11 hL rfl) rfl rfl (R192 (d := d + 2) (h := h) hL hW) (fun v7 hmv7 hW => ?_)
      iterate 2 (refine kst rfl rfl ?_)
      refine wcvI rfl (oK1 hL (aI11_9 q1)) rfl rfl (R19 (d := d + 0) (h := h) (aI11_9 q1) hmv7 hL hW) (fun v8 h9 hL hW => ?_)
      refine wcvI rfl (oK11 hL rfl) rfl rfl (R198 (d := d + 0) (h := h9) hL hW) (fun v10 h11 hL hW => ?_)
      refine kre rfl rfl ?_
      exact ⟨_, _, rfl, hL, hW⟩
    · iterate 2 (refine kst rfl rfl ?_)
      refine wcvI rfl (oK11 hL rfl) rfl rfl (R194 (d := d + 2) (h := h) hL hW) (fun v12 h13 hL hW => ?_)
      refine kre rfl rfl ?_
      exact ⟨_, _, rfl, hL, hW⟩
/-- 169: FourPots wash -/
def W169 (a1 : Int32) (h : TH) (C : Int32 → TH → Prop) : Prop :=
  W192  h (fun v1 => W55 v1 a1 h (fun v2 => if ¬ v2 = 0 then (inb (h.I 0 10) 4 ∧ W20 (65 + 24 * ix (h.I 0 10)) a1 h (fun v3 h4 => W198 v3 h4 (fun v5 h6 => C v5 h6))) else (W194 1 h (fun v7 h8 => C v7 h8))))

theorem R169 {d : Nat} {a1 : Int32} {h : TH} {C : Int32 → TH → Prop} (hL : Lay h) (hW : W169 a1 h C) : xPk (d + 3) 169 [.ref 0, .int a1] h.X (postI C) := by
  unfold W169 at hW
  refine kin (Nat.le_of_ble_eq_true rfl) ?_
  refine kst rfl rfl ?_
  refine qcvM rfl (oK11 hL rfl) rfl rfl (R192 (d := d + 2) (h := h) hL hW) (fun v1 hmv1 hW => ?_)
  refine kst rfl rfl ?_
  refine qcvI rfl (oK3 hL hmv1) rfl rfl (R55 (d := d + 2) (h := h) hmv1 hL hW) (fun v2 hW => ?_)
  refine wif_ne rfl hW (fun hW => ?_) (fun hW => ?_)
  · iterate 2 (refine kst rfl rfl ?_)
    refine wgetP (b := 42) rfl (oK11 hL rfl) rfl (oP11_9 hL) ?_
    refine kst rfl rfl ?_
    refine wgetI rfl (oK11 hL rfl) rfl ?_
    obtain ⟨q1, hW⟩ := hW
    refine waald (kd := 4) rfl (aK11_9 hL) (by decide) (aN11_9 hL) (by decide) q1 (aA11_9 hL q1) ?_
    refine kst rfl rfl ?_
    refine wcvI rfl (oK1 hL (aI11_9 q1)) rfl rfl (R20 (d := d + 1) (h := h) (aI11_9 q1) hL hW) (fun v3 h4 hL hW => ?_)
    refine wcvI rfl (oK11 hL rfl) rfl rfl (R198 (d := d + 0) (h := h4) hL hW) (fun v5 h6 hL hW => ?_)
    refine kre rfl rfl ?_
    exact ⟨_, _, rfl, hL, hW⟩
  · iterate 2 (refine kst rfl rfl ?_)
    refine wcvI rfl (oK11 hL rfl) rfl rfl (R194 (d := d + 2) (h := h) hL hW) (fun v7 h8 hL hW => ?_)
    refine kre rfl rfl ?_
    exact ⟨_, _, rfl, hL, hW⟩
/-- 170: FourPots trust -/
def W170 (a1 : Int32) (h : TH) (C : Int32 → TH → Prop) : Prop :=
  W192  h (fun v1 => W55 v1 a1 h (fun v2 => if ¬ v2 = 0 then (inb (h.I 0 10) 4 ∧ W192  h (fun v3 => W21 (65 + 24 * ix (h.I 0 10)) v3 a1 h (fun v4 h5 => W198 v4 h5 (fun v6 h7 => C v6 h7)))) else (W194 1 h (fun v8 h9 => C v8 h9))))

theorem R170 {d : Nat} {a1 : Int32} {h : TH} {C : Int32 → TH → Prop} (hL : Lay h) (hW : W170 a1 h C) : xPk (d + 3) 170 [.ref 0, .int a1] h.X (postI C) := by
  unfold W170 at hW
  refine kin (Nat.le_of_ble_eq_true rfl) ?_
  refine kst rfl rfl ?_
  refine qcvM rfl (oK11 hL rfl) rfl rfl (R192 (d := d + 2) (h := h) hL hW) (fun v1 hmv1 hW => ?_)
  refine kst rfl rfl ?_
  refine qcvI rfl (oK3 hL hmv1) rfl rfl (R55 (d := d + 2) (h := h) hmv1 hL hW) (fun v2 hW => ?_)
  refine wif_ne rfl hW (fun hW => ?_) (fun hW => ?_)
  · iterate 2 (refine kst rfl rfl ?_)
    refine wgetP (b := 42) rfl (oK11 hL rfl) rfl (oP11_9 hL) ?_
    refine kst rfl rfl ?_
    refine wgetI rfl (oK11 hL rfl) rfl ?_
    obtain ⟨q1, hW⟩ := hW
    refine waald (kd := 4) rfl (aK11_9 hL) (by decide) (aN11_9 hL) (by decide) q1 (aA11_9 hL q1) ?_
    refine kst rfl rfl ?_
    refine qcvM rfl (oK11 hL rfl) rfl rfl (R192 (d := d + 2) (h := h) hL hW) (fun v3 hmv3 hW => ?_)
    refine kst rfl rfl ?_
    refine wcvI rfl (oK1 hL (aI11_9 q1)) rfl rfl (R21 (d := d + 0) (h := h) (aI11_9 q1) hmv3 hL hW) (fun v4 h5 hL hW => ?_)
    refine wcvI rfl (oK11 hL rfl) rfl rfl (R198 (d := d + 0) (h := h5) hL hW) (fun v6 h7 hL hW => ?_)
    refine kre rfl rfl ?_
    exact ⟨_, _, rfl, hL, hW⟩
  · iterate 2 (refine kst rfl rfl ?_)
    refine wcvI rfl (oK11 hL rfl) rfl rfl (R194 (d := d + 2) (h := h) hL hW) (fun v8 h9 hL hW => ?_)
    refine kre rfl rfl ?_
    exact ⟨_, _, rfl, hL, hW⟩
/-- 171: FourPots show -/
def W171 (a1 : Int32) (h : TH) (C : Int32 → TH → Prop) : Prop :=
  W192  h (fun v1 => W55 v1 a1 h (fun v2 => if ¬ v2 = 0 then (inb (h.I 0 10) 4 ∧ W192  h (fun v3 => W22 (65 + 24 * ix (h.I 0 10)) v3 a1 h (fun v4 h5 => W198 v4 h5 (fun v6 h7 => C v6 h7)))) else (W194 1 h (fun v8 h9 => C v8 h9))))

theorem R171 {d : Nat} {a1 : Int32} {h : TH} {C : Int32 → TH → Prop} (hL : Lay h) (hW : W171 a1 h C) : xPk (d + 3) 171 [.ref 0, .int a1] h.X (postI C) := by
  unfold W171 at hW
  refine kin (Nat.le_of_ble_eq_true rfl) ?_
  refine kst rfl rfl ?_
  refine qcvM rfl (oK11 hL rfl) rfl rfl (R192 (d := d + 2) (h := h) hL hW) (fun v1 hmv1 hW => ?_)
  refine kst rfl rfl ?_
  refine qcvI rfl (oK3 hL hmv1) rfl rfl (R55 (d := d + 2) (h := h) hmv1 hL hW) (fun v2 hW => ?_)
  refine wif_ne rfl hW (fun hW => ?_) (fun hW => ?_)
  · iterate 2 (refine kst rfl rfl ?_)
    refine wgetP (b := 42) rfl (oK11 hL rfl) rfl (oP11_9 hL) ?_
    refine kst rfl rfl ?_
    refine wgetI rfl (oK11 hL rfl) rfl ?_
    obtain ⟨q1, hW⟩ := hW
    refine waald (kd := 4) rfl (aK11_9 hL) (by decide) (aN11_9 hL) (by decide) q1 (aA11_9 hL q1) ?_
    refine kst rfl rfl ?_
    refine qcvM rfl (oK11 hL rfl) rfl rfl (R192 (d := d + 2) (h := h) hL hW) (fun v3 hmv3 hW => ?_)
    refine kst rfl rfl ?_
    refine wcvI rfl (oK1 hL (aI11_9 q1)) rfl rfl (R22 (d := d + 1) (h := h) (aI11_9 q1) hmv3 hL hW) (fun v4 h5 hL hW => ?_)
    refine wcvI rfl (oK11 hL rfl) rfl rfl (R198 (d := d + 0) (h := h5) hL hW) (fun v6 h7 hL hW => ?_)
    refine kre rfl rfl ?_
    exact ⟨_, _, rfl, hL, hW⟩
  · iterate 2 (refine kst rfl rfl ?_)
    refine wcvI rfl (oK11 hL rfl) rfl rfl (R194 (d := d + 2) (h := h) hL hW) (fun v8 h9 hL hW => ?_)
    refine kre rfl rfl ?_
    exact ⟨_, _, rfl, hL, hW⟩
/-- 172: FourPots keeps -/
def W172 (a1 : Int32) (h : TH) (C : Int32 → TH → Prop) : Prop :=
  W192  h (fun v1 => W55 v1 a1 h (fun v2 => if ¬ v2 = 0 then (inb (h.I 0 10) 4 ∧ if ¬ ((h.I (65 + 24 * ix (h.I 0 10)) 0) &&& (ishl 1 a1)) = 0 then (inb (h.I 0 10) 4 ∧ W192  h (fun v3 => W28 (65 + 24 * ix (h.I 0 10)) v3 a1 h (fun v4 => W193 v4 h (fun v5 h6 => C v5 h6)))) else (W194 6 h (fun v7 h8 => C v7 h8))) else (W194 1 h (fun v9 h10 => C v9 h10))))

theorem R172 {d : Nat} {a1 : Int32} {h : TH} {C : Int32 → TH → Prop} (hL : Lay h) (hW : W172 a1 h C) : xPk (d + 1) 172 [.ref 0, .int a1] h.X (postI C) := by
  unfold W172 at hW
  refine kin (Nat.le_of_ble_eq_true rfl) ?_
  refine kst rfl rfl ?_
  refine qcvM rfl (oK11 hL rfl) rfl rfl (R192 (d := d + 0) (h := h) hL hW) (fun v1 hmv1 hW => ?_)
  refine kst rfl rfl ?_
  refine qcvI rfl (oK3 hL hmv1) rfl rfl (R55 (d := d + 0) (h := h) hmv1 hL hW) (fun v2 hW => ?_)
  refine wif_ne rfl hW (fun hW => ?_) (fun hW => ?_)
  · refine kst rfl rfl ?_
    refine wgetP (b := 42) rfl (oK11 hL rfl) rfl (oP11_9 hL) ?_
    refine kst rfl rfl ?_
    refine wgetI rfl (oK11 hL rfl) rfl ?_
    obtain ⟨q1, hW⟩ := hW
    refine waald (kd := 4) rfl (aK11_9 hL) (by decide) (aN11_9 hL) (by decide) q1 (aA11_9 hL q1) ?_
    refine wgetI rfl (oK1 hL (aI11_9 q1)) rfl ?_
    iterate 4 (refine kst rfl rfl ?_)
    refine wif_ne rfl hW (fun hW => ?_) (fun hW => ?_)
    · iterate 2 (refine kst rfl rfl ?_)
      refine wgetP (b := 42) rfl (oK11 hL rfl) rfl (oP11_9 hL) ?_
      refine kst rfl rfl ?_
      refine wgetI rfl (oK11 hL rfl) rfl ?_
      obtain ⟨q2, hW⟩ := hW
      refine waald (kd := 4) rfl (aK11_9 hL) (by decide) (aN11_9 hL) (by decide) q2 (aA11_9 hL q2) ?_
      refine kst rfl rfl ?_
      refine qcvM rfl (oK11 hL rfl) rfl rfl (R192 (d := d + 0) (h := h) hL hW) (fun v3 hmv3 hW => ?_)
      refine kst rfl rfl ?_
      refine qcvI rfl (oK1 hL (aI11_9 q2)) rfl rfl (R28 (d := d + 0) (h := h) (aI11_9 q2) hmv3 hL hW) (fun v4 hW => ?_)
      refine wcvI rfl (oK11 hL rfl) rfl rfl (R193 (d := d + 0) (h := h) hL hW) (fun v5 h6 hL hW => ?_)
      refine kre rfl rfl ?_
      exact ⟨_, _, rfl, hL, hW⟩
    · iterate 2 (refine kst rfl rfl ?_)
      refine wcvI rfl (oK11 hL rfl) rfl rfl (R194 (d := d + 0) (h := h) hL hW) (fun v7 h8 hL hW => ?_)
      refine kre rfl rfl ?_
      exact ⟨_, _, rfl, hL, hW⟩
  · iterate 2 (refine kst rfl rfl ?_)
    refine wcvI rfl (oK11 hL rfl) rfl rfl (R194 (d := d + 0) (h := h) hL hW) (fun v9 h10 hL hW => ?_)
    refine kre rfl rfl ?_
    exact ⟨_, _, rfl, hL, hW⟩
