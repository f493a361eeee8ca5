/-! WHAT EACH METHOD NEEDS: W: the condition; R: the small machine keeps it (printed by wgen.py) -/
/-- 285: FourPotsModel takesLess -/
def W285 (a1 : Int32) (a2 : Int32) (a3 : Int32) (h : TH) (C : Int32 → TH → Prop) : Prop :=
  if a2 = (-1) then (C 0 h) else (inb a2 4096 ∧ if (h.I 208 (ix a2)) = 2000000000 then (C 0 h) else (inb a2 4096 ∧ inb a1 4096 ∧ if ((h.I 208 (ix a2)) + a3) < (h.I 208 (ix a1)) then (inb a2 4096 ∧ inb a1 4096 ∧ C 1 (h.sI 208 (ix a1) ((h.I 208 (ix a2)) + a3))) else (C 0 h)))

theorem R285 {d : Nat} {a1 : Int32} {a2 : Int32} {a3 : Int32} {h : TH} {C : Int32 → TH → Prop} (hL : Lay h) (hW : W285 a1 a2 a3 h C) : xPk d 285 [.ref 197, .int a1, .int a2, .int a3] h.X (postI C) := by
  unfold W285 at hW
  refine kin (Nat.le_of_ble_eq_true rfl) ?_
  iterate 2 (refine kst rfl rfl ?_)
  refine wcm_eq rfl hW (fun hW => ?_) (fun hW => ?_)
  · refine kst rfl rfl ?_
    refine kre rfl rfl ?_
    exact ⟨_, _, rfl, hL, hW⟩
  · refine kst rfl rfl ?_
    refine wgetP (b := 208) rfl (oK12 hL rfl) rfl (oP12_26 hL) ?_
    refine kst rfl rfl ?_
    obtain ⟨q1, hW⟩ := hW
    refine wald rfl (Or.inl (aK12_26 hL)) (aN12_26 hL) (by decide) q1 ?_
    refine kst rfl rfl ?_
    refine wcm_eq rfl hW (fun hW => ?_) (fun hW => ?_)
    · refine kst rfl rfl ?_
      refine kre rfl rfl ?_
      exact ⟨_, _, rfl, hL, hW⟩
    · refine kst rfl rfl ?_
      refine wgetP (b := 208) rfl (oK12 hL rfl) rfl (oP12_26 hL) ?_
      refine kst rfl rfl ?_
      obtain ⟨q2, hW⟩ := hW
      refine wald rfl (Or.inl (aK12_26 hL)) (aN12_26 hL) (by decide) q2 ?_
      iterate 3 (refine kst rfl rfl ?_)
      refine wgetP (b := 208) rfl (oK12 hL rfl) rfl (oP12_26 hL) ?_
      refine kst rfl rfl ?_
      obtain ⟨q3, hW⟩ := hW
      refine wald rfl (Or.inl (aK12_26 hL)) (aN12_26 hL) (by decide) q3 ?_
      refine wcm_lt rfl hW (fun hW => ?_) (fun hW => ?_)
      · refine kst rfl rfl ?_
        refine wgetP (b := 208) rfl (oK12 hL rfl) rfl (oP12_26 hL) ?_
        iterate 2 (refine kst rfl rfl ?_)
        refine wgetP (b := 208) rfl (oK12 hL rfl) rfl (oP12_26 hL) ?_
        refine kst rfl rfl ?_
        obtain ⟨q4, hW⟩ := hW
        refine wald rfl (Or.inl (aK12_26 hL)) (aN12_26 hL) (by decide) q4 ?_
        iterate 2 (refine kst rfl rfl ?_)
        obtain ⟨q5, hW⟩ := hW
        refine wast rfl (aK12_26 hL) (aN12_26 hL) (by decide) q5 ?_
        replace hL : Lay (h.sI 208 (ix a1) ((h.I 208 (ix a2)) + a3)) := lsI hL
        refine kst rfl rfl ?_
        refine kre rfl rfl ?_
        exact ⟨_, _, rfl, hL, hW⟩
      · refine kst rfl rfl ?_
        refine kre rfl rfl ?_
        exact ⟨_, _, rfl, hL, hW⟩
/-- 286: FourPotsModel betters -/
def B286_153 (a1 : Int32) (a2 : Int32) (x4 : Int32) (x5 : Int32) (h : TH) (C : Int32 → TH → Prop) (X5 : Int32 × Int32 × TH → Prop) (X103 : Int32 × Int32 × TH → Prop) : Prop :=
  X103 (1, (x5 + 1), h)
def B286_142 (a1 : Int32) (a2 : Int32) (x3 : Int32) (x4 : Int32) (x5 : Int32) (s1 : Int32) (s2 : Int32) (s3 : Int32) (s4 : Int32) (h : TH) (C : Int32 → TH → Prop) (X5 : Int32 × Int32 × TH → Prop) (X103 : Int32 × Int32 × TH → Prop) : Prop :=
  W285 s1 s2 (s3 + s4) h (fun v6 h7 => if ¬ v6 = 0 then (B286_153 a1 a2 x4 x5 h7 C X5 X103) else (if x3 = 0 then (X103 (0, (x5 + 1), h7)) else (B286_153 a1 a2 x4 x5 h7 C X5 X103)))
def F286_103 (a1 : Int32) (a2 : Int32) (x4 : Int32) (C : Int32 → TH → Prop) (X5 : Int32 × Int32 × TH → Prop) (X103 : Int32 × Int32 × TH → Prop) : Int32 × Int32 × TH → Prop := fun
  | (x3, x5, h) =>
    if x4 ≤ x5 then (X5 (x3, (x4 + 1), h)) else (W268 a1 a1 x4 x5 h (fun v5 => if a2 = 0 then (B286_142 a1 a2 x3 x4 x5 a1 v5 1 0 h C X5 X103) else (W251 x4 0 h (fun v6 => B286_142 a1 a2 x3 x4 x5 a1 v5 1 (4096 * v6) h C X5 X103))))
def B286_103 (a1 : Int32) (a2 : Int32) (x4 : Int32) (x3 : Int32) (x5 : Int32) (h : TH) (C : Int32 → TH → Prop) (X5 : Int32 × Int32 × TH → Prop) : Prop := LFP (F286_103 a1 a2 x4 C X5) (x3, x5, h)
def B286_94 (a1 : Int32) (a2 : Int32) (x4 : Int32) (h : TH) (C : Int32 → TH → Prop) (X5 : Int32 × Int32 × TH → Prop) : Prop :=
  B286_103 a1 a2 x4 1 0 h C X5
def B286_83 (a1 : Int32) (a2 : Int32) (x3 : Int32) (x4 : Int32) (s1 : Int32) (s2 : Int32) (s3 : Int32) (s4 : Int32) (h : TH) (C : Int32 → TH → Prop) (X5 : Int32 × Int32 × TH → Prop) : Prop :=
  W285 s1 s2 (s3 + s4) h (fun v3 h4 => if ¬ v3 = 0 then (B286_94 a1 a2 x4 h4 C X5) else (if x3 = 0 then (B286_103 a1 a2 x4 0 0 h4 C X5) else (B286_94 a1 a2 x4 h4 C X5)))
def B286_51 (a1 : Int32) (a2 : Int32) (x4 : Int32) (s0 : Int32) (h : TH) (C : Int32 → TH → Prop) (X5 : Int32 × Int32 × TH → Prop) : Prop :=
  X5 (s0, (x4 + 1), h)
def B286_46 (a1 : Int32) (a2 : Int32) (x4 : Int32) (h : TH) (C : Int32 → TH → Prop) (X5 : Int32 × Int32 × TH → Prop) : Prop :=
  B286_51 a1 a2 x4 1 h C X5
def F286_5 (a1 : Int32) (a2 : Int32) (C : Int32 → TH → Prop) (X5 : Int32 × Int32 × TH → Prop) : Int32 × Int32 × TH → Prop := fun
  | (x3, x4, h) =>
    if (h.I 198 (ix 0)) ≤ x4 then ((x3 = 0 ∨ x3 = 1) ∧ C x3 h) else (W250 a1 x4 h (fun v1 => if v1 = 0 then (W267 a1 x4 h (fun v2 => if a2 = 0 then (B286_83 a1 a2 x3 x4 a1 v2 1 0 h C X5) else (W255 x4 h (fun v3 => B286_83 a1 a2 x3 x4 a1 v2 1 (4096 * v3) h C X5)))) else (W285 a1 (a1 &&& ((ishl 1 x4) ^^^ (-1))) 1 h (fun v4 h5 => if ¬ v4 = 0 then (B286_46 a1 a2 x4 h5 C X5) else (if x3 = 0 then (B286_51 a1 a2 x4 0 h5 C X5) else (B286_46 a1 a2 x4 h5 C X5))))))
def B286_5 (a1 : Int32) (a2 : Int32) (x3 : Int32) (x4 : Int32) (h : TH) (C : Int32 → TH → Prop) : Prop := LFP (F286_5 a1 a2 C) (x3, x4, h)
def W286 (a1 : Int32) (a2 : Int32) (h : TH) (C : Int32 → TH → Prop) : Prop :=
  B286_5 a1 a2 0 0 h C

theorem R286_153 {d : Nat} {a1 : Int32} {a2 : Int32} {x4 : Int32} {x5 : Int32} {h : TH} {C : Int32 → TH → Prop} {X5 : Int32 × Int32 × TH → Prop} (k5 : ∀ s : Int32 × Int32 × TH, X5 s → Lay (s.2.2) → xEk (d + 4) 286 (5, [(0, .ref 197), (1, .int a1), (2, .int a2), (3, .int (s.1)), (4, .int (s.2.1))], [], (TH.X (s.2.2))) (postI C)) {X103 : Int32 × Int32 × TH → Prop} (k103 : ∀ s : Int32 × Int32 × TH, X103 s → Lay (s.2.2) → xEk (d + 4) 286 (103, [(0, .ref 197), (1, .int a1), (2, .int a2), (3, .int (s.1)), (4, .int x4), (5, .int (s.2.1))], [], (TH.X (s.2.2))) (postI C)) (hL : Lay h) (hW : B286_153 a1 a2 x4 x5 h C X5 X103) : xEk (d + 4) 286 (153, [(0, .ref 197), (1, .int a1), (2, .int a2), (4, .int x4), (5, .int x5)], [], h.X) (postI C) := by
  unfold B286_153 at hW
  iterate 5 (refine kst rfl rfl ?_)
  have z9 := k103 (1, (x5 + 1), h) hW hL
  refine wjp ?_ z9
  exact ⟨rfl, rfl, rfl, rfl, rfl, rfl, trivial⟩
theorem R286_142 {d : Nat} {a1 : Int32} {a2 : Int32} {x3 : Int32} {x4 : Int32} {x5 : Int32} {s1 : Int32} {s2 : Int32} {s3 : Int32} {s4 : Int32} {h : TH} {C : Int32 → TH → Prop} {X5 : Int32 × Int32 × TH → Prop} (k5 : ∀ s : Int32 × Int32 × TH, X5 s → Lay (s.2.2) → xEk (d + 4) 286 (5, [(0, .ref 197), (1, .int a1), (2, .int a2), (3, .int (s.1)), (4, .int (s.2.1))], [], (TH.X (s.2.2))) (postI C)) {X103 : Int32 × Int32 × TH → Prop} (k103 : ∀ s : Int32 × Int32 × TH, X103 s → Lay (s.2.2) → xEk (d + 4) 286 (103, [(0, .ref 197), (1, .int a1), (2, .int a2), (3, .int (s.1)), (4, .int x4), (5, .int (s.2.1))], [], (TH.X (s.2.2))) (postI C)) (hL : Lay h) (hW : B286_142 a1 a2 x3 x4 x5 s1 s2 s3 s4 h C X5 X103) : xEk (d + 4) 286 (142, [(0, .ref 197), (1, .int a1), (2, .int a2), (3, .int x3), (4, .int x4), (5, .int x5)], [.int s4, .int s3, .int s2, .int s1, .ref 197], h.X) (postI C) := by
  unfold B286_142 at hW
  refine kst rfl rfl ?_
  refine wcvI rfl (oK12 hL rfl) rfl rfl (R285 (d := d + 3) (h := h) hL hW) (fun v6 h7 hL hW => ?_)
  refine wif_ne rfl hW (fun hW => ?_) (fun hW => ?_)
  · refine wjp ?_ (R286_153 (h := h7) k5 k103 hL hW)
    exact ⟨rfl, rfl, rfl, rfl, rfl, trivial⟩
  · refine kst rfl rfl ?_
    refine wif_eq rfl hW (fun hW => ?_) (fun hW => ?_)
    · iterate 4 (refine kst rfl rfl ?_)
      have z9 := k103 (0, (x5 + 1), h7) hW hL
      refine wjp ?_ z9
      exact ⟨rfl, rfl, rfl, rfl, rfl, rfl, trivial⟩
    · refine wjp ?_ (R286_153 (h := h7) k5 k103 hL hW)
      exact ⟨rfl, rfl, rfl, rfl, rfl, trivial⟩
theorem R286_103 {d : Nat} {a1 : Int32} {a2 : Int32} {x4 : Int32} {x3 : Int32} {x5 : Int32} {h : TH} {C : Int32 → TH → Prop} {X5 : Int32 × Int32 × TH → Prop} (k5 : ∀ s : Int32 × Int32 × TH, X5 s → Lay (s.2.2) → xEk (d + 4) 286 (5, [(0, .ref 197), (1, .int a1), (2, .int a2), (3, .int (s.1)), (4, .int (s.2.1))], [], (TH.X (s.2.2))) (postI C)) (hL : Lay h) (hW : B286_103 a1 a2 x4 x3 x5 h C X5) : xEk (d + 4) 286 (103, [(0, .ref 197), (1, .int a1), (2, .int a2), (3, .int x3), (4, .int x4), (5, .int x5)], [], h.X) (postI C) := by
  refine hW (fun s => Lay (s.2.2) → xEk (d + 4) 286 (103, [(0, .ref 197), (1, .int a1), (2, .int a2), (3, .int (s.1)), (4, .int x4), (5, .int (s.2.1))], [], (TH.X (s.2.2))) (postI C)) ?_ hL
  rintro ⟨x3, x5, h⟩ hW hL
  have k103 : ∀ s : Int32 × Int32 × TH, (fun s => Lay (s.2.2) → xEk (d + 4) 286 (103, [(0, .ref 197), (1, .int a1), (2, .int a2), (3, .int (s.1)), (4, .int x4), (5, .int (s.2.1))], [], (TH.X (s.2.2))) (postI C)) s → Lay (s.2.2) → xEk (d + 4) 286 (103, [(0, .ref 197), (1, .int a1), (2, .int a2), (3, .int (s.1)), (4, .int x4), (5, .int (s.2.1))], [], (TH.X (s.2.2))) (postI C) := fun s hs => hs
  unfold F286_103 at hW
  dsimp only at hW
  iterate 2 (refine kst rfl rfl ?_)
  refine wcm_ge rfl hW (fun hW => ?_) (fun hW => ?_)
  · iterate 2 (refine kst rfl rfl ?_)
    have z9 := k5 (x3, (x4 + 1), h) hW hL
    refine wjp ?_ z9
    exact ⟨rfl, rfl, rfl, rfl, rfl, trivial⟩
  · iterate 7 (refine kst rfl rfl ?_)
    refine qcvI rfl (oK12 hL rfl) rfl rfl (R268 (d := d + 1) (h := h) hL hW) (fun v5 hW => ?_)
    iterate 2 (refine kst rfl rfl ?_)
    refine wif_eq rfl hW (fun hW => ?_) (fun hW => ?_)
    · refine kst rfl rfl ?_
      refine wjp ?_ (R286_142 (h := h) k5 k103 hL hW)
      exact ⟨rfl, rfl, rfl, rfl, rfl, rfl, trivial⟩
    · iterate 4 (refine kst rfl rfl ?_)
      refine qcvI rfl (oK12 hL rfl) rfl rfl (R251 (d := d + 3) (h := h) hL hW) (fun v6 hW => ?_)
      iterate 2 (refine kst rfl rfl ?_)
      refine wjp ?_ (R286_142 (h := h) k5 k103 hL hW)
      exact ⟨rfl, rfl, rfl, rfl, rfl, rfl, trivial⟩
theorem R286_94 {d : Nat} {a1 : Int32} {a2 : Int32} {x4 : Int32} {h : TH} {C : Int32 → TH → Prop} {X5 : Int32 × Int32 × TH → Prop} (k5 : ∀ s : Int32 × Int32 × TH, X5 s → Lay (s.2.2) → xEk (d + 4) 286 (5, [(0, .ref 197), (1, .int a1), (2, .int a2), (3, .int (s.1)), (4, .int (s.2.1))], [], (TH.X (s.2.2))) (postI C)) (hL : Lay h) (hW : B286_94 a1 a2 x4 h C X5) : xEk (d + 4) 286 (94, [(0, .ref 197), (1, .int a1), (2, .int a2), (4, .int x4)], [], h.X) (postI C) := by
  unfold B286_94 at hW
  iterate 5 (refine kst rfl rfl ?_)
  refine wjp ?_ (R286_103 (h := h) k5 hL hW)
  exact ⟨rfl, rfl, rfl, rfl, rfl, rfl, trivial⟩
theorem R286_83 {d : Nat} {a1 : Int32} {a2 : Int32} {x3 : Int32} {x4 : Int32} {s1 : Int32} {s2 : Int32} {s3 : Int32} {s4 : Int32} {h : TH} {C : Int32 → TH → Prop} {X5 : Int32 × Int32 × TH → Prop} (k5 : ∀ s : Int32 × Int32 × TH, X5 s → Lay (s.2.2) → xEk (d + 4) 286 (5, [(0, .ref 197), (1, .int a1), (2, .int a2), (3, .int (s.1)), (4, .int (s.2.1))], [], (TH.X (s.2.2))) (postI C)) (hL : Lay h) (hW : B286_83 a1 a2 x3 x4 s1 s2 s3 s4 h C X5) : xEk (d + 4) 286 (83, [(0, .ref 197), (1, .int a1), (2, .int a2), (3, .int x3), (4, .int x4)], [.int s4, .int s3, .int s2, .int s1, .ref 197], h.X) (postI C) := by
  unfold B286_83 at hW
  refine kst rfl rfl ?_
  refine wcvI rfl (oK12 hL rfl) rfl rfl (R285 (d := d + 3) (h := h) hL hW) (fun v3 h4 hL hW => ?_)
  refine wif_ne rfl hW (fun hW => ?_) (fun hW => ?_)
  · refine wjp ?_ (R286_94 (h := h4) k5 hL hW)
    exact ⟨rfl, rfl, rfl, rfl, trivial⟩
  · refine kst rfl rfl ?_
    refine wif_eq rfl hW (fun hW => ?_) (fun hW => ?_)
    · iterate 4 (refine kst rfl rfl ?_)
      refine wjp ?_ (R286_103 (h := h4) k5 hL hW)
      exact ⟨rfl, rfl, rfl, rfl, rfl, rfl, trivial⟩
    · refine wjp ?_ (R286_94 (h := h4) k5 hL hW)
      exact ⟨rfl, rfl, rfl, rfl, trivial⟩
theorem R286_51 {d : Nat} {a1 : Int32} {a2 : Int32} {x4 : Int32} {s0 : Int32} {h : TH} {C : Int32 → TH → Prop} {X5 : Int32 × Int32 × TH → Prop} (k5 : ∀ s : Int32 × Int32 × TH, X5 s → Lay (s.2.2) → xEk (d + 4) 286 (5, [(0, .ref 197), (1, .int a1), (2, .int a2), (3, .int (s.1)), (4, .int (s.2.1))], [], (TH.X (s.2.2))) (postI C)) (hL : Lay h) (hW : B286_51 a1 a2 x4 s0 h C X5) : xEk (d + 4) 286 (51, [(0, .ref 197), (1, .int a1), (2, .int a2), (4, .int x4)], [.int s0], h.X) (postI C) := by
  unfold B286_51 at hW
  iterate 4 (refine kst rfl rfl ?_)
  have z9 := k5 (s0, (x4 + 1), h) hW hL
  refine wjp ?_ z9
  exact ⟨rfl, rfl, rfl, rfl, rfl, trivial⟩
theorem R286_46 {d : Nat} {a1 : Int32} {a2 : Int32} {x4 : Int32} {h : TH} {C : Int32 → TH → Prop} {X5 : Int32 × Int32 × TH → Prop} (k5 : ∀ s : Int32 × Int32 × TH, X5 s → Lay (s.2.2) → xEk (d + 4) 286 (5, [(0, .ref 197), (1, .int a1), (2, .int a2), (3, .int (s.1)), (4, .int (s.2.1))], [], (TH.X (s.2.2))) (postI C)) (hL : Lay h) (hW : B286_46 a1 a2 x4 h C X5) : xEk (d + 4) 286 (46, [(0, .ref 197), (1, .int a1), (2, .int a2), (4, .int x4)], [], h.X) (postI C) := by
  unfold B286_46 at hW
  iterate 2 (refine kst rfl rfl ?_)
  refine wjp ?_ (R286_51 (h := h) k5 hL hW)
  exact ⟨rfl, rfl, rfl, rfl, trivial⟩
theorem R286_5 {d : Nat} {a1 : Int32} {a2 : Int32} {x3 : Int32} {x4 : Int32} {h : TH} {C : Int32 → TH → Prop} (hL : Lay h) (hW : B286_5 a1 a2 x3 x4 h C) : xEk (d + 4) 286 (5, [(0, .ref 197), (1, .int a1), (2, .int a2), (3, .int x3), (4, .int x4)], [], h.X) (postI C) := by
  refine hW (fun s => Lay (s.2.2) → xEk (d + 4) 286 (5, [(0, .ref 197), (1, .int a1), (2, .int a2), (3, .int (s.1)), (4, .int (s.2.1))], [], (TH.X (s.2.2))) (postI C)) ?_ hL
  rintro ⟨x3, x4, h⟩ hW hL
  have k5 : ∀ s : Int32 × Int32 × TH, (fun s => Lay (s.2.2) → xEk (d + 4) 286 (5, [(0, .ref 197), (1, .int a1), (2, .int a2), (3, .int (s.1)), (4, .int (s.2.1))], [], (TH.X (s.2.2))) (postI C)) s → Lay (s.2.2) → xEk (d + 4) 286 (5, [(0, .ref 197), (1, .int a1), (2, .int a2), (3, .int (s.1)), (4, .int (s.2.1))], [], (TH.X (s.2.2))) (postI C) := fun s hs => hs
  unfold F286_5 at hW
  dsimp only at hW
  iterate 2 (refine kst rfl rfl ?_)
  refine wgetP (b := 198) rfl (oK12 hL rfl) rfl (oP12_0 hL) ?_
  refine kst rfl rfl ?_
  refine wald rfl (Or.inl (aK12_0 hL)) (aN12_0 hL) (by decide) ⟨by decide, by decide⟩ ?_
  refine wcm_ge rfl hW (fun hW => ?_) (fun hW => ?_)
  · refine kst rfl rfl ?_
    obtain ⟨q1, hW⟩ := hW
    refine wrZ rfl q1 ?_
    exact ⟨_, _, rfl, hL, hW⟩
  · iterate 2 (refine kst rfl rfl ?_)
    refine qcaI rfl rfl (R250 (d := d + 3) (h := h) hL hW) (fun v1 hW => ?_)
    refine wif_eq rfl hW (fun hW => ?_) (fun hW => ?_)
    · iterate 5 (refine kst rfl rfl ?_)
      refine qcvI rfl (oK12 hL rfl) rfl rfl (R267 (d := d + 0) (h := h) hL hW) (fun v2 hW => ?_)
      iterate 2 (refine kst rfl rfl ?_)
      refine wif_eq rfl hW (fun hW => ?_) (fun hW => ?_)
      · refine kst rfl rfl ?_
        refine wjp ?_ (R286_83 (h := h) k5 hL hW)
        exact ⟨rfl, rfl, rfl, rfl, rfl, trivial⟩
      · iterate 3 (refine kst rfl rfl ?_)
        refine qcvI rfl (oK12 hL rfl) rfl rfl (R255 (d := d + 1) (h := h) hL hW) (fun v3 hW => ?_)
        iterate 2 (refine kst rfl rfl ?_)
        refine wjp ?_ (R286_83 (h := h) k5 hL hW)
        exact ⟨rfl, rfl, rfl, rfl, rfl, trivial⟩
    · iterate 10 (refine kst rfl rfl ?_)
      refine wcvI rfl (oK12 hL rfl) rfl rfl (R285 (d := d + 3) (h := h) hL hW) (fun v4 h5 hL hW => ?_)
      refine wif_ne rfl hW (fun hW => ?_) (fun hW => ?_)
      · refine wjp ?_ (R286_46 (h := h5) k5 hL hW)
        exact ⟨rfl, rfl, rfl, rfl, trivial⟩
      · refine kst rfl rfl ?_
        refine wif_eq rfl hW (fun hW => ?_) (fun hW => ?_)
        · refine kst rfl rfl ?_
          refine wjp ?_ (R286_51 (h := h5) k5 hL hW)
          exact ⟨rfl, rfl, rfl, rfl, trivial⟩
        · refine wjp ?_ (R286_46 (h := h5) k5 hL hW)
          exact ⟨rfl, rfl, rfl, rfl, trivial⟩
theorem R286 {d : Nat} {a1 : Int32} {a2 : Int32} {h : TH} {C : Int32 → TH → Prop} (hL : Lay h) (hW : W286 a1 a2 h C) : xPk (d + 4) 286 [.ref 197, .int a1, .int a2] h.X (postI C) := by
  unfold W286 at hW
  refine kin (Nat.le_of_ble_eq_true rfl) ?_
  iterate 4 (refine kst rfl rfl ?_)
  refine wjp ?_ (R286_5 (h := h) hL hW)
  exact ⟨rfl, rfl, rfl, rfl, rfl, trivial⟩
/-- 284: FourPotsModel reckons -/
def B284_82 (a2 : Int32) (x4 : Int32) (h : TH) (C : TH → Prop) (X39 : Int32 × TH → Prop) (X53 : Int32 × Int32 × TH → Prop) : Prop :=
  X53 (1, (x4 + (-1)), h)
def F284_53 (a2 : Int32) (C : TH → Prop) (X39 : Int32 × TH → Prop) (X53 : Int32 × Int32 × TH → Prop) : Int32 × Int32 × TH → Prop := fun
  | (x3, x4, h) =>
    if x4 < 0 then (X39 (x3, h)) else (inb x4 4096 ∧ if (h.I 208 (ix x4)) ≤ 0 then (X53 (x3, (x4 + (-1)), h)) else (W286 x4 a2 h (fun v3 h4 => if ¬ v3 = 0 then (B284_82 a2 x4 h4 C X39 X53) else (if x3 = 0 then (X53 (0, (x4 + (-1)), h4)) else (B284_82 a2 x4 h4 C X39 X53)))))
def B284_53 (a2 : Int32) (x3 : Int32) (x4 : Int32) (h : TH) (C : TH → Prop) (X39 : Int32 × TH → Prop) : Prop := LFP (F284_53 a2 C X39) (x3, x4, h)
def F284_39 (a2 : Int32) (C : TH → Prop) (X39 : Int32 × TH → Prop) : Int32 × TH → Prop := fun
  | (x3, h) =>
    if x3 = 0 then (C h) else (W248  h (fun v2 => B284_53 a2 0 (v2 - 1) h C X39))
def B284_39 (a2 : Int32) (x3 : Int32) (h : TH) (C : TH → Prop) : Prop := LFP (F284_39 a2 C) (x3, h)
def F284_2 (a1 : Int32) (a2 : Int32) (C : TH → Prop) (X2 : Int32 × TH → Prop) : Int32 × TH → Prop := fun
  | (x3, h) =>
    W248  h (fun v1 => if v1 ≤ x3 then (B284_39 a2 1 h C) else (if ¬ (a1 &&& (x3 ^^^ (-1))) = 0 then (inb x3 4096 ∧ X2 ((x3 + 1), (h.sI 208 (ix x3) 2000000000))) else (inb x3 4096 ∧ X2 ((x3 + 1), (h.sI 208 (ix x3) 0)))))
def B284_2 (a1 : Int32) (a2 : Int32) (x3 : Int32) (h : TH) (C : TH → Prop) : Prop := LFP (F284_2 a1 a2 C) (x3, h)
def W284 (a1 : Int32) (a2 : Int32) (h : TH) (C : TH → Prop) : Prop :=
  B284_2 a1 a2 0 h C

theorem R284_82 {d : Nat} {a2 : Int32} {x4 : Int32} {h : TH} {C : TH → Prop} {X39 : Int32 × TH → Prop} (k39 : ∀ s : Int32 × TH, X39 s → Lay (s.2) → xEk (d + 5) 284 (39, [(0, .ref 197), (2, .int a2), (3, .int (s.1))], [], (TH.X (s.2))) (postV C)) {X53 : Int32 × Int32 × TH → Prop} (k53 : ∀ s : Int32 × Int32 × TH, X53 s → Lay (s.2.2) → xEk (d + 5) 284 (53, [(0, .ref 197), (2, .int a2), (3, .int (s.1)), (4, .int (s.2.1))], [], (TH.X (s.2.2))) (postV C)) (hL : Lay h) (hW : B284_82 a2 x4 h C X39 X53) : xEk (d + 5) 284 (82, [(0, .ref 197), (2, .int a2), (4, .int x4)], [], h.X) (postV C) := by
  unfold B284_82 at hW
  iterate 5 (refine kst rfl rfl ?_)
  have z9 := k53 (1, (x4 + (-1)), h) hW hL
  refine wjp ?_ z9
  exact ⟨rfl, rfl, rfl, rfl, trivial⟩
theorem R284_53 {d : Nat} {a2 : Int32} {x3 : Int32} {x4 : Int32} {h : TH} {C : TH → Prop} {X39 : Int32 × TH → Prop} (k39 : ∀ s : Int32 × TH, X39 s → Lay (s.2) → xEk (d + 5) 284 (39, [(0, .ref 197), (2, .int a2), (3, .int (s.1))], [], (TH.X (s.2))) (postV C)) (hL : Lay h) (hW : B284_53 a2 x3 x4 h C X39) : xEk (d + 5) 284 (53, [(0, .ref 197), (2, .int a2), (3, .int x3), (4, .int x4)], [], h.X) (postV C) := by
  refine hW (fun s => Lay (s.2.2) → xEk (d + 5) 284 (53, [(0, .ref 197), (2, .int a2), (3, .int (s.1)), (4, .int (s.2.1))], [], (TH.X (s.2.2))) (postV C)) ?_ hL
  rintro ⟨x3, x4, h⟩ hW hL
  have k53 : ∀ s : Int32 × Int32 × TH, (fun s => Lay (s.2.2) → xEk (d + 5) 284 (53, [(0, .ref 197), (2, .int a2), (3, .int (s.1)), (4, .int (s.2.1))], [], (TH.X (s.2.2))) (postV C)) s → Lay (s.2.2) → xEk (d + 5) 284 (53, [(0, .ref 197), (2, .int a2), (3, .int (s.1)), (4, .int (s.2.1))], [], (TH.X (s.2.2))) (postV C) := fun s hs => hs
  unfold F284_53 at hW
  dsimp only at hW
  refine kst rfl rfl ?_
  refine wif_lt rfl hW (fun hW => ?_) (fun hW => ?_)
  · refine kst rfl rfl ?_
    have z9 := k39 (x3, h) hW hL
    refine wjp ?_ z9
    exact ⟨rfl, rfl, rfl, trivial⟩
  · refine kst rfl rfl ?_
    refine wgetP (b := 208) rfl (oK12 hL rfl) rfl (oP12_26 hL) ?_
    refine kst rfl rfl ?_
    obtain ⟨q1, hW⟩ := hW
    refine wald rfl (Or.inl (aK12_26 hL)) (aN12_26 hL) (by decide) q1 ?_
    refine wif_le rfl hW (fun hW => ?_) (fun hW => ?_)
    · iterate 2 (refine kst rfl rfl ?_)
      have z9 := k53 (x3, (x4 + (-1)), h) hW hL
      refine wjp ?_ z9
      exact ⟨rfl, rfl, rfl, rfl, trivial⟩
    · iterate 3 (refine kst rfl rfl ?_)
      refine wcvI rfl (oK12 hL rfl) rfl rfl (R286 (d := d + 0) (h := h) hL hW) (fun v3 h4 hL hW => ?_)
      refine wif_ne rfl hW (fun hW => ?_) (fun hW => ?_)
      · refine wjp ?_ (R284_82 (h := h4) k39 k53 hL hW)
        exact ⟨rfl, rfl, rfl, trivial⟩
      · refine kst rfl rfl ?_
        refine wif_eq rfl hW (fun hW => ?_) (fun hW => ?_)
        · iterate 4 (refine kst rfl rfl ?_)
          have z9 := k53 (0, (x4 + (-1)), h4) hW hL
          refine wjp ?_ z9
          exact ⟨rfl, rfl, rfl, rfl, trivial⟩
        · refine wjp ?_ (R284_82 (h := h4) k39 k53 hL hW)
          exact ⟨rfl, rfl, rfl, trivial⟩
theorem R284_39 {d : Nat} {a2 : Int32} {x3 : Int32} {h : TH} {C : TH → Prop} (hL : Lay h) (hW : B284_39 a2 x3 h C) : xEk (d + 5) 284 (39, [(0, .ref 197), (2, .int a2), (3, .int x3)], [], h.X) (postV C) := by
  refine hW (fun s => Lay (s.2) → xEk (d + 5) 284 (39, [(0, .ref 197), (2, .int a2), (3, .int (s.1))], [], (TH.X (s.2))) (postV C)) ?_ hL
  rintro ⟨x3, h⟩ hW hL
  have k39 : ∀ s : Int32 × TH, (fun s => Lay (s.2) → xEk (d + 5) 284 (39, [(0, .ref 197), (2, .int a2), (3, .int (s.1))], [], (TH.X (s.2))) (postV C)) s → Lay (s.2) → xEk (d + 5) 284 (39, [(0, .ref 197), (2, .int a2), (3, .int (s.1))], [], (TH.X (s.2))) (postV C) := fun s hs => hs
  unfold F284_39 at hW
  dsimp only at hW
  refine kst rfl rfl ?_
  refine wif_eq rfl hW (fun hW => ?_) (fun hW => ?_)
  · refine kre rfl rfl ?_
    exact ⟨_, rfl, hL, hW⟩
  · iterate 3 (refine kst rfl rfl ?_)
    refine qcvI rfl (oK12 hL rfl) rfl rfl (R248 (d := d + 4) (h := h) hL hW) (fun v2 hW => ?_)
    iterate 3 (refine kst rfl rfl ?_)
    refine wjp ?_ (R284_53 (h := h) k39 hL hW)
    exact ⟨rfl, rfl, rfl, rfl, trivial⟩
theorem R284_2 {d : Nat} {a1 : Int32} {a2 : Int32} {x3 : Int32} {h : TH} {C : TH → Prop} (hL : Lay h) (hW : B284_2 a1 a2 x3 h C) : xEk (d + 5) 284 (2, [(0, .ref 197), (1, .int a1), (2, .int a2), (3, .int x3)], [], h.X) (postV C) := by
  refine hW (fun s => Lay (s.2) → xEk (d + 5) 284 (2, [(0, .ref 197), (1, .int a1), (2, .int a2), (3, .int (s.1))], [], (TH.X (s.2))) (postV C)) ?_ hL
  rintro ⟨x3, h⟩ hW hL
  have k2 : ∀ s : Int32 × TH, (fun s => Lay (s.2) → xEk (d + 5) 284 (2, [(0, .ref 197), (1, .int a1), (2, .int a2), (3, .int (s.1))], [], (TH.X (s.2))) (postV C)) s → Lay (s.2) → xEk (d + 5) 284 (2, [(0, .ref 197), (1, .int a1), (2, .int a2), (3, .int (s.1))], [], (TH.X (s.2))) (postV C) := fun s hs => hs
  unfold F284_2 at hW
  dsimp only at hW
  iterate 2 (refine kst rfl rfl ?_)
  refine qcvI rfl (oK12 hL rfl) rfl rfl (R248 (d := d + 4) (h := h) hL hW) (fun v1 hW => ?_)
  refine wcm_ge rfl hW (fun hW => ?_) (fun hW => ?_)
  · iterate 2 (refine kst rfl rfl ?_)
    refine wjp ?_ (R284_39 (h := h) hL hW)
    exact ⟨rfl, rfl, rfl, trivial⟩
  · refine kst rfl rfl ?_
    refine wgetP (b := 208) rfl (oK12 hL rfl) rfl (oP12_26 hL) ?_
    iterate 6 (refine kst rfl rfl ?_)
    refine wif_ne rfl hW (fun hW => ?_) (fun hW => ?_)
    · refine kst rfl rfl ?_
      obtain ⟨q1, hW⟩ := hW
      refine wast rfl (aK12_26 hL) (aN12_26 hL) (by decide) q1 ?_
      replace hL : Lay (h.sI 208 (ix x3) 2000000000) := lsI hL
      iterate 2 (refine kst rfl rfl ?_)
      have z9 := k2 ((x3 + 1), (h.sI 208 (ix x3) 2000000000)) hW hL
      refine wjp ?_ z9
      exact ⟨rfl, rfl, rfl, rfl, trivial⟩
    · iterate 2 (refine kst rfl rfl ?_)
      obtain ⟨q1, hW⟩ := hW
      refine wast rfl (aK12_26 hL) (aN12_26 hL) (by decide) q1 ?_
      replace hL : Lay (h.sI 208 (ix x3) 0) := lsI hL
      iterate 2 (refine kst rfl rfl ?_)
      have z9 := k2 ((x3 + 1), (h.sI 208 (ix x3) 0)) hW hL
      refine wjp ?_ z9
      exact ⟨rfl, rfl, rfl, rfl, trivial⟩
theorem R284 {d : Nat} {a1 : Int32} {a2 : Int32} {h : TH} {C : TH → Prop} (hL : Lay h) (hW : W284 a1 a2 h C) : xPk (d + 5) 284 [.ref 197, .int a1, .int a2] h.X (postV C) := by
  unfold W284 at hW
  refine kin (Nat.le_of_ble_eq_true rfl) ?_
  iterate 2 (refine kst rfl rfl ?_)
  refine wjp ?_ (R284_2 (h := h) hL hW)
  exact ⟨rfl, rfl, rfl, rfl, trivial⟩
/-- 287: FourPotsModel leastWork -/
def W287 (a1 : Int32) (h : TH) (C : Int32 → TH → Prop) : Prop :=
  W284 a1 1 h (fun h1 => if ¬ (h1.I 208 (ix 0)) = 2000000000 then (C ((h1.I 208 (ix 0)) / 4096) h1) else (C (-1) h1))

theorem R287 {d : Nat} {a1 : Int32} {h : TH} {C : Int32 → TH → Prop} (hL : Lay h) (hW : W287 a1 h C) : xPk (d + 6) 287 [.ref 197, .int a1] h.X (postI C) := by
  unfold W287 at hW
  refine kin (Nat.le_of_ble_eq_true rfl) ?_
  iterate 3 (refine kst rfl rfl ?_)
  refine wcvV rfl (oK12 hL rfl) rfl rfl (R284 (d := d + 0) (h := h) hL hW) (fun h1 hL hW => ?_)
  refine kst rfl rfl ?_
  refine wgetP (b := 208) rfl (oK12 hL rfl) rfl (oP12_26 hL) ?_
  refine kst rfl rfl ?_
  refine wald rfl (Or.inl (aK12_26 hL)) (aN12_26 hL) (by decide) ⟨by decide, by decide⟩ ?_
  refine kst rfl rfl ?_
  refine wcm_ne rfl hW (fun hW => ?_) (fun hW => ?_)
  · refine kst rfl rfl ?_
    refine wgetP (b := 208) rfl (oK12 hL rfl) rfl (oP12_26 hL) ?_
    refine kst rfl rfl ?_
    refine wald rfl (Or.inl (aK12_26 hL)) (aN12_26 hL) (by decide) ⟨by decide, by decide⟩ ?_
    refine kst rfl rfl ?_
    refine wdiv rfl (by decide) ?_
    refine kre rfl rfl ?_
    exact ⟨_, _, rfl, hL, hW⟩
  · iterate 2 (refine kst rfl rfl ?_)
    refine kre rfl rfl ?_
    exact ⟨_, _, rfl, hL, hW⟩
/-- 288: FourPotsModel orNone -/
def W288 (a1 : Int32) (h : TH) (C : Int32 → TH → Prop) : Prop :=
  if ¬ a1 = (-1) then (W206 a1 h (fun v1 h2 => C v1 h2)) else (W205 6 h (fun v3 h4 => C v3 h4))

theorem R288 {d : Nat} {a1 : Int32} {h : TH} {C : Int32 → TH → Prop} (hL : Lay h) (hW : W288 a1 h C) : xPk (d + 1) 288 [.ref 197, .int a1] h.X (postI C) := by
  unfold W288 at hW
  refine kin (Nat.le_of_ble_eq_true rfl) ?_
  iterate 2 (refine kst rfl rfl ?_)
  refine wcm_ne rfl hW (fun hW => ?_) (fun hW => ?_)
  · iterate 2 (refine kst rfl rfl ?_)
    refine wcvI rfl (oK12 hL rfl) rfl rfl (R206 (d := d + 0) (h := h) hL hW) (fun v1 h2 hL hW => ?_)
    refine kre rfl rfl ?_
    exact ⟨_, _, rfl, hL, hW⟩
  · iterate 2 (refine kst rfl rfl ?_)
    refine wcvI rfl (oK12 hL rfl) rfl rfl (R205 (d := d + 0) (h := h) hL hW) (fun v3 h4 hL hW => ?_)
    refine kst rfl rfl ?_
    refine kre rfl rfl ?_
    exact ⟨_, _, rfl, hL, hW⟩
/-- 289: FourPotsModel work -/
def W289 (a1 : Int32) (h : TH) (C : Int32 → TH → Prop) : Prop :=
  W249 a1 h (fun v1 => if ¬ v1 = 0 then (W263 0 (-1) h (fun h2 => W287 a1 h2 (fun v3 h4 => W288 v3 h4 (fun v5 h6 => C v5 h6)))) else (W205 1 h (fun v7 h8 => C v7 h8)))

theorem R289 {d : Nat} {a1 : Int32} {h : TH} {C : Int32 → TH → Prop} (hL : Lay h) (hW : W289 a1 h C) : xPk (d + 7) 289 [.ref 197, .int a1] h.X (postI C) := by
  unfold W289 at hW
  refine kin (Nat.le_of_ble_eq_true rfl) ?_
  iterate 2 (refine kst rfl rfl ?_)
  refine qcvI rfl (oK12 hL rfl) rfl rfl (R249 (d := d + 5) (h := h) hL hW) (fun v1 hW => ?_)
  refine wif_ne rfl hW (fun hW => ?_) (fun hW => ?_)
  · iterate 3 (refine kst rfl rfl ?_)
    refine wcvV rfl (oK12 hL rfl) rfl rfl (R263 (d := d + 4) (h := h) hL hW) (fun h2 hL hW => ?_)
    iterate 3 (refine kst rfl rfl ?_)
    refine wcvI rfl (oK12 hL rfl) rfl rfl (R287 (d := d + 0) (h := h2) hL hW) (fun v3 h4 hL hW => ?_)
    refine wcvI rfl (oK12 hL rfl) rfl rfl (R288 (d := d + 5) (h := h4) hL hW) (fun v5 h6 hL hW => ?_)
    refine kre rfl rfl ?_
    exact ⟨_, _, rfl, hL, hW⟩
  · iterate 2 (refine kst rfl rfl ?_)
    refine wcvI rfl (oK12 hL rfl) rfl rfl (R205 (d := d + 6) (h := h) hL hW) (fun v7 h8 hL hW => ?_)
    refine kre rfl rfl ?_
    exact ⟨_, _, rfl, hL, hW⟩
/-- 290: FourPotsModel steps -/
def W290 (a1 : Int32) (h : TH) (C : Int32 → TH → Prop) : Prop :=
  W249 a1 h (fun v1 => if ¬ v1 = 0 then (W263 0 (-1) h (fun h2 => W284 a1 0 h2 (fun h3 => if ¬ (h3.I 208 (ix 0)) = 2000000000 then (W288 (h3.I 208 (ix 0)) h3 (fun v4 h5 => C v4 h5)) else (W288 (-1) h3 (fun v6 h7 => C v6 h7))))) else (W205 1 h (fun v8 h9 => C v8 h9)))

theorem R290 {d : Nat} {a1 : Int32} {h : TH} {C : Int32 → TH → Prop} (hL : Lay h) (hW : W290 a1 h C) : xPk (d + 6) 290 [.ref 197, .int a1] h.X (postI C) := by
  unfold W290 at hW
  refine kin (Nat.le_of_ble_eq_true rfl) ?_
  iterate 2 (refine kst rfl rfl ?_)
  refine qcvI rfl (oK12 hL rfl) rfl rfl (R249 (d := d + 4) (h := h) hL hW) (fun v1 hW => ?_)
  refine wif_ne rfl hW (fun hW => ?_) (fun hW => ?_)
  · iterate 3 (refine kst rfl rfl ?_)
    refine wcvV rfl (oK12 hL rfl) rfl rfl (R263 (d := d + 3) (h := h) hL hW) (fun h2 hL hW => ?_)
    iterate 3 (refine kst rfl rfl ?_)
    refine wcvV rfl (oK12 hL rfl) rfl rfl (R284 (d := d + 0) (h := h2) hL hW) (fun h3 hL hW => ?_)
    iterate 2 (refine kst rfl rfl ?_)
    refine wgetP (b := 208) rfl (oK12 hL rfl) rfl (oP12_26 hL) ?_
    refine kst rfl rfl ?_
    refine wald rfl (Or.inl (aK12_26 hL)) (aN12_26 hL) (by decide) ⟨by decide, by decide⟩ ?_
    refine kst rfl rfl ?_
    refine wcm_ne rfl hW (fun hW => ?_) (fun hW => ?_)
    · refine kst rfl rfl ?_
      refine wgetP (b := 208) rfl (oK12 hL rfl) rfl (oP12_26 hL) ?_
      refine kst rfl rfl ?_
      refine wald rfl (Or.inl (aK12_26 hL)) (aN12_26 hL) (by decide) ⟨by decide, by decide⟩ ?_
      refine wcvI rfl (oK12 hL rfl) rfl rfl (R288 (d := d + 4) (h := h3) hL hW) (fun v4 h5 hL hW => ?_)
      refine kre rfl rfl ?_
      exact ⟨_, _, rfl, hL, hW⟩
    · iterate 2 (refine kst rfl rfl ?_)
      refine wcvI rfl (oK12 hL rfl) rfl rfl (R288 (d := d + 4) (h := h3) hL hW) (fun v6 h7 hL hW => ?_)
      refine kre rfl rfl ?_
      exact ⟨_, _, rfl, hL, hW⟩
  · iterate 2 (refine kst rfl rfl ?_)
    refine wcvI rfl (oK12 hL rfl) rfl rfl (R205 (d := d + 5) (h := h) hL hW) (fun v8 h9 hL hW => ?_)
    refine kre rfl rfl ?_
    exact ⟨_, _, rfl, hL, hW⟩
/-- 291: FourPotsModel isOnWay -/
def W291 (a1 : Int32) (a2 : Int32) (a3 : Int32) (h : TH) (C : Int32 → Prop) : Prop :=
  if a2 = (-1) then (C 0) else (inb a2 4096 ∧ if 2000000000 ≤ (h.I 208 (ix a2)) then (C 0) else (inb a1 4096 ∧ inb a2 4096 ∧ if ¬ (h.I 208 (ix a1)) = ((h.I 208 (ix a2)) + a3) then (C 0) else (C 1)))

theorem R291 {d : Nat} {a1 : Int32} {a2 : Int32} {a3 : Int32} {h : TH} {C : Int32 → Prop} (hL : Lay h) (hW : W291 a1 a2 a3 h C) : xPk d 291 [.ref 197, .int a1, .int a2, .int a3] h.X (qostI h C) := by
  unfold W291 at hW
  refine kin (Nat.le_of_ble_eq_true rfl) ?_
  iterate 2 (refine kst rfl rfl ?_)
  refine wcm_eq rfl hW (fun hW => ?_) (fun hW => ?_)
  · refine kst rfl rfl ?_
    refine kre rfl rfl ?_
    exact ⟨_, rfl, hW⟩
  · refine kst rfl rfl ?_
    refine wgetP (b := 208) rfl (oK12 hL rfl) rfl (oP12_26 hL) ?_
    refine kst rfl rfl ?_
    obtain ⟨q1, hW⟩ := hW
    refine wald rfl (Or.inl (aK12_26 hL)) (aN12_26 hL) (by decide) q1 ?_
    refine kst rfl rfl ?_
    refine wcm_ge rfl hW (fun hW => ?_) (fun hW => ?_)
    · refine kst rfl rfl ?_
      refine kre rfl rfl ?_
      exact ⟨_, rfl, hW⟩
    · refine kst rfl rfl ?_
      refine wgetP (b := 208) rfl (oK12 hL rfl) rfl (oP12_26 hL) ?_
      refine kst rfl rfl ?_
      obtain ⟨q2, hW⟩ := hW
      refine wald rfl (Or.inl (aK12_26 hL)) (aN12_26 hL) (by decide) q2 ?_
      refine kst rfl rfl ?_
      refine wgetP (b := 208) rfl (oK12 hL rfl) rfl (oP12_26 hL) ?_
      refine kst rfl rfl ?_
      obtain ⟨q3, hW⟩ := hW
      refine wald rfl (Or.inl (aK12_26 hL)) (aN12_26 hL) (by decide) q3 ?_
      iterate 2 (refine kst rfl rfl ?_)
      refine wcm_ne rfl hW (fun hW => ?_) (fun hW => ?_)
      · refine kst rfl rfl ?_
        refine kre rfl rfl ?_
        exact ⟨_, rfl, hW⟩
      · iterate 2 (refine kst rfl rfl ?_)
        refine kre rfl rfl ?_
        exact ⟨_, rfl, hW⟩
/-- 292: FourPotsModel walks -/
def F292_185 (a1 : Int32) (x2 : Int32) (C : Int32 → TH → Prop) (X185 : Int32 × TH → Prop) : Int32 × TH → Prop := fun
  | (x3, h) =>
    W250 a1 x3 h (fun v1 => if v1 = 0 then (X185 ((x3 + 1), h)) else (W291 a1 (a1 &&& ((ishl 1 x3) ^^^ (-1))) 1 h (fun v2 => if ¬ v2 = 0 then (inb x2 4096 ∧ inb x2 4096 ∧ C (a1 &&& ((ishl 1 x3) ^^^ (-1))) ((h.sI 209 (ix x2) 2).sI 210 (ix x2) x3)) else (X185 ((x3 + 1), h)))))
def B292_185 (a1 : Int32) (x2 : Int32) (x3 : Int32) (h : TH) (C : Int32 → TH → Prop) : Prop := LFP (F292_185 a1 x2 C) (x3, h)
def F292_104 (a1 : Int32) (x2 : Int32) (x3 : Int32) (C : Int32 → TH → Prop) (X91 : Int32 × TH → Prop) (X104 : Int32 × TH → Prop) : Int32 × TH → Prop := fun
  | (x4, h) =>
    if x3 ≤ x4 then (X91 ((x3 + 1), h)) else (W268 a1 a1 x3 x4 h (fun v1 => W251 x3 0 h (fun v2 => W291 a1 v1 (1 + (4096 * v2)) h (fun v3 => if ¬ v3 = 0 then (inb x2 4096 ∧ inb x2 4096 ∧ inb x2 4096 ∧ C v1 (((h.sI 209 (ix x2) 1).sI 210 (ix x2) x3).sI 211 (ix x2) x4)) else (X104 ((x4 + 1), h))))))
def B292_104 (a1 : Int32) (x2 : Int32) (x3 : Int32) (x4 : Int32) (h : TH) (C : Int32 → TH → Prop) (X91 : Int32 × TH → Prop) : Prop := LFP (F292_104 a1 x2 x3 C X91) (x4, h)
def F292_91 (a1 : Int32) (x2 : Int32) (C : Int32 → TH → Prop) (X91 : Int32 × TH → Prop) : Int32 × TH → Prop := fun
  | (x3, h) =>
    if (h.I 198 (ix 0)) ≤ x3 then (B292_185 a1 x2 0 h C) else (B292_104 a1 x2 x3 0 h C X91)
def B292_91 (a1 : Int32) (x2 : Int32) (x3 : Int32) (h : TH) (C : Int32 → TH → Prop) : Prop := LFP (F292_91 a1 x2 C) (x3, h)
def F292_24 (a1 : Int32) (x2 : Int32) (C : Int32 → TH → Prop) (X24 : Int32 × TH → Prop) : Int32 × TH → Prop := fun
  | (x3, h) =>
    if (h.I 198 (ix 0)) ≤ x3 then (B292_91 a1 x2 0 h C) else (W267 a1 x3 h (fun v1 => W255 x3 h (fun v2 => W291 a1 v1 (1 + (4096 * v2)) h (fun v3 => if ¬ v3 = 0 then (inb x2 4096 ∧ inb x2 4096 ∧ C v1 ((h.sI 209 (ix x2) 0).sI 210 (ix x2) x3)) else (X24 ((x3 + 1), h))))))
def B292_24 (a1 : Int32) (x2 : Int32) (x3 : Int32) (h : TH) (C : Int32 → TH → Prop) : Prop := LFP (F292_24 a1 x2 C) (x3, h)
def W292 (a1 : Int32) (h : TH) (C : Int32 → TH → Prop) : Prop :=
  inb (h.I 197 30) 4096 ∧ B292_24 a1 (h.I 197 30) 0 ((h.sI 197 30 ((h.I 197 30) + 1)).sI 211 (ix (h.I 197 30)) (-1)) C

theorem R292_185 {d : Nat} {a1 : Int32} {x2 : Int32} {x3 : Int32} {h : TH} {C : Int32 → TH → Prop} (hL : Lay h) (hW : B292_185 a1 x2 x3 h C) : xEk (d + 4) 292 (185, [(0, .ref 197), (1, .int a1), (2, .int x2), (3, .int x3)], [], h.X) (postI C) := by
  refine hW (fun s => Lay (s.2) → xEk (d + 4) 292 (185, [(0, .ref 197), (1, .int a1), (2, .int x2), (3, .int (s.1))], [], (TH.X (s.2))) (postI C)) ?_ hL
  rintro ⟨x3, h⟩ hW hL
  have k185 : ∀ s : Int32 × TH, (fun s => Lay (s.2) → xEk (d + 4) 292 (185, [(0, .ref 197), (1, .int a1), (2, .int x2), (3, .int (s.1))], [], (TH.X (s.2))) (postI C)) s → Lay (s.2) → xEk (d + 4) 292 (185, [(0, .ref 197), (1, .int a1), (2, .int x2), (3, .int (s.1))], [], (TH.X (s.2))) (postI C) := fun s hs => hs
  unfold F292_185 at hW
  dsimp only at hW
  iterate 2 (refine kst rfl rfl ?_)
  refine qcaI rfl rfl (R250 (d := d + 3) (h := h) hL hW) (fun v1 hW => ?_)
  refine wif_eq rfl hW (fun hW => ?_) (fun hW => ?_)
  · iterate 2 (refine kst rfl rfl ?_)
    have z9 := k185 ((x3 + 1), h) hW hL
    refine wjp ?_ z9
    exact ⟨rfl, rfl, rfl, rfl, trivial⟩
  · iterate 10 (refine kst rfl rfl ?_)
    refine qcvI rfl (oK12 hL rfl) rfl rfl (R291 (d := d + 3) (h := h) hL hW) (fun v2 hW => ?_)
    refine wif_ne rfl hW (fun hW => ?_) (fun hW => ?_)
    · refine kst rfl rfl ?_
      refine wgetP (b := 209) rfl (oK12 hL rfl) rfl (oP12_27 hL) ?_
      iterate 2 (refine kst rfl rfl ?_)
      obtain ⟨q2, hW⟩ := hW
      refine wast rfl (aK12_27 hL) (aN12_27 hL) (by decide) q2 ?_
      replace hL : Lay (h.sI 209 (ix x2) 2) := lsI hL
      refine kst rfl rfl ?_
      refine wgetP (b := 210) rfl (oK12 hL rfl) rfl (oP12_28 hL) ?_
      iterate 2 (refine kst rfl rfl ?_)
      obtain ⟨q3, hW⟩ := hW
      refine wast rfl (aK12_28 hL) (aN12_28 hL) (by decide) q3 ?_
      replace hL : Lay ((h.sI 209 (ix x2) 2).sI 210 (ix x2) x3) := lsI hL
      iterate 7 (refine kst rfl rfl ?_)
      refine kre rfl rfl ?_
      exact ⟨_, _, rfl, hL, hW⟩
    · iterate 2 (refine kst rfl rfl ?_)
      have z9 := k185 ((x3 + 1), h) hW hL
      refine wjp ?_ z9
      exact ⟨rfl, rfl, rfl, rfl, trivial⟩
theorem R292_104 {d : Nat} {a1 : Int32} {x2 : Int32} {x3 : Int32} {x4 : Int32} {h : TH} {C : Int32 → TH → Prop} {X91 : Int32 × TH → Prop} (k91 : ∀ s : Int32 × TH, X91 s → Lay (s.2) → xEk (d + 4) 292 (91, [(0, .ref 197), (1, .int a1), (2, .int x2), (3, .int (s.1))], [], (TH.X (s.2))) (postI C)) (hL : Lay h) (hW : B292_104 a1 x2 x3 x4 h C X91) : xEk (d + 4) 292 (104, [(0, .ref 197), (1, .int a1), (2, .int x2), (3, .int x3), (4, .int x4)], [], h.X) (postI C) := by
  refine hW (fun s => Lay (s.2) → xEk (d + 4) 292 (104, [(0, .ref 197), (1, .int a1), (2, .int x2), (3, .int x3), (4, .int (s.1))], [], (TH.X (s.2))) (postI C)) ?_ hL
  rintro ⟨x4, h⟩ hW hL
  have k104 : ∀ s : Int32 × TH, (fun s => Lay (s.2) → xEk (d + 4) 292 (104, [(0, .ref 197), (1, .int a1), (2, .int x2), (3, .int x3), (4, .int (s.1))], [], (TH.X (s.2))) (postI C)) s → Lay (s.2) → xEk (d + 4) 292 (104, [(0, .ref 197), (1, .int a1), (2, .int x2), (3, .int x3), (4, .int (s.1))], [], (TH.X (s.2))) (postI C) := fun s hs => hs
  unfold F292_104 at hW
  dsimp only at hW
  iterate 2 (refine kst rfl rfl ?_)
  refine wcm_ge rfl hW (fun hW => ?_) (fun hW => ?_)
  · iterate 2 (refine kst rfl rfl ?_)
    have z9 := k91 ((x3 + 1), h) hW hL
    refine wjp ?_ z9
    exact ⟨rfl, rfl, rfl, rfl, trivial⟩
  · iterate 5 (refine kst rfl rfl ?_)
    refine qcvI rfl (oK12 hL rfl) rfl rfl (R268 (d := d + 1) (h := h) hL hW) (fun v1 hW => ?_)
    iterate 9 (refine kst rfl rfl ?_)
    refine qcvI rfl (oK12 hL rfl) rfl rfl (R251 (d := d + 3) (h := h) hL hW) (fun v2 hW => ?_)
    iterate 2 (refine kst rfl rfl ?_)
    refine qcvI rfl (oK12 hL rfl) rfl rfl (R291 (d := d + 3) (h := h) hL hW) (fun v3 hW => ?_)
    refine wif_ne rfl hW (fun hW => ?_) (fun hW => ?_)
    · refine kst rfl rfl ?_
      refine wgetP (b := 209) rfl (oK12 hL rfl) rfl (oP12_27 hL) ?_
      iterate 2 (refine kst rfl rfl ?_)
      obtain ⟨q2, hW⟩ := hW
      refine wast rfl (aK12_27 hL) (aN12_27 hL) (by decide) q2 ?_
      replace hL : Lay (h.sI 209 (ix x2) 1) := lsI hL
      refine kst rfl rfl ?_
      refine wgetP (b := 210) rfl (oK12 hL rfl) rfl (oP12_28 hL) ?_
      iterate 2 (refine kst rfl rfl ?_)
      obtain ⟨q3, hW⟩ := hW
      refine wast rfl (aK12_28 hL) (aN12_28 hL) (by decide) q3 ?_
      replace hL : Lay ((h.sI 209 (ix x2) 1).sI 210 (ix x2) x3) := lsI hL
      refine kst rfl rfl ?_
      refine wgetP (b := 211) rfl (oK12 hL rfl) rfl (oP12_29 hL) ?_
      iterate 2 (refine kst rfl rfl ?_)
      obtain ⟨q4, hW⟩ := hW
      refine wast rfl (aK12_29 hL) (aN12_29 hL) (by decide) q4 ?_
      replace hL : Lay (((h.sI 209 (ix x2) 1).sI 210 (ix x2) x3).sI 211 (ix x2) x4) := lsI hL
      refine kst rfl rfl ?_
      refine kre rfl rfl ?_
      exact ⟨_, _, rfl, hL, hW⟩
    · iterate 3 (refine kst rfl rfl ?_)
      have z9 := k104 ((x4 + 1), h) hW hL
      refine wjp ?_ z9
      exact ⟨rfl, rfl, rfl, rfl, rfl, trivial⟩
theorem R292_91 {d : Nat} {a1 : Int32} {x2 : Int32} {x3 : Int32} {h : TH} {C : Int32 → TH → Prop} (hL : Lay h) (hW : B292_91 a1 x2 x3 h C) : xEk (d + 4) 292 (91, [(0, .ref 197), (1, .int a1), (2, .int x2), (3, .int x3)], [], h.X) (postI C) := by
  refine hW (fun s => Lay (s.2) → xEk (d + 4) 292 (91, [(0, .ref 197), (1, .int a1), (2, .int x2), (3, .int (s.1))], [], (TH.X (s.2))) (postI C)) ?_ hL
  rintro ⟨x3, h⟩ hW hL
  have k91 : ∀ s : Int32 × TH, (fun s => Lay (s.2) → xEk (d + 4) 292 (91, [(0, .ref 197), (1, .int a1), (2, .int x2), (3, .int (s.1))], [], (TH.X (s.2))) (postI C)) s → Lay (s.2) → xEk (d + 4) 292 (91, [(0, .ref 197), (1, .int a1), (2, .int x2), (3, .int (s.1))], [], (TH.X (s.2))) (postI C) := fun s hs => hs
  unfold F292_91 at hW
  dsimp only at hW
  iterate 2 (refine kst rfl rfl ?_)
  refine wgetP (b := 198) rfl (oK12 hL rfl) rfl (oP12_0 hL) ?_
  refine kst rfl rfl ?_
  refine wald rfl (Or.inl (aK12_0 hL)) (aN12_0 hL) (by decide) ⟨by decide, by decide⟩ ?_
  refine wcm_ge rfl hW (fun hW => ?_) (fun hW => ?_)
  · iterate 2 (refine kst rfl rfl ?_)
    refine wjp ?_ (R292_185 (h := h) hL hW)
    exact ⟨rfl, rfl, rfl, rfl, trivial⟩
  · iterate 2 (refine kst rfl rfl ?_)
    refine wjp ?_ (R292_104 (h := h) k91 hL hW)
    exact ⟨rfl, rfl, rfl, rfl, rfl, trivial⟩
theorem R292_24 {d : Nat} {a1 : Int32} {x2 : Int32} {x3 : Int32} {h : TH} {C : Int32 → TH → Prop} (hL : Lay h) (hW : B292_24 a1 x2 x3 h C) : xEk (d + 4) 292 (24, [(0, .ref 197), (1, .int a1), (2, .int x2), (3, .int x3)], [], h.X) (postI C) := by
  refine hW (fun s => Lay (s.2) → xEk (d + 4) 292 (24, [(0, .ref 197), (1, .int a1), (2, .int x2), (3, .int (s.1))], [], (TH.X (s.2))) (postI C)) ?_ hL
  rintro ⟨x3, h⟩ hW hL
  have k24 : ∀ s : Int32 × TH, (fun s => Lay (s.2) → xEk (d + 4) 292 (24, [(0, .ref 197), (1, .int a1), (2, .int x2), (3, .int (s.1))], [], (TH.X (s.2))) (postI C)) s → Lay (s.2) → xEk (d + 4) 292 (24, [(0, .ref 197), (1, .int a1), (2, .int x2), (3, .int (s.1))], [], (TH.X (s.2))) (postI C) := fun s hs => hs
  unfold F292_24 at hW
  dsimp only at hW
  iterate 2 (refine kst rfl rfl ?_)
  refine wgetP (b := 198) rfl (oK12 hL rfl) rfl (oP12_0 hL) ?_
  refine kst rfl rfl ?_
  refine wald rfl (Or.inl (aK12_0 hL)) (aN12_0 hL) (by decide) ⟨by decide, by decide⟩ ?_
  refine wcm_ge rfl hW (fun hW => ?_) (fun hW => ?_)
  · iterate 2 (refine kst rfl rfl ?_)
    refine wjp ?_ (R292_91 (h := h) hL hW)
    exact ⟨rfl, rfl, rfl, rfl, trivial⟩
  · iterate 3 (refine kst rfl rfl ?_)
    refine qcvI rfl (oK12 hL rfl) rfl rfl (R267 (d := d + 0) (h := h) hL hW) (fun v1 hW => ?_)
    iterate 8 (refine kst rfl rfl ?_)
    refine qcvI rfl (oK12 hL rfl) rfl rfl (R255 (d := d + 1) (h := h) hL hW) (fun v2 hW => ?_)
    iterate 2 (refine kst rfl rfl ?_)
    refine qcvI rfl (oK12 hL rfl) rfl rfl (R291 (d := d + 3) (h := h) hL hW) (fun v3 hW => ?_)
    refine wif_ne rfl hW (fun hW => ?_) (fun hW => ?_)
    · refine kst rfl rfl ?_
      refine wgetP (b := 209) rfl (oK12 hL rfl) rfl (oP12_27 hL) ?_
      iterate 2 (refine kst rfl rfl ?_)
      obtain ⟨q2, hW⟩ := hW
      refine wast rfl (aK12_27 hL) (aN12_27 hL) (by decide) q2 ?_
      replace hL : Lay (h.sI 209 (ix x2) 0) := lsI hL
      refine kst rfl rfl ?_
      refine wgetP (b := 210) rfl (oK12 hL rfl) rfl (oP12_28 hL) ?_
      iterate 2 (refine kst rfl rfl ?_)
      obtain ⟨q3, hW⟩ := hW
      refine wast rfl (aK12_28 hL) (aN12_28 hL) (by decide) q3 ?_
      replace hL : Lay ((h.sI 209 (ix x2) 0).sI 210 (ix x2) x3) := lsI hL
      refine kst rfl rfl ?_
      refine kre rfl rfl ?_
      exact ⟨_, _, rfl, hL, hW⟩
    · iterate 3 (refine kst rfl rfl ?_)
      have z9 := k24 ((x3 + 1), h) hW hL
      refine wjp ?_ z9
      exact ⟨rfl, rfl, rfl, rfl, trivial⟩
theorem R292 {d : Nat} {a1 : Int32} {h : TH} {C : Int32 → TH → Prop} (hL : Lay h) (hW : W292 a1 h C) : xPk (d + 4) 292 [.ref 197, .int a1] h.X (postI C) := by
  unfold W292 at hW
  refine kin (Nat.le_of_ble_eq_true rfl) ?_
  refine kst rfl rfl ?_
  refine wgetI rfl (oK12 hL rfl) rfl ?_
  iterate 3 (refine kst rfl rfl ?_)
  refine wgetI rfl (oK12 hL rfl) rfl ?_
  iterate 2 (refine kst rfl rfl ?_)
  refine wputI rfl (oK12 hL rfl) rfl ?_
  replace hL : Lay (h.sI 197 30 ((h.I 197 30) + 1)) := lsI hL
  refine kst rfl rfl ?_
  refine wgetP (b := 211) rfl (oK12 hL rfl) rfl (oP12_29 hL) ?_
  iterate 2 (refine kst rfl rfl ?_)
  obtain ⟨q1, hW⟩ := hW
  refine wast rfl (aK12_29 hL) (aN12_29 hL) (by decide) q1 ?_
  replace hL : Lay ((h.sI 197 30 ((h.I 197 30) + 1)).sI 211 (ix (h.I 197 30)) (-1)) := lsI hL
  iterate 2 (refine kst rfl rfl ?_)
  refine wjp ?_ (R292_24 (h := ((h.sI 197 30 ((h.I 197 30) + 1)).sI 211 (ix (h.I 197 30)) (-1))) hL hW)
  exact ⟨rfl, rfl, rfl, rfl, trivial⟩
/-- 293: FourPotsModel first -/
def F293_43 (a1 : Int32) (C : Int32 → TH → Prop) (X43 : Int32 × TH → Prop) : Int32 × TH → Prop := fun
  | (x2, h) =>
    if (a1 &&& (x2 ^^^ (-1))) = 0 then (W206 (h.I 197 30) h (fun v5 h6 => C v5 h6)) else (W292 x2 h (fun v7 h8 => X43 (v7, h8)))
def B293_43 (a1 : Int32) (x2 : Int32) (h : TH) (C : Int32 → TH → Prop) : Prop := LFP (F293_43 a1 C) (x2, h)
def W293 (a1 : Int32) (h : TH) (C : Int32 → TH → Prop) : Prop :=
  W249 a1 h (fun v1 => if ¬ v1 = 0 then (W263 0 (-1) h (fun h2 => W287 a1 h2 (fun v3 h4 => if ¬ v3 = (-1) then (B293_43 a1 0 (h4.sI 197 30 0) C) else (W205 6 h4 (fun v5 h6 => C v5 h6))))) else (W205 1 h (fun v7 h8 => C v7 h8)))

theorem R293_43 {d : Nat} {a1 : Int32} {x2 : Int32} {h : TH} {C : Int32 → TH → Prop} (hL : Lay h) (hW : B293_43 a1 x2 h C) : xEk (d + 7) 293 (43, [(0, .ref 197), (1, .int a1), (2, .int x2)], [], h.X) (postI C) := by
  refine hW (fun s => Lay (s.2) → xEk (d + 7) 293 (43, [(0, .ref 197), (1, .int a1), (2, .int (s.1))], [], (TH.X (s.2))) (postI C)) ?_ hL
  rintro ⟨x2, h⟩ hW hL
  have k43 : ∀ s : Int32 × TH, (fun s => Lay (s.2) → xEk (d + 7) 293 (43, [(0, .ref 197), (1, .int a1), (2, .int (s.1))], [], (TH.X (s.2))) (postI C)) s → Lay (s.2) → xEk (d + 7) 293 (43, [(0, .ref 197), (1, .int a1), (2, .int (s.1))], [], (TH.X (s.2))) (postI C) := fun s hs => hs
  unfold F293_43 at hW
  dsimp only at hW
  iterate 5 (refine kst rfl rfl ?_)
  refine wif_eq rfl hW (fun hW => ?_) (fun hW => ?_)
  · iterate 2 (refine kst rfl rfl ?_)
    refine wgetI rfl (oK12 hL rfl) rfl ?_
    refine wcvI rfl (oK12 hL rfl) rfl rfl (R206 (d := d + 6) (h := h) hL hW) (fun v5 h6 hL hW => ?_)
    refine kre rfl rfl ?_
    exact ⟨_, _, rfl, hL, hW⟩
  · iterate 2 (refine kst rfl rfl ?_)
    refine wcvI rfl (oK12 hL rfl) rfl rfl (R292 (d := d + 2) (h := h) hL hW) (fun v7 h8 hL hW => ?_)
    iterate 2 (refine kst rfl rfl ?_)
    have z9 := k43 (v7, h8) hW hL
    refine wjp ?_ z9
    exact ⟨rfl, rfl, rfl, trivial⟩
theorem R293 {d : Nat} {a1 : Int32} {h : TH} {C : Int32 → TH → Prop} (hL : Lay h) (hW : W293 a1 h C) : xPk (d + 7) 293 [.ref 197, .int a1] h.X (postI C) := by
  unfold W293 at hW
  refine kin (Nat.le_of_ble_eq_true rfl) ?_
  iterate 2 (refine kst rfl rfl ?_)
  refine qcvI rfl (oK12 hL rfl) rfl rfl (R249 (d := d + 5) (h := h) hL hW) (fun v1 hW => ?_)
  refine wif_ne rfl hW (fun hW => ?_) (fun hW => ?_)
  · iterate 3 (refine kst rfl rfl ?_)
    refine wcvV rfl (oK12 hL rfl) rfl rfl (R263 (d := d + 4) (h := h) hL hW) (fun h2 hL hW => ?_)
    iterate 2 (refine kst rfl rfl ?_)
    refine wcvI rfl (oK12 hL rfl) rfl rfl (R287 (d := d + 0) (h := h2) hL hW) (fun v3 h4 hL hW => ?_)
    refine kst rfl rfl ?_
    refine wcm_ne rfl hW (fun hW => ?_) (fun hW => ?_)
    · iterate 2 (refine kst rfl rfl ?_)
      refine wputI rfl (oK12 hL rfl) rfl ?_
      replace hL : Lay (h4.sI 197 30 0) := lsI hL
      iterate 2 (refine kst rfl rfl ?_)
      refine wjp ?_ (R293_43 (h := (h4.sI 197 30 0)) hL hW)
      exact ⟨rfl, rfl, rfl, trivial⟩
    · iterate 2 (refine kst rfl rfl ?_)
      refine wcvI rfl (oK12 hL rfl) rfl rfl (R205 (d := d + 6) (h := h4) hL hW) (fun v5 h6 hL hW => ?_)
      refine kre rfl rfl ?_
      exact ⟨_, _, rfl, hL, hW⟩
  · iterate 2 (refine kst rfl rfl ?_)
    refine wcvI rfl (oK12 hL rfl) rfl rfl (R205 (d := d + 6) (h := h) hL hW) (fun v7 h8 hL hW => ?_)
    refine kre rfl rfl ?_
    exact ⟨_, _, rfl, hL, hW⟩
/-- 294: FourPotsModel firstAt -/
def W294 (a1 : Int32) (a2 : Int32) (h : TH) (C : Int32 → TH → Prop) : Prop :=
  if a2 < 0 then (W205 1 h (fun v1 h2 => C v1 h2)) else (if a2 ≤ 2 then (if a1 < 0 then (W205 6 h (fun v3 h4 => C v3 h4)) else (if a1 < (h.I 197 30) then (if ¬ a2 = 2 then (if ¬ a2 = 0 then (inb a1 4096 ∧ W206 (h.I 210 (ix a1)) h (fun v5 h6 => C v5 h6)) else (inb a1 4096 ∧ W206 (h.I 209 (ix a1)) h (fun v7 h8 => C v7 h8))) else (inb a1 4096 ∧ W288 (h.I 211 (ix a1)) h (fun v9 h10 => C v9 h10))) else (W205 6 h (fun v11 h12 => C v11 h12)))) else (W205 1 h (fun v13 h14 => C v13 h14)))

theorem R294 {d : Nat} {a1 : Int32} {a2 : Int32} {h : TH} {C : Int32 → TH → Prop} (hL : Lay h) (hW : W294 a1 a2 h C) : xPk (d + 2) 294 [.ref 197, .int a1, .int a2] h.X (postI C) := by
  unfold W294 at hW
  refine kin (Nat.le_of_ble_eq_true rfl) ?_
  refine kst rfl rfl ?_
  refine wif_lt rfl hW (fun hW => ?_) (fun hW => ?_)
  · iterate 2 (refine kst rfl rfl ?_)
    refine wcvI rfl (oK12 hL rfl) rfl rfl (R205 (d := d + 1) (h := h) hL hW) (fun v1 h2 hL hW => ?_)
    refine kre rfl rfl ?_
    exact ⟨_, _, rfl, hL, hW⟩
  · iterate 2 (refine kst rfl rfl ?_)
    refine wcm_le rfl hW (fun hW => ?_) (fun hW => ?_)
    · refine kst rfl rfl ?_
      refine wif_lt rfl hW (fun hW => ?_) (fun hW => ?_)
      · iterate 2 (refine kst rfl rfl ?_)
        refine wcvI rfl (oK12 hL rfl) rfl rfl (R205 (d := d + 1) (h := h) hL hW) (fun v3 h4 hL hW => ?_)
        refine kre rfl rfl ?_
        exact ⟨_, _, rfl, hL, hW⟩
      · iterate 2 (refine kst rfl rfl ?_)
        refine wgetI rfl (oK12 hL rfl) rfl ?_
        refine wcm_lt rfl hW (fun hW => ?_) (fun hW => ?_)
        · iterate 2 (refine kst rfl rfl ?_)
          refine wcm_ne rfl hW (fun hW => ?_) (fun hW => ?_)
          · iterate 2 (refine kst rfl rfl ?_)
            refine wif_ne rfl hW (fun hW => ?_) (fun hW => ?_)
            · refine kst rfl rfl ?_
              refine wgetP (b := 210) rfl (oK12 hL rfl) rfl (oP12_28 hL) ?_
              refine kst rfl rfl ?_
              obtain ⟨q1, hW⟩ := hW
              refine wald rfl (Or.inl (aK12_28 hL)) (aN12_28 hL) (by decide) q1 ?_
              refine wcvI rfl (oK12 hL rfl) rfl rfl (R206 (d := d + 1) (h := h) hL hW) (fun v5 h6 hL hW => ?_)
              refine kre rfl rfl ?_
              exact ⟨_, _, rfl, hL, hW⟩
            · refine kst rfl rfl ?_
              refine wgetP (b := 209) rfl (oK12 hL rfl) rfl (oP12_27 hL) ?_
              refine kst rfl rfl ?_
              obtain ⟨q1, hW⟩ := hW
              refine wald rfl (Or.inl (aK12_27 hL)) (aN12_27 hL) (by decide) q1 ?_
              refine kst rfl rfl ?_
              refine wcvI rfl (oK12 hL rfl) rfl rfl (R206 (d := d + 1) (h := h) hL hW) (fun v7 h8 hL hW => ?_)
              refine kre rfl rfl ?_
              exact ⟨_, _, rfl, hL, hW⟩
          · iterate 2 (refine kst rfl rfl ?_)
            refine wgetP (b := 211) rfl (oK12 hL rfl) rfl (oP12_29 hL) ?_
            refine kst rfl rfl ?_
            obtain ⟨q1, hW⟩ := hW
            refine wald rfl (Or.inl (aK12_29 hL)) (aN12_29 hL) (by decide) q1 ?_
            refine wcvI rfl (oK12 hL rfl) rfl rfl (R288 (d := d + 0) (h := h) hL hW) (fun v9 h10 hL hW => ?_)
            refine kst rfl rfl ?_
            refine kre rfl rfl ?_
            exact ⟨_, _, rfl, hL, hW⟩
        · iterate 2 (refine kst rfl rfl ?_)
          refine wcvI rfl (oK12 hL rfl) rfl rfl (R205 (d := d + 1) (h := h) hL hW) (fun v11 h12 hL hW => ?_)
          refine kre rfl rfl ?_
          exact ⟨_, _, rfl, hL, hW⟩
    · iterate 2 (refine kst rfl rfl ?_)
      refine wcvI rfl (oK12 hL rfl) rfl rfl (R205 (d := d + 1) (h := h) hL hW) (fun v13 h14 hL hW => ?_)
      refine kre rfl rfl ?_
      exact ⟨_, _, rfl, hL, hW⟩
/-- 295: FourPotsModel comes -/
def W295 (a1 : Int32) (h : TH) (C : TH → Prop) : Prop :=
  if a1 = (-1) then (C h) else (inb a1 6561 ∧ if (h.I 212 (ix a1)) = 0 then (inb a1 6561 ∧ inb ((h.sI 212 (ix a1) (1 &&& 1)).I 197 33) 6561 ∧ C (((h.sI 212 (ix a1) (1 &&& 1)).sI 213 (ix ((h.sI 212 (ix a1) (1 &&& 1)).I 197 33)) a1).sI 197 33 ((((h.sI 212 (ix a1) (1 &&& 1)).sI 213 (ix ((h.sI 212 (ix a1) (1 &&& 1)).I 197 33)) a1).I 197 33) + 1))) else (C h))

theorem R295 {d : Nat} {a1 : Int32} {h : TH} {C : TH → Prop} (hL : Lay h) (hW : W295 a1 h C) : xPk d 295 [.ref 197, .int a1] h.X (postV C) := by
  unfold W295 at hW
  refine kin (Nat.le_of_ble_eq_true rfl) ?_
  iterate 2 (refine kst rfl rfl ?_)
  refine wcm_eq rfl hW (fun hW => ?_) (fun hW => ?_)
  · refine kre rfl rfl ?_
    exact ⟨_, rfl, hL, hW⟩
  · refine kst rfl rfl ?_
    refine wgetP (b := 212) rfl (oK12 hL rfl) rfl (oP12_31 hL) ?_
    refine kst rfl rfl ?_
    obtain ⟨q1, hW⟩ := hW
    refine wbald rfl (Or.inl (aK12_31 hL)) (aN12_31 hL) (by decide) q1 ?_
    refine wif_eq rfl hW (fun hW => ?_) (fun hW => ?_)
    · refine kst rfl rfl ?_
      refine wgetP (b := 212) rfl (oK12 hL rfl) rfl (oP12_31 hL) ?_
      iterate 2 (refine kst rfl rfl ?_)
      obtain ⟨q2, hW⟩ := hW
      refine wzast rfl (aK12_31 hL) (aN12_31 hL) (by decide) q2 ?_
      replace hL : Lay (h.sI 212 (ix a1) (1 &&& 1)) := lsI hL
      refine kst rfl rfl ?_
      refine wgetP (b := 213) rfl (oK12 hL rfl) rfl (oP12_32 hL) ?_
      refine kst rfl rfl ?_
      refine wgetI rfl (oK12 hL rfl) rfl ?_
      refine kst rfl rfl ?_
      obtain ⟨q3, hW⟩ := hW
      refine wast rfl (aK12_32 hL) (aN12_32 hL) (by decide) q3 ?_
      replace hL : Lay ((h.sI 212 (ix a1) (1 &&& 1)).sI 213 (ix ((h.sI 212 (ix a1) (1 &&& 1)).I 197 33)) a1) := lsI hL
      iterate 2 (refine kst rfl rfl ?_)
      refine wgetI rfl (oK12 hL rfl) rfl ?_
      iterate 2 (refine kst rfl rfl ?_)
      refine wputI rfl (oK12 hL rfl) rfl ?_
      replace hL : Lay (((h.sI 212 (ix a1) (1 &&& 1)).sI 213 (ix ((h.sI 212 (ix a1) (1 &&& 1)).I 197 33)) a1).sI 197 33 ((((h.sI 212 (ix a1) (1 &&& 1)).sI 213 (ix ((h.sI 212 (ix a1) (1 &&& 1)).I 197 33)) a1).I 197 33) + 1)) := lsI hL
      refine kre rfl rfl ?_
      exact ⟨_, rfl, hL, hW⟩
    · refine kre rfl rfl ?_
      exact ⟨_, rfl, hL, hW⟩
/-- 296: FourPotsModel canCome -/
def F296_112 (a1 : Int32) (x2 : Int32) (x3 : Int32) (x4 : Int32) (C : Int32 → TH → Prop) (X35 : Int32 × TH → Prop) (X63 : Int32 × TH → Prop) (X112 : Int32 × TH → Prop) : Int32 × TH → Prop := fun
  | (x5, h) =>
    if x4 ≤ x5 then (X63 ((x4 + 1), h)) else (W268 x3 x3 x4 x5 h (fun v6 => W295 v6 h (fun h7 => X112 ((x5 + 1), h7))))
def B296_112 (a1 : Int32) (x2 : Int32) (x3 : Int32) (x4 : Int32) (x5 : Int32) (h : TH) (C : Int32 → TH → Prop) (X35 : Int32 × TH → Prop) (X63 : Int32 × TH → Prop) : Prop := LFP (F296_112 a1 x2 x3 x4 C X35 X63) (x5, h)
def F296_63 (a1 : Int32) (x2 : Int32) (x3 : Int32) (C : Int32 → TH → Prop) (X35 : Int32 × TH → Prop) (X63 : Int32 × TH → Prop) : Int32 × TH → Prop := fun
  | (x4, h) =>
    if (h.I 198 (ix 0)) ≤ x4 then (X35 ((x2 + 1), h)) else (W250 x3 x4 h (fun v3 => if v3 = 0 then (W267 x3 x4 h (fun v4 => W295 v4 h (fun h5 => B296_112 a1 x2 x3 x4 0 h5 C X35 X63))) else (W295 (x3 &&& ((ishl 1 x4) ^^^ (-1))) h (fun h6 => B296_112 a1 x2 x3 x4 0 h6 C X35 X63))))
def B296_63 (a1 : Int32) (x2 : Int32) (x3 : Int32) (x4 : Int32) (h : TH) (C : Int32 → TH → Prop) (X35 : Int32 × TH → Prop) : Prop := LFP (F296_63 a1 x2 x3 C X35) (x4, h)
def F296_35 (a1 : Int32) (C : Int32 → TH → Prop) (X35 : Int32 × TH → Prop) : Int32 × TH → Prop := fun
  | (x2, h) =>
    if (h.I 197 33) ≤ x2 then (C 0 h) else (inb x2 6561 ∧ if ¬ (a1 &&& ((h.I 213 (ix x2)) ^^^ (-1))) = 0 then (B296_63 a1 x2 (h.I 213 (ix x2)) 0 h C X35) else (C 1 h))
def B296_35 (a1 : Int32) (x2 : Int32) (h : TH) (C : Int32 → TH → Prop) : Prop := LFP (F296_35 a1 C) (x2, h)
def F296_2 (a1 : Int32) (C : Int32 → TH → Prop) (X2 : Int32 × TH → Prop) : Int32 × TH → Prop := fun
  | (x2, h) =>
    W248  h (fun v1 => if v1 ≤ x2 then (W295 0 (h.sI 197 33 0) (fun h2 => B296_35 a1 0 h2 C)) else (inb x2 6561 ∧ X2 ((x2 + 1), (h.sI 212 (ix x2) (0 &&& 1)))))
def B296_2 (a1 : Int32) (x2 : Int32) (h : TH) (C : Int32 → TH → Prop) : Prop := LFP (F296_2 a1 C) (x2, h)
def W296 (a1 : Int32) (h : TH) (C : Int32 → TH → Prop) : Prop :=
  B296_2 a1 0 h C

theorem R296_112 {d : Nat} {a1 : Int32} {x2 : Int32} {x3 : Int32} {x4 : Int32} {x5 : Int32} {h : TH} {C : Int32 → TH → Prop} {X35 : Int32 × TH → Prop} (k35 : ∀ s : Int32 × TH, X35 s → Lay (s.2) → xEk (d + 4) 296 (35, [(0, .ref 197), (1, .int a1), (2, .int (s.1))], [], (TH.X (s.2))) (postI C)) {X63 : Int32 × TH → Prop} (k63 : ∀ s : Int32 × TH, X63 s → Lay (s.2) → xEk (d + 4) 296 (63, [(0, .ref 197), (1, .int a1), (2, .int x2), (3, .int x3), (4, .int (s.1))], [], (TH.X (s.2))) (postI C)) (hL : Lay h) (hW : B296_112 a1 x2 x3 x4 x5 h C X35 X63) : xEk (d + 4) 296 (112, [(0, .ref 197), (1, .int a1), (2, .int x2), (3, .int x3), (4, .int x4), (5, .int x5)], [], h.X) (postI C) := by
  refine hW (fun s => Lay (s.2) → xEk (d + 4) 296 (112, [(0, .ref 197), (1, .int a1), (2, .int x2), (3, .int x3), (4, .int x4), (5, .int (s.1))], [], (TH.X (s.2))) (postI C)) ?_ hL
  rintro ⟨x5, h⟩ hW hL
  have k112 : ∀ s : Int32 × TH, (fun s => Lay (s.2) → xEk (d + 4) 296 (112, [(0, .ref 197), (1, .int a1), (2, .int x2), (3, .int x3), (4, .int x4), (5, .int (s.1))], [], (TH.X (s.2))) (postI C)) s → Lay (s.2) → xEk (d + 4) 296 (112, [(0, .ref 197), (1, .int a1), (2, .int x2), (3, .int x3), (4, .int x4), (5, .int (s.1))], [], (TH.X (s.2))) (postI C) := fun s hs => hs
  unfold F296_112 at hW
  dsimp only at hW
  iterate 2 (refine kst rfl rfl ?_)
  refine wcm_ge rfl hW (fun hW => ?_) (fun hW => ?_)
  · iterate 2 (refine kst rfl rfl ?_)
    have z9 := k63 ((x4 + 1), h) hW hL
    refine wjp ?_ z9
    exact ⟨rfl, rfl, rfl, rfl, rfl, trivial⟩
  · iterate 6 (refine kst rfl rfl ?_)
    refine qcvI rfl (oK12 hL rfl) rfl rfl (R268 (d := d + 1) (h := h) hL hW) (fun v6 hW => ?_)
    refine wcvV rfl (oK12 hL rfl) rfl rfl (R295 (d := d + 3) (h := h) hL hW) (fun h7 hL hW => ?_)
    iterate 2 (refine kst rfl rfl ?_)
    have z9 := k112 ((x5 + 1), h7) hW hL
    refine wjp ?_ z9
    exact ⟨rfl, rfl, rfl, rfl, rfl, rfl, trivial⟩
theorem R296_63 {d : Nat} {a1 : Int32} {x2 : Int32} {x3 : Int32} {x4 : Int32} {h : TH} {C : Int32 → TH → Prop} {X35 : Int32 × TH → Prop} (k35 : ∀ s : Int32 × TH, X35 s → Lay (s.2) → xEk (d + 4) 296 (35, [(0, .ref 197), (1, .int a1), (2, .int (s.1))], [], (TH.X (s.2))) (postI C)) (hL : Lay h) (hW : B296_63 a1 x2 x3 x4 h C X35) : xEk (d + 4) 296 (63, [(0, .ref 197), (1, .int a1), (2, .int x2), (3, .int x3), (4, .int x4)], [], h.X) (postI C) := by
  refine hW (fun s => Lay (s.2) → xEk (d + 4) 296 (63, [(0, .ref 197), (1, .int a1), (2, .int x2), (3, .int x3), (4, .int (s.1))], [], (TH.X (s.2))) (postI C)) ?_ hL
  rintro ⟨x4, h⟩ hW hL
  have k63 : ∀ s : Int32 × TH, (fun s => Lay (s.2) → xEk (d + 4) 296 (63, [(0, .ref 197), (1, .int a1), (2, .int x2), (3, .int x3), (4, .int (s.1))], [], (TH.X (s.2))) (postI C)) s → Lay (s.2) → xEk (d + 4) 296 (63, [(0, .ref 197), (1, .int a1), (2, .int x2), (3, .int x3), (4, .int (s.1))], [], (TH.X (s.2))) (postI C) := fun s hs => hs
  unfold F296_63 at hW
  dsimp only at hW
  iterate 2 (refine kst rfl rfl ?_)
  refine wgetP (b := 198) rfl (oK12 hL rfl) rfl (oP12_0 hL) ?_
  refine kst rfl rfl ?_
  refine wald rfl (Or.inl (aK12_0 hL)) (aN12_0 hL) (by decide) ⟨by decide, by decide⟩ ?_
  refine wcm_ge rfl hW (fun hW => ?_) (fun hW => ?_)
  · iterate 2 (refine kst rfl rfl ?_)
    have z9 := k35 ((x2 + 1), h) hW hL
    refine wjp ?_ z9
    exact ⟨rfl, rfl, rfl, trivial⟩
  · iterate 2 (refine kst rfl rfl ?_)
    refine qcaI rfl rfl (R250 (d := d + 3) (h := h) hL hW) (fun v3 hW => ?_)
    refine wif_eq rfl hW (fun hW => ?_) (fun hW => ?_)
    · iterate 4 (refine kst rfl rfl ?_)
      refine qcvI rfl (oK12 hL rfl) rfl rfl (R267 (d := d + 0) (h := h) hL hW) (fun v4 hW => ?_)
      refine wcvV rfl (oK12 hL rfl) rfl rfl (R295 (d := d + 3) (h := h) hL hW) (fun h5 hL hW => ?_)
      iterate 2 (refine kst rfl rfl ?_)
      refine wjp ?_ (R296_112 (h := h5) k35 k63 hL hW)
      exact ⟨rfl, rfl, rfl, rfl, rfl, rfl, trivial⟩
    · iterate 8 (refine kst rfl rfl ?_)
      refine wcvV rfl (oK12 hL rfl) rfl rfl (R295 (d := d + 3) (h := h) hL hW) (fun h6 hL hW => ?_)
      iterate 3 (refine kst rfl rfl ?_)
      refine wjp ?_ (R296_112 (h := h6) k35 k63 hL hW)
      exact ⟨rfl, rfl, rfl, rfl, rfl, rfl, trivial⟩
theorem R296_35 {d : Nat} {a1 : Int32} {x2 : Int32} {h : TH} {C : Int32 → TH → Prop} (hL : Lay h) (hW : B296_35 a1 x2 h C) : xEk (d + 4) 296 (35, [(0, .ref 197), (1, .int a1), (2, .int x2)], [], h.X) (postI C) := by
  refine hW (fun s => Lay (s.2) → xEk (d + 4) 296 (35, [(0, .ref 197), (1, .int a1), (2, .int (s.1))], [], (TH.X (s.2))) (postI C)) ?_ hL
  rintro ⟨x2, h⟩ hW hL
  have k35 : ∀ s : Int32 × TH, (fun s => Lay (s.2) → xEk (d + 4) 296 (35, [(0, .ref 197), (1, .int a1), (2, .int (s.1))], [], (TH.X (s.2))) (postI C)) s → Lay (s.2) → xEk (d + 4) 296 (35, [(0, .ref 197), (1, .int a1), (2, .int (s.1))], [], (TH.X (s.2))) (postI C) := fun s hs => hs
  unfold F296_35 at hW
  dsimp only at hW
  iterate 2 (refine kst rfl rfl ?_)
  refine wgetI rfl (oK12 hL rfl) rfl ?_
  refine wcm_ge rfl hW (fun hW => ?_) (fun hW => ?_)
  · refine kst rfl rfl ?_
    refine kre rfl rfl ?_
    exact ⟨_, _, rfl, hL, hW⟩
  · refine kst rfl rfl ?_
    refine wgetP (b := 213) rfl (oK12 hL rfl) rfl (oP12_32 hL) ?_
    refine kst rfl rfl ?_
    obtain ⟨q1, hW⟩ := hW
    refine wald rfl (Or.inl (aK12_32 hL)) (aN12_32 hL) (by decide) q1 ?_
    iterate 6 (refine kst rfl rfl ?_)
    refine wif_ne rfl hW (fun hW => ?_) (fun hW => ?_)
    · iterate 2 (refine kst rfl rfl ?_)
      refine wjp ?_ (R296_63 (h := h) k35 hL hW)
      exact ⟨rfl, rfl, rfl, rfl, rfl, trivial⟩
    · refine kst rfl rfl ?_
      refine kre rfl rfl ?_
      exact ⟨_, _, rfl, hL, hW⟩
theorem R296_2 {d : Nat} {a1 : Int32} {x2 : Int32} {h : TH} {C : Int32 → TH → Prop} (hL : Lay h) (hW : B296_2 a1 x2 h C) : xEk (d + 4) 296 (2, [(0, .ref 197), (1, .int a1), (2, .int x2)], [], h.X) (postI C) := by
  refine hW (fun s => Lay (s.2) → xEk (d + 4) 296 (2, [(0, .ref 197), (1, .int a1), (2, .int (s.1))], [], (TH.X (s.2))) (postI C)) ?_ hL
  rintro ⟨x2, h⟩ hW hL
  have k2 : ∀ s : Int32 × TH, (fun s => Lay (s.2) → xEk (d + 4) 296 (2, [(0, .ref 197), (1, .int a1), (2, .int (s.1))], [], (TH.X (s.2))) (postI C)) s → Lay (s.2) → xEk (d + 4) 296 (2, [(0, .ref 197), (1, .int a1), (2, .int (s.1))], [], (TH.X (s.2))) (postI C) := fun s hs => hs
  unfold F296_2 at hW
  dsimp only at hW
  iterate 2 (refine kst rfl rfl ?_)
  refine qcvI rfl (oK12 hL rfl) rfl rfl (R248 (d := d + 3) (h := h) hL hW) (fun v1 hW => ?_)
  refine wcm_ge rfl hW (fun hW => ?_) (fun hW => ?_)
  · iterate 2 (refine kst rfl rfl ?_)
    refine wputI rfl (oK12 hL rfl) rfl ?_
    replace hL : Lay (h.sI 197 33 0) := lsI hL
    iterate 2 (refine kst rfl rfl ?_)
    refine wcvV rfl (oK12 hL rfl) rfl rfl (R295 (d := d + 3) (h := (h.sI 197 33 0)) hL hW) (fun h2 hL hW => ?_)
    iterate 2 (refine kst rfl rfl ?_)
    refine wjp ?_ (R296_35 (h := h2) hL hW)
    exact ⟨rfl, rfl, rfl, trivial⟩
  · refine kst rfl rfl ?_
    refine wgetP (b := 212) rfl (oK12 hL rfl) rfl (oP12_31 hL) ?_
    iterate 2 (refine kst rfl rfl ?_)
    obtain ⟨q1, hW⟩ := hW
    refine wzast rfl (aK12_31 hL) (aN12_31 hL) (by decide) q1 ?_
    replace hL : Lay (h.sI 212 (ix x2) (0 &&& 1)) := lsI hL
    iterate 2 (refine kst rfl rfl ?_)
    have z9 := k2 ((x2 + 1), (h.sI 212 (ix x2) (0 &&& 1))) hW hL
    refine wjp ?_ z9
    exact ⟨rfl, rfl, rfl, trivial⟩
theorem R296 {d : Nat} {a1 : Int32} {h : TH} {C : Int32 → TH → Prop} (hL : Lay h) (hW : W296 a1 h C) : xPk (d + 4) 296 [.ref 197, .int a1] h.X (postI C) := by
  unfold W296 at hW
  refine kin (Nat.le_of_ble_eq_true rfl) ?_
  iterate 2 (refine kst rfl rfl ?_)
  refine wjp ?_ (R296_2 (h := h) hL hW)
  exact ⟨rfl, rfl, rfl, trivial⟩
/-- 297: FourPotsModel fewest -/
def F297_16 (a1 : Int32) (C : Int32 → TH → Prop) (X16 : Int32 × TH → Prop) : Int32 × TH → Prop := fun
  | (x2, h) =>
    if 12 < x2 then (W205 6 h (fun v2 h3 => C v2 h3)) else (W263 0 x2 h (fun h4 => W296 a1 h4 (fun v5 h6 => if v5 = 0 then (X16 ((x2 + 1), h6)) else (W206 x2 h6 (fun v7 h8 => C v7 h8)))))
def B297_16 (a1 : Int32) (x2 : Int32) (h : TH) (C : Int32 → TH → Prop) : Prop := LFP (F297_16 a1 C) (x2, h)
def W297 (a1 : Int32) (h : TH) (C : Int32 → TH → Prop) : Prop :=
  W249 a1 h (fun v1 => if ¬ v1 = 0 then (B297_16 a1 0 h C) else (W205 1 h (fun v2 h3 => C v2 h3)))

theorem R297_16 {d : Nat} {a1 : Int32} {x2 : Int32} {h : TH} {C : Int32 → TH → Prop} (hL : Lay h) (hW : B297_16 a1 x2 h C) : xEk (d + 5) 297 (16, [(0, .ref 197), (1, .int a1), (2, .int x2)], [], h.X) (postI C) := by
  refine hW (fun s => Lay (s.2) → xEk (d + 5) 297 (16, [(0, .ref 197), (1, .int a1), (2, .int (s.1))], [], (TH.X (s.2))) (postI C)) ?_ hL
  rintro ⟨x2, h⟩ hW hL
  have k16 : ∀ s : Int32 × TH, (fun s => Lay (s.2) → xEk (d + 5) 297 (16, [(0, .ref 197), (1, .int a1), (2, .int (s.1))], [], (TH.X (s.2))) (postI C)) s → Lay (s.2) → xEk (d + 5) 297 (16, [(0, .ref 197), (1, .int a1), (2, .int (s.1))], [], (TH.X (s.2))) (postI C) := fun s hs => hs
  unfold F297_16 at hW
  dsimp only at hW
  iterate 2 (refine kst rfl rfl ?_)
  refine wcm_gt rfl hW (fun hW => ?_) (fun hW => ?_)
  · iterate 2 (refine kst rfl rfl ?_)
    refine wcvI rfl (oK12 hL rfl) rfl rfl (R205 (d := d + 4) (h := h) hL hW) (fun v2 h3 hL hW => ?_)
    refine kre rfl rfl ?_
    exact ⟨_, _, rfl, hL, hW⟩
  · iterate 3 (refine kst rfl rfl ?_)
    refine wcvV rfl (oK12 hL rfl) rfl rfl (R263 (d := d + 2) (h := h) hL hW) (fun h4 hL hW => ?_)
    iterate 2 (refine kst rfl rfl ?_)
    refine wcvI rfl (oK12 hL rfl) rfl rfl (R296 (d := d + 0) (h := h4) hL hW) (fun v5 h6 hL hW => ?_)
    refine wif_eq rfl hW (fun hW => ?_) (fun hW => ?_)
    · iterate 2 (refine kst rfl rfl ?_)
      have z9 := k16 ((x2 + 1), h6) hW hL
      refine wjp ?_ z9
      exact ⟨rfl, rfl, rfl, trivial⟩
    · iterate 2 (refine kst rfl rfl ?_)
      refine wcvI rfl (oK12 hL rfl) rfl rfl (R206 (d := d + 4) (h := h6) hL hW) (fun v7 h8 hL hW => ?_)
      refine kre rfl rfl ?_
      exact ⟨_, _, rfl, hL, hW⟩
theorem R297 {d : Nat} {a1 : Int32} {h : TH} {C : Int32 → TH → Prop} (hL : Lay h) (hW : W297 a1 h C) : xPk (d + 5) 297 [.ref 197, .int a1] h.X (postI C) := by
  unfold W297 at hW
  refine kin (Nat.le_of_ble_eq_true rfl) ?_
  iterate 2 (refine kst rfl rfl ?_)
  refine qcvI rfl (oK12 hL rfl) rfl rfl (R249 (d := d + 3) (h := h) hL hW) (fun v1 hW => ?_)
  refine wif_ne rfl hW (fun hW => ?_) (fun hW => ?_)
  · iterate 2 (refine kst rfl rfl ?_)
    refine wjp ?_ (R297_16 (h := h) hL hW)
    exact ⟨rfl, rfl, rfl, trivial⟩
  · iterate 2 (refine kst rfl rfl ?_)
    refine wcvI rfl (oK12 hL rfl) rfl rfl (R205 (d := d + 4) (h := h) hL hW) (fun v2 h3 hL hW => ?_)
    refine kre rfl rfl ?_
    exact ⟨_, _, rfl, hL, hW⟩
/-- 298: FourPotsModel curve -/
def W298 (a1 : Int32) (a2 : Int32) (h : TH) (C : Int32 → TH → Prop) : Prop :=
  W249 a1 h (fun v1 => if v1 = 0 then (W205 1 h (fun v2 h3 => C v2 h3)) else (W215 ((a2).toInt64) (0 : Int64) (12 : Int64) h (fun v4 => if ¬ v4 = 0 then (W263 0 a2 h (fun h5 => W287 a1 h5 (fun v6 h7 => W288 v6 h7 (fun v8 h9 => C v8 h9)))) else (W205 1 h (fun v10 h11 => C v10 h11)))))

theorem R298 {d : Nat} {a1 : Int32} {a2 : Int32} {h : TH} {C : Int32 → TH → Prop} (hL : Lay h) (hW : W298 a1 a2 h C) : xPk (d + 7) 298 [.ref 197, .int a1, .int a2] h.X (postI C) := by
  unfold W298 at hW
  refine kin (Nat.le_of_ble_eq_true rfl) ?_
  iterate 2 (refine kst rfl rfl ?_)
  refine qcvI rfl (oK12 hL rfl) rfl rfl (R249 (d := d + 5) (h := h) hL hW) (fun v1 hW => ?_)
  refine wif_eq rfl hW (fun hW => ?_) (fun hW => ?_)
  · iterate 2 (refine kst rfl rfl ?_)
    refine wcvI rfl (oK12 hL rfl) rfl rfl (R205 (d := d + 6) (h := h) hL hW) (fun v2 h3 hL hW => ?_)
    refine kre rfl rfl ?_
    exact ⟨_, _, rfl, hL, hW⟩
  · iterate 4 (refine kst rfl rfl ?_)
    refine qcaI rfl rfl (R215 (d := d + 6) (h := h) hL hW) (fun v4 hW => ?_)
    refine wif_ne rfl hW (fun hW => ?_) (fun hW => ?_)
    · iterate 3 (refine kst rfl rfl ?_)
      refine wcvV rfl (oK12 hL rfl) rfl rfl (R263 (d := d + 4) (h := h) hL hW) (fun h5 hL hW => ?_)
      iterate 3 (refine kst rfl rfl ?_)
      refine wcvI rfl (oK12 hL rfl) rfl rfl (R287 (d := d + 0) (h := h5) hL hW) (fun v6 h7 hL hW => ?_)
      refine wcvI rfl (oK12 hL rfl) rfl rfl (R288 (d := d + 5) (h := h7) hL hW) (fun v8 h9 hL hW => ?_)
      refine kre rfl rfl ?_
      exact ⟨_, _, rfl, hL, hW⟩
    · iterate 2 (refine kst rfl rfl ?_)
      refine wcvI rfl (oK12 hL rfl) rfl rfl (R205 (d := d + 6) (h := h) hL hW) (fun v10 h11 hL hW => ?_)
      refine kre rfl rfl ?_
      exact ⟨_, _, rfl, hL, hW⟩
/-- 299: FourPotsModel stateOf -/
def B299_55 (a1 : Int32) (a2 : Int32) (x4 : Int32) (s0 : Int32) (s1 : Int32) (h : TH) (C : Int32 → Prop) (X10 : Int32 × Int32 → Prop) : Prop :=
  X10 ((s0 + s1), (x4 + (-1)))
def F299_10 (a1 : Int32) (a2 : Int32) (h : TH) (C : Int32 → Prop) (X10 : Int32 × Int32 → Prop) : Int32 × Int32 → Prop := fun
  | (x3, x4) =>
    if x4 < 0 then (C x3) else (inb x4 8 ∧ W250 a1 (h.I 214 (ix x4)) h (fun v1 => if v1 = 0 then (inb x4 8 ∧ W250 a2 (h.I 214 (ix x4)) h (fun v2 => if v2 = 0 then (B299_55 a1 a2 x4 (3 * x3) 0 h C X10) else (B299_55 a1 a2 x4 (3 * x3) 2 h C X10))) else (B299_55 a1 a2 x4 (3 * x3) 1 h C X10)))
def B299_10 (a1 : Int32) (a2 : Int32) (x3 : Int32) (x4 : Int32) (h : TH) (C : Int32 → Prop) : Prop := LFP (F299_10 a1 a2 h C) (x3, x4)
def W299 (a1 : Int32) (a2 : Int32) (h : TH) (C : Int32 → Prop) : Prop :=
  B299_10 a1 a2 0 ((h.I 197 35) - 1) h C

theorem R299_55 {d : Nat} {a1 : Int32} {a2 : Int32} {x4 : Int32} {s0 : Int32} {s1 : Int32} {h : TH} {C : Int32 → Prop} {X10 : Int32 × Int32 → Prop} (k10 : ∀ s : Int32 × Int32, X10 s → xEk (d + 1) 299 (10, [(0, .ref 197), (1, .int a1), (2, .int a2), (3, .int (s.1)), (4, .int (s.2))], [], (TH.X (h))) (qostI h C)) (hL : Lay h) (hW : B299_55 a1 a2 x4 s0 s1 h C X10) : xEk (d + 1) 299 (55, [(0, .ref 197), (1, .int a1), (2, .int a2), (4, .int x4)], [.int s1, .int s0], h.X) (qostI h C) := by
  unfold B299_55 at hW
  iterate 4 (refine kst rfl rfl ?_)
  have z9 := k10 ((s0 + s1), (x4 + (-1))) hW
  refine wjp ?_ z9
  exact ⟨rfl, rfl, rfl, rfl, rfl, trivial⟩
theorem R299_10 {d : Nat} {a1 : Int32} {a2 : Int32} {x3 : Int32} {x4 : Int32} {h : TH} {C : Int32 → Prop} (hL : Lay h) (hW : B299_10 a1 a2 x3 x4 h C) : xEk (d + 1) 299 (10, [(0, .ref 197), (1, .int a1), (2, .int a2), (3, .int x3), (4, .int x4)], [], h.X) (qostI h C) := by
  refine hW (fun s => xEk (d + 1) 299 (10, [(0, .ref 197), (1, .int a1), (2, .int a2), (3, .int (s.1)), (4, .int (s.2))], [], (TH.X (h))) (qostI h C)) ?_
  rintro ⟨x3, x4⟩ hW 
  have k10 : ∀ s : Int32 × Int32, (fun s => xEk (d + 1) 299 (10, [(0, .ref 197), (1, .int a1), (2, .int a2), (3, .int (s.1)), (4, .int (s.2))], [], (TH.X (h))) (qostI h C)) s → xEk (d + 1) 299 (10, [(0, .ref 197), (1, .int a1), (2, .int a2), (3, .int (s.1)), (4, .int (s.2))], [], (TH.X (h))) (qostI h C) := fun s hs => hs
  unfold F299_10 at hW
  dsimp only at hW
  refine kst rfl rfl ?_
  refine wif_lt rfl hW (fun hW => ?_) (fun hW => ?_)
  · refine kst rfl rfl ?_
    refine kre rfl rfl ?_
    exact ⟨_, rfl, hW⟩
  · iterate 5 (refine kst rfl rfl ?_)
    refine wgetP (b := 214) rfl (oK12 hL rfl) rfl (oP12_34 hL) ?_
    refine kst rfl rfl ?_
    obtain ⟨q1, hW⟩ := hW
    refine wald rfl (Or.inl (aK12_34 hL)) (aN12_34 hL) (by decide) q1 ?_
    refine qcaI rfl rfl (R250 (d := d + 0) (h := h) hL hW) (fun v1 hW => ?_)
    refine wif_eq rfl hW (fun hW => ?_) (fun hW => ?_)
    · iterate 2 (refine kst rfl rfl ?_)
      refine wgetP (b := 214) rfl (oK12 hL rfl) rfl (oP12_34 hL) ?_
      refine kst rfl rfl ?_
      obtain ⟨q2, hW⟩ := hW
      refine wald rfl (Or.inl (aK12_34 hL)) (aN12_34 hL) (by decide) q2 ?_
      refine qcaI rfl rfl (R250 (d := d + 0) (h := h) hL hW) (fun v2 hW => ?_)
      refine wif_eq rfl hW (fun hW => ?_) (fun hW => ?_)
      · refine kst rfl rfl ?_
        refine wjp ?_ (R299_55 (h := h) k10 hL hW)
        exact ⟨rfl, rfl, rfl, rfl, trivial⟩
      · iterate 2 (refine kst rfl rfl ?_)
        refine wjp ?_ (R299_55 (h := h) k10 hL hW)
        exact ⟨rfl, rfl, rfl, rfl, trivial⟩
    · iterate 2 (refine kst rfl rfl ?_)
      refine wjp ?_ (R299_55 (h := h) k10 hL hW)
      exact ⟨rfl, rfl, rfl, rfl, trivial⟩
theorem R299 {d : Nat} {a1 : Int32} {a2 : Int32} {h : TH} {C : Int32 → Prop} (hL : Lay h) (hW : W299 a1 a2 h C) : xPk (d + 1) 299 [.ref 197, .int a1, .int a2] h.X (qostI h C) := by
  unfold W299 at hW
  refine kin (Nat.le_of_ble_eq_true rfl) ?_
  iterate 3 (refine kst rfl rfl ?_)
  refine wgetI rfl (oK12 hL rfl) rfl ?_
  iterate 3 (refine kst rfl rfl ?_)
  refine wjp ?_ (R299_10 (h := h) hL hW)
  exact ⟨rfl, rfl, rfl, rfl, rfl, trivial⟩
/-- 300: FourPotsModel ofState -/
def B300_37 (a2 : Int32) (x3 : Int32) (x4 : Int32) (x5 : Int32) (h : TH) (C : Int32 → Prop) (X8 : Int32 × Int32 × Int32 → Prop) : Prop :=
  X8 (x3, (x4 / 3), (x5 + 1))
def F300_8 (a2 : Int32) (h : TH) (C : Int32 → Prop) (X8 : Int32 × Int32 × Int32 → Prop) : Int32 × Int32 × Int32 → Prop := fun
  | (x3, x4, x5) =>
    if (h.I 197 35) ≤ x5 then (C x3) else (if ¬ (irem x4 3) = a2 then (B300_37 a2 x3 x4 x5 h C X8) else (inb x5 8 ∧ B300_37 a2 (x3 ||| (ishl 1 (h.I 214 (ix x5)))) x4 x5 h C X8))
def B300_8 (a2 : Int32) (x3 : Int32) (x4 : Int32) (x5 : Int32) (h : TH) (C : Int32 → Prop) : Prop := LFP (F300_8 a2 h C) (x3, x4, x5)
def W300 (a1 : Int32) (a2 : Int32) (h : TH) (C : Int32 → Prop) : Prop :=
  B300_8 a2 0 a1 0 h C

theorem R300_37 {d : Nat} {a2 : Int32} {x3 : Int32} {x4 : Int32} {x5 : Int32} {h : TH} {C : Int32 → Prop} {X8 : Int32 × Int32 × Int32 → Prop} (k8 : ∀ s : Int32 × Int32 × Int32, X8 s → xEk d 300 (8, [(0, .ref 197), (2, .int a2), (3, .int (s.1)), (4, .int (s.2.1)), (5, .int (s.2.2))], [], (TH.X (h))) (qostI h C)) (hL : Lay h) (hW : B300_37 a2 x3 x4 x5 h C X8) : xEk d 300 (37, [(0, .ref 197), (2, .int a2), (3, .int x3), (4, .int x4), (5, .int x5)], [], h.X) (qostI h C) := by
  unfold B300_37 at hW
  iterate 2 (refine kst rfl rfl ?_)
  refine wdiv rfl (by decide) ?_
  iterate 3 (refine kst rfl rfl ?_)
  have z9 := k8 (x3, (x4 / 3), (x5 + 1)) hW
  refine wjp ?_ z9
  exact ⟨rfl, rfl, rfl, rfl, rfl, trivial⟩
theorem R300_8 {d : Nat} {a2 : Int32} {x3 : Int32} {x4 : Int32} {x5 : Int32} {h : TH} {C : Int32 → Prop} (hL : Lay h) (hW : B300_8 a2 x3 x4 x5 h C) : xEk d 300 (8, [(0, .ref 197), (2, .int a2), (3, .int x3), (4, .int x4), (5, .int x5)], [], h.X) (qostI h C) := by
  refine hW (fun s => xEk d 300 (8, [(0, .ref 197), (2, .int a2), (3, .int (s.1)), (4, .int (s.2.1)), (5, .int (s.2.2))], [], (TH.X (h))) (qostI h C)) ?_
  rintro ⟨x3, x4, x5⟩ hW 
  have k8 : ∀ s : Int32 × Int32 × Int32, (fun s => xEk d 300 (8, [(0, .ref 197), (2, .int a2), (3, .int (s.1)), (4, .int (s.2.1)), (5, .int (s.2.2))], [], (TH.X (h))) (qostI h C)) s → xEk d 300 (8, [(0, .ref 197), (2, .int a2), (3, .int (s.1)), (4, .int (s.2.1)), (5, .int (s.2.2))], [], (TH.X (h))) (qostI h C) := fun s hs => hs
  unfold F300_8 at hW
  dsimp only at hW
  iterate 2 (refine kst rfl rfl ?_)
  refine wgetI rfl (oK12 hL rfl) rfl ?_
  refine wcm_ge rfl hW (fun hW => ?_) (fun hW => ?_)
  · refine kst rfl rfl ?_
    refine kre rfl rfl ?_
    exact ⟨_, rfl, hW⟩
  · iterate 2 (refine kst rfl rfl ?_)
    refine wrem rfl (by decide) ?_
    refine kst rfl rfl ?_
    refine wcm_ne rfl hW (fun hW => ?_) (fun hW => ?_)
    · refine wjp ?_ (R300_37 (h := h) k8 hL hW)
      exact ⟨rfl, rfl, rfl, rfl, rfl, trivial⟩
    · iterate 3 (refine kst rfl rfl ?_)
      refine wgetP (b := 214) rfl (oK12 hL rfl) rfl (oP12_34 hL) ?_
      refine kst rfl rfl ?_
      obtain ⟨q1, hW⟩ := hW
      refine wald rfl (Or.inl (aK12_34 hL)) (aN12_34 hL) (by decide) q1 ?_
      iterate 3 (refine kst rfl rfl ?_)
      refine wjp ?_ (R300_37 (h := h) k8 hL hW)
      exact ⟨rfl, rfl, rfl, rfl, rfl, trivial⟩
theorem R300 {d : Nat} {a1 : Int32} {a2 : Int32} {h : TH} {C : Int32 → Prop} (hL : Lay h) (hW : W300 a1 a2 h C) : xPk d 300 [.ref 197, .int a1, .int a2] h.X (qostI h C) := by
  unfold W300 at hW
  refine kin (Nat.le_of_ble_eq_true rfl) ?_
  iterate 6 (refine kst rfl rfl ?_)
  refine wjp ?_ (R300_8 (h := h) hL hW)
  exact ⟨rfl, rfl, rfl, rfl, rfl, trivial⟩
/-- 301: FourPotsModel trustsOn -/
def F301_250 (a1 : Int32) (a2 : Int32) (a3 : Int32) (x4 : Int32) (x5 : Int32) (x6 : Int32) (x7 : Int32) (x8 : Int32) (x9 : Int32) (C : TH → Prop) (X8 : Int32 × TH → Prop) (X250 : Int32 × TH → Prop) : Int32 × TH → Prop := fun
  | (x11, h) =>
    if x6 ≤ x11 then (X8 ((x5 + 1), h)) else (W250 x8 x11 h (fun v10 => if v10 = 0 then (X250 ((x11 + 1), h)) else (W250 a1 x11 h (fun v11 => if v11 = 0 then (X250 ((x11 + 1), h)) else (W234 x4 h (fun v12 => if a3 < v12 then (X250 ((x11 + 1), h)) else (W299 (((a1 &&& ((ishl 1 x11) ^^^ (-1))) ||| x7) &&& (x9 ^^^ (-1))) (a2 &&& (x9 ^^^ (-1))) h (fun v13 => W295 v13 h (fun h14 => X250 ((x11 + 1), h14))))))))))
def B301_250 (a1 : Int32) (a2 : Int32) (a3 : Int32) (x4 : Int32) (x5 : Int32) (x6 : Int32) (x7 : Int32) (x8 : Int32) (x9 : Int32) (x11 : Int32) (h : TH) (C : TH → Prop) (X8 : Int32 × TH → Prop) : Prop := LFP (F301_250 a1 a2 a3 x4 x5 x6 x7 x8 x9 C X8) (x11, h)
def B301_204 (a1 : Int32) (a2 : Int32) (a3 : Int32) (x4 : Int32) (x5 : Int32) (x6 : Int32) (x7 : Int32) (x8 : Int32) (x9 : Int32) (h : TH) (C : TH → Prop) (X8 : Int32 × TH → Prop) : Prop :=
  W251 x6 5 h (fun v7 => if v7 = 0 then (X8 ((x5 + 1), h)) else (W252 x6 h (fun v8 => if ¬ v8 = (-1) then (X8 ((x5 + 1), h)) else (W250 x4 x6 h (fun v9 => if ¬ v9 = 0 then (X8 ((x5 + 1), h)) else (if (x8 &&& (x4 ^^^ (-1))) = 0 then (B301_250 a1 a2 a3 x4 x5 x6 x7 x8 x9 0 h C X8) else (X8 ((x5 + 1), h))))))))
def B301_165 (a1 : Int32) (a2 : Int32) (a3 : Int32) (x4 : Int32) (x5 : Int32) (x6 : Int32) (x7 : Int32) (x8 : Int32) (x9 : Int32) (h : TH) (C : TH → Prop) (X8 : Int32 × TH → Prop) : Prop :=
  W250 a2 x6 h (fun v6 => if v6 = 0 then (B301_204 a1 a2 a3 x4 x5 x6 x7 x8 x9 h C X8) else (W251 x6 4 h (fun v7 => if ¬ (v7 &&& (x4 ^^^ (-1))) = 0 then (B301_204 a1 a2 a3 x4 x5 x6 x7 x8 x9 h C X8) else (W299 a1 (a2 &&& (x7 ^^^ (-1))) h (fun v8 => W295 v8 h (fun h9 => B301_204 a1 a2 a3 x4 x5 x6 x7 x8 x9 h9 C X8))))))
def B301_133 (a1 : Int32) (a2 : Int32) (a3 : Int32) (x4 : Int32) (x5 : Int32) (x6 : Int32) (x7 : Int32) (x8 : Int32) (x9 : Int32) (h : TH) (C : TH → Prop) (X8 : Int32 × TH → Prop) : Prop :=
  W250 x4 x6 h (fun v5 => if ¬ v5 = 0 then (B301_165 a1 a2 a3 x4 x5 x6 x7 x8 x9 h C X8) else (W234 x4 h (fun v6 => if a3 ≤ v6 then (B301_165 a1 a2 a3 x4 x5 x6 x7 x8 x9 h C X8) else (W299 a1 (a2 ||| x7) h (fun v7 => W295 v7 h (fun h8 => B301_165 a1 a2 a3 x4 x5 x6 x7 x8 x9 h8 C X8))))))
def B301_109 (a1 : Int32) (a2 : Int32) (a3 : Int32) (x4 : Int32) (x5 : Int32) (x6 : Int32) (x7 : Int32) (x8 : Int32) (x9 : Int32) (h : TH) (C : TH → Prop) (X8 : Int32 × TH → Prop) : Prop :=
  W250 a1 x6 h (fun v4 => if v4 = 0 then (B301_133 a1 a2 a3 x4 x5 x6 x7 x8 x9 h C X8) else (W299 (a1 &&& (x7 ^^^ (-1))) a2 h (fun v5 => W295 v5 h (fun h6 => B301_133 a1 a2 a3 x4 x5 x6 x7 x8 x9 h6 C X8))))
def F301_8 (a1 : Int32) (a2 : Int32) (a3 : Int32) (x4 : Int32) (C : TH → Prop) (X8 : Int32 × TH → Prop) : Int32 × TH → Prop := fun
  | (x5, h) =>
    if (h.I 197 35) ≤ x5 then (C h) else (inb x5 8 ∧ W254 (h.I 214 (ix x5)) h (fun v1 => W256 v1 h (fun v2 => W253 (h.I 214 (ix x5)) h (fun v3 => if ¬ (x4 &&& v3) = 0 then (B301_109 a1 a2 a3 x4 x5 (h.I 214 (ix x5)) (ishl 1 (h.I 214 (ix x5))) v1 v2 h C X8) else (if ¬ (v1 &&& (x4 ^^^ (-1))) = 0 then (B301_109 a1 a2 a3 x4 x5 (h.I 214 (ix x5)) (ishl 1 (h.I 214 (ix x5))) v1 v2 h C X8) else (W234 (x4 ||| v3) h (fun v4 => if a3 < v4 then (B301_109 a1 a2 a3 x4 x5 (h.I 214 (ix x5)) (ishl 1 (h.I 214 (ix x5))) v1 v2 h C X8) else (W299 ((a1 ||| v3) &&& (v2 ^^^ (-1))) (a2 &&& (v2 ^^^ (-1))) h (fun v5 => W295 v5 h (fun h6 => B301_109 a1 a2 a3 x4 x5 (h.I 214 (ix x5)) (ishl 1 (h.I 214 (ix x5))) v1 v2 h6 C X8))))))))))
def B301_8 (a1 : Int32) (a2 : Int32) (a3 : Int32) (x4 : Int32) (x5 : Int32) (h : TH) (C : TH → Prop) : Prop := LFP (F301_8 a1 a2 a3 x4 C) (x5, h)
def W301 (a1 : Int32) (a2 : Int32) (a3 : Int32) (h : TH) (C : TH → Prop) : Prop :=
  B301_8 a1 a2 a3 (a1 ||| a2) 0 h C

theorem R301_250 {d : Nat} {a1 : Int32} {a2 : Int32} {a3 : Int32} {x4 : Int32} {x5 : Int32} {x6 : Int32} {x7 : Int32} {x8 : Int32} {x9 : Int32} {x11 : Int32} {h : TH} {C : TH → Prop} {X8 : Int32 × TH → Prop} (k8 : ∀ s : Int32 × TH, X8 s → Lay (s.2) → xEk (d + 3) 301 (8, [(0, .ref 197), (1, .int a1), (2, .int a2), (3, .int a3), (4, .int x4), (5, .int (s.1))], [], (TH.X (s.2))) (postV C)) (hL : Lay h) (hW : B301_250 a1 a2 a3 x4 x5 x6 x7 x8 x9 x11 h C X8) : xEk (d + 3) 301 (250, [(0, .ref 197), (1, .int a1), (2, .int a2), (3, .int a3), (4, .int x4), (5, .int x5), (6, .int x6), (7, .int x7), (8, .int x8), (9, .int x9), (11, .int x11)], [], h.X) (postV C) := by
  refine hW (fun s => Lay (s.2) → xEk (d + 3) 301 (250, [(0, .ref 197), (1, .int a1), (2, .int a2), (3, .int a3), (4, .int x4), (5, .int x5), (6, .int x6), (7, .int x7), (8, .int x8), (9, .int x9), (11, .int (s.1))], [], (TH.X (s.2))) (postV C)) ?_ hL
  rintro ⟨x11, h⟩ hW hL
  have k250 : ∀ s : Int32 × TH, (fun s => Lay (s.2) → xEk (d + 3) 301 (250, [(0, .ref 197), (1, .int a1), (2, .int a2), (3, .int a3), (4, .int x4), (5, .int x5), (6, .int x6), (7, .int x7), (8, .int x8), (9, .int x9), (11, .int (s.1))], [], (TH.X (s.2))) (postV C)) s → Lay (s.2) → xEk (d + 3) 301 (250, [(0, .ref 197), (1, .int a1), (2, .int a2), (3, .int a3), (4, .int x4), (5, .int x5), (6, .int x6), (7, .int x7), (8, .int x8), (9, .int x9), (11, .int (s.1))], [], (TH.X (s.2))) (postV C) := fun s hs => hs
  unfold F301_250 at hW
  dsimp only at hW
  iterate 2 (refine kst rfl rfl ?_)
  refine wcm_ge rfl hW (fun hW => ?_) (fun hW => ?_)
  · iterate 2 (refine kst rfl rfl ?_)
    have z9 := k8 ((x5 + 1), h) hW hL
    refine wjp ?_ z9
    exact ⟨rfl, rfl, rfl, rfl, rfl, rfl, trivial⟩
  · iterate 2 (refine kst rfl rfl ?_)
    refine qcaI rfl rfl (R250 (d := d + 2) (h := h) hL hW) (fun v10 hW => ?_)
    refine wif_eq rfl hW (fun hW => ?_) (fun hW => ?_)
    · iterate 2 (refine kst rfl rfl ?_)
      have z9 := k250 ((x11 + 1), h) hW hL
      refine wjp ?_ z9
      exact ⟨rfl, rfl, rfl, rfl, rfl, rfl, rfl, rfl, rfl, rfl, rfl, trivial⟩
    · iterate 2 (refine kst rfl rfl ?_)
      refine qcaI rfl rfl (R250 (d := d + 2) (h := h) hL hW) (fun v11 hW => ?_)
      refine wif_eq rfl hW (fun hW => ?_) (fun hW => ?_)
      · iterate 2 (refine kst rfl rfl ?_)
        have z9 := k250 ((x11 + 1), h) hW hL
        refine wjp ?_ z9
        exact ⟨rfl, rfl, rfl, rfl, rfl, rfl, rfl, rfl, rfl, rfl, rfl, trivial⟩
      · refine kst rfl rfl ?_
        refine qcaI rfl rfl (R234 (d := d + 2) (h := h) hL hW) (fun v12 hW => ?_)
        refine kst rfl rfl ?_
        refine wcm_gt rfl hW (fun hW => ?_) (fun hW => ?_)
        · iterate 2 (refine kst rfl rfl ?_)
          have z9 := k250 ((x11 + 1), h) hW hL
          refine wjp ?_ z9
          exact ⟨rfl, rfl, rfl, rfl, rfl, rfl, rfl, rfl, rfl, rfl, rfl, trivial⟩
        · iterate 20 (refine kst rfl rfl ?_)
          refine qcvI rfl (oK12 hL rfl) rfl rfl (R299 (d := d + 1) (h := h) hL hW) (fun v13 hW => ?_)
          refine wcvV rfl (oK12 hL rfl) rfl rfl (R295 (d := d + 2) (h := h) hL hW) (fun h14 hL hW => ?_)
          iterate 2 (refine kst rfl rfl ?_)
          have z9 := k250 ((x11 + 1), h14) hW hL
          refine wjp ?_ z9
          exact ⟨rfl, rfl, rfl, rfl, rfl, rfl, rfl, rfl, rfl, rfl, rfl, trivial⟩
theorem R301_204 {d : Nat} {a1 : Int32} {a2 : Int32} {a3 : Int32} {x4 : Int32} {x5 : Int32} {x6 : Int32} {x7 : Int32} {x8 : Int32} {x9 : Int32} {h : TH} {C : TH → Prop} {X8 : Int32 × TH → Prop} (k8 : ∀ s : Int32 × TH, X8 s → Lay (s.2) → xEk (d + 3) 301 (8, [(0, .ref 197), (1, .int a1), (2, .int a2), (3, .int a3), (4, .int x4), (5, .int (s.1))], [], (TH.X (s.2))) (postV C)) (hL : Lay h) (hW : B301_204 a1 a2 a3 x4 x5 x6 x7 x8 x9 h C X8) : xEk (d + 3) 301 (204, [(0, .ref 197), (1, .int a1), (2, .int a2), (3, .int a3), (4, .int x4), (5, .int x5), (6, .int x6), (7, .int x7), (8, .int x8), (9, .int x9)], [], h.X) (postV C) := by
  unfold B301_204 at hW
  iterate 3 (refine kst rfl rfl ?_)
  refine qcvI rfl (oK12 hL rfl) rfl rfl (R251 (d := d + 2) (h := h) hL hW) (fun v7 hW => ?_)
  refine wif_eq rfl hW (fun hW => ?_) (fun hW => ?_)
  · iterate 2 (refine kst rfl rfl ?_)
    have z9 := k8 ((x5 + 1), h) hW hL
    refine wjp ?_ z9
    exact ⟨rfl, rfl, rfl, rfl, rfl, rfl, trivial⟩
  · iterate 2 (refine kst rfl rfl ?_)
    refine qcvI rfl (oK12 hL rfl) rfl rfl (R252 (d := d + 1) (h := h) hL hW) (fun v8 hW => ?_)
    refine kst rfl rfl ?_
    refine wcm_ne rfl hW (fun hW => ?_) (fun hW => ?_)
    · iterate 2 (refine kst rfl rfl ?_)
      have z9 := k8 ((x5 + 1), h) hW hL
      refine wjp ?_ z9
      exact ⟨rfl, rfl, rfl, rfl, rfl, rfl, trivial⟩
    · iterate 2 (refine kst rfl rfl ?_)
      refine qcaI rfl rfl (R250 (d := d + 2) (h := h) hL hW) (fun v9 hW => ?_)
      refine wif_ne rfl hW (fun hW => ?_) (fun hW => ?_)
      · iterate 2 (refine kst rfl rfl ?_)
        have z9 := k8 ((x5 + 1), h) hW hL
        refine wjp ?_ z9
        exact ⟨rfl, rfl, rfl, rfl, rfl, rfl, trivial⟩
      · iterate 5 (refine kst rfl rfl ?_)
        refine wif_eq rfl hW (fun hW => ?_) (fun hW => ?_)
        · iterate 2 (refine kst rfl rfl ?_)
          refine wjp ?_ (R301_250 (h := h) k8 hL hW)
          exact ⟨rfl, rfl, rfl, rfl, rfl, rfl, rfl, rfl, rfl, rfl, rfl, trivial⟩
        · iterate 3 (refine kst rfl rfl ?_)
          have z9 := k8 ((x5 + 1), h) hW hL
          refine wjp ?_ z9
          exact ⟨rfl, rfl, rfl, rfl, rfl, rfl, trivial⟩
theorem R301_165 {d : Nat} {a1 : Int32} {a2 : Int32} {a3 : Int32} {x4 : Int32} {x5 : Int32} {x6 : Int32} {x7 : Int32} {x8 : Int32} {x9 : Int32} {h : TH} {C : TH → Prop} {X8 : Int32 × TH → Prop} (k8 : ∀ s : Int32 × TH, X8 s → Lay (s.2) → xEk (d + 3) 301 (8, [(0, .ref 197), (1, .int a1), (2, .int a2), (3, .int a3), (4, .int x4), (5, .int (s.1))], [], (TH.X (s.2))) (postV C)) (hL : Lay h) (hW : B301_165 a1 a2 a3 x4 x5 x6 x7 x8 x9 h C X8) : xEk (d + 3) 301 (165, [(0, .ref 197), (1, .int a1), (2, .int a2), (3, .int a3), (4, .int x4), (5, .int x5), (6, .int x6), (7, .int x7), (8, .int x8), (9, .int x9)], [], h.X) (postV C) := by
  unfold B301_165 at hW
  iterate 2 (refine kst rfl rfl ?_)
  refine qcaI rfl rfl (R250 (d := d + 2) (h := h) hL hW) (fun v6 hW => ?_)
  refine wif_eq rfl hW (fun hW => ?_) (fun hW => ?_)
  · refine wjp ?_ (R301_204 (h := h) k8 hL hW)
    exact ⟨rfl, rfl, rfl, rfl, rfl, rfl, rfl, rfl, rfl, rfl, trivial⟩
  · iterate 3 (refine kst rfl rfl ?_)
    refine qcvI rfl (oK12 hL rfl) rfl rfl (R251 (d := d + 2) (h := h) hL hW) (fun v7 hW => ?_)
    iterate 4 (refine kst rfl rfl ?_)
    refine wif_ne rfl hW (fun hW => ?_) (fun hW => ?_)
    · refine wjp ?_ (R301_204 (h := h) k8 hL hW)
      exact ⟨rfl, rfl, rfl, rfl, rfl, rfl, rfl, rfl, rfl, rfl, trivial⟩
    · iterate 8 (refine kst rfl rfl ?_)
      refine qcvI rfl (oK12 hL rfl) rfl rfl (R299 (d := d + 1) (h := h) hL hW) (fun v8 hW => ?_)
      refine wcvV rfl (oK12 hL rfl) rfl rfl (R295 (d := d + 2) (h := h) hL hW) (fun h9 hL hW => ?_)
      refine wjp ?_ (R301_204 (h := h9) k8 hL hW)
      exact ⟨rfl, rfl, rfl, rfl, rfl, rfl, rfl, rfl, rfl, rfl, trivial⟩
theorem R301_133 {d : Nat} {a1 : Int32} {a2 : Int32} {a3 : Int32} {x4 : Int32} {x5 : Int32} {x6 : Int32} {x7 : Int32} {x8 : Int32} {x9 : Int32} {h : TH} {C : TH → Prop} {X8 : Int32 × TH → Prop} (k8 : ∀ s : Int32 × TH, X8 s → Lay (s.2) → xEk (d + 3) 301 (8, [(0, .ref 197), (1, .int a1), (2, .int a2), (3, .int a3), (4, .int x4), (5, .int (s.1))], [], (TH.X (s.2))) (postV C)) (hL : Lay h) (hW : B301_133 a1 a2 a3 x4 x5 x6 x7 x8 x9 h C X8) : xEk (d + 3) 301 (133, [(0, .ref 197), (1, .int a1), (2, .int a2), (3, .int a3), (4, .int x4), (5, .int x5), (6, .int x6), (7, .int x7), (8, .int x8), (9, .int x9)], [], h.X) (postV C) := by
  unfold B301_133 at hW
  iterate 2 (refine kst rfl rfl ?_)
  refine qcaI rfl rfl (R250 (d := d + 2) (h := h) hL hW) (fun v5 hW => ?_)
  refine wif_ne rfl hW (fun hW => ?_) (fun hW => ?_)
  · refine wjp ?_ (R301_165 (h := h) k8 hL hW)
    exact ⟨rfl, rfl, rfl, rfl, rfl, rfl, rfl, rfl, rfl, rfl, trivial⟩
  · refine kst rfl rfl ?_
    refine qcaI rfl rfl (R234 (d := d + 2) (h := h) hL hW) (fun v6 hW => ?_)
    refine kst rfl rfl ?_
    refine wcm_ge rfl hW (fun hW => ?_) (fun hW => ?_)
    · refine wjp ?_ (R301_165 (h := h) k8 hL hW)
      exact ⟨rfl, rfl, rfl, rfl, rfl, rfl, rfl, rfl, rfl, rfl, trivial⟩
    · iterate 6 (refine kst rfl rfl ?_)
      refine qcvI rfl (oK12 hL rfl) rfl rfl (R299 (d := d + 1) (h := h) hL hW) (fun v7 hW => ?_)
      refine wcvV rfl (oK12 hL rfl) rfl rfl (R295 (d := d + 2) (h := h) hL hW) (fun h8 hL hW => ?_)
      refine wjp ?_ (R301_165 (h := h8) k8 hL hW)
      exact ⟨rfl, rfl, rfl, rfl, rfl, rfl, rfl, rfl, rfl, rfl, trivial⟩
theorem R301_109 {d : Nat} {a1 : Int32} {a2 : Int32} {a3 : Int32} {x4 : Int32} {x5 : Int32} {x6 : Int32} {x7 : Int32} {x8 : Int32} {x9 : Int32} {h : TH} {C : TH → Prop} {X8 : Int32 × TH → Prop} (k8 : ∀ s : Int32 × TH, X8 s → Lay (s.2) → xEk (d + 3) 301 (8, [(0, .ref 197), (1, .int a1), (2, .int a2), (3, .int a3), (4, .int x4), (5, .int (s.1))], [], (TH.X (s.2))) (postV C)) (hL : Lay h) (hW : B301_109 a1 a2 a3 x4 x5 x6 x7 x8 x9 h C X8) : xEk (d + 3) 301 (109, [(0, .ref 197), (1, .int a1), (2, .int a2), (3, .int a3), (4, .int x4), (5, .int x5), (6, .int x6), (7, .int x7), (8, .int x8), (9, .int x9)], [], h.X) (postV C) := by
  unfold B301_109 at hW
  iterate 2 (refine kst rfl rfl ?_)
  refine qcaI rfl rfl (R250 (d := d + 2) (h := h) hL hW) (fun v4 hW => ?_)
  refine wif_eq rfl hW (fun hW => ?_) (fun hW => ?_)
  · refine wjp ?_ (R301_133 (h := h) k8 hL hW)
    exact ⟨rfl, rfl, rfl, rfl, rfl, rfl, rfl, rfl, rfl, rfl, trivial⟩
  · iterate 8 (refine kst rfl rfl ?_)
    refine qcvI rfl (oK12 hL rfl) rfl rfl (R299 (d := d + 1) (h := h) hL hW) (fun v5 hW => ?_)
    refine wcvV rfl (oK12 hL rfl) rfl rfl (R295 (d := d + 2) (h := h) hL hW) (fun h6 hL hW => ?_)
    refine wjp ?_ (R301_133 (h := h6) k8 hL hW)
    exact ⟨rfl, rfl, rfl, rfl, rfl, rfl, rfl, rfl, rfl, rfl, trivial⟩
theorem R301_8 {d : Nat} {a1 : Int32} {a2 : Int32} {a3 : Int32} {x4 : Int32} {x5 : Int32} {h : TH} {C : TH → Prop} (hL : Lay h) (hW : B301_8 a1 a2 a3 x4 x5 h C) : xEk (d + 3) 301 (8, [(0, .ref 197), (1, .int a1), (2, .int a2), (3, .int a3), (4, .int x4), (5, .int x5)], [], h.X) (postV C) := by
  refine hW (fun s => Lay (s.2) → xEk (d + 3) 301 (8, [(0, .ref 197), (1, .int a1), (2, .int a2), (3, .int a3), (4, .int x4), (5, .int (s.1))], [], (TH.X (s.2))) (postV C)) ?_ hL
  rintro ⟨x5, h⟩ hW hL
  have k8 : ∀ s : Int32 × TH, (fun s => Lay (s.2) → xEk (d + 3) 301 (8, [(0, .ref 197), (1, .int a1), (2, .int a2), (3, .int a3), (4, .int x4), (5, .int (s.1))], [], (TH.X (s.2))) (postV C)) s → Lay (s.2) → xEk (d + 3) 301 (8, [(0, .ref 197), (1, .int a1), (2, .int a2), (3, .int a3), (4, .int x4), (5, .int (s.1))], [], (TH.X (s.2))) (postV C) := fun s hs => hs
  unfold F301_8 at hW
  dsimp only at hW
  iterate 2 (refine kst rfl rfl ?_)
  refine wgetI rfl (oK12 hL rfl) rfl ?_
  refine wcm_ge rfl hW (fun hW => ?_) (fun hW => ?_)
  · refine kre rfl rfl ?_
    exact ⟨_, rfl, hL, hW⟩
  · refine kst rfl rfl ?_
    refine wgetP (b := 214) rfl (oK12 hL rfl) rfl (oP12_34 hL) ?_
    refine kst rfl rfl ?_
    obtain ⟨q1, hW⟩ := hW
    refine wald rfl (Or.inl (aK12_34 hL)) (aN12_34 hL) (by decide) q1 ?_
    iterate 7 (refine kst rfl rfl ?_)
    refine qcvI rfl (oK12 hL rfl) rfl rfl (R254 (d := d + 0) (h := h) hL hW) (fun v1 hW => ?_)
    iterate 3 (refine kst rfl rfl ?_)
    refine qcvI rfl (oK12 hL rfl) rfl rfl (R256 (d := d + 1) (h := h) hL hW) (fun v2 hW => ?_)
    iterate 3 (refine kst rfl rfl ?_)
    refine qcvI rfl (oK12 hL rfl) rfl rfl (R253 (d := d + 0) (h := h) hL hW) (fun v3 hW => ?_)
    iterate 4 (refine kst rfl rfl ?_)
    refine wif_ne rfl hW (fun hW => ?_) (fun hW => ?_)
    · refine wjp ?_ (R301_109 (h := h) k8 hL hW)
      exact ⟨rfl, rfl, rfl, rfl, rfl, rfl, rfl, rfl, rfl, rfl, trivial⟩
    · iterate 5 (refine kst rfl rfl ?_)
      refine wif_ne rfl hW (fun hW => ?_) (fun hW => ?_)
      · refine wjp ?_ (R301_109 (h := h) k8 hL hW)
        exact ⟨rfl, rfl, rfl, rfl, rfl, rfl, rfl, rfl, rfl, rfl, trivial⟩
      · iterate 3 (refine kst rfl rfl ?_)
        refine qcaI rfl rfl (R234 (d := d + 2) (h := h) hL hW) (fun v4 hW => ?_)
        refine kst rfl rfl ?_
        refine wcm_gt rfl hW (fun hW => ?_) (fun hW => ?_)
        · refine wjp ?_ (R301_109 (h := h) k8 hL hW)
          exact ⟨rfl, rfl, rfl, rfl, rfl, rfl, rfl, rfl, rfl, rfl, trivial⟩
        · iterate 14 (refine kst rfl rfl ?_)
          refine qcvI rfl (oK12 hL rfl) rfl rfl (R299 (d := d + 1) (h := h) hL hW) (fun v5 hW => ?_)
          refine wcvV rfl (oK12 hL rfl) rfl rfl (R295 (d := d + 2) (h := h) hL hW) (fun h6 hL hW => ?_)
          refine wjp ?_ (R301_109 (h := h6) k8 hL hW)
          exact ⟨rfl, rfl, rfl, rfl, rfl, rfl, rfl, rfl, rfl, rfl, trivial⟩
theorem R301 {d : Nat} {a1 : Int32} {a2 : Int32} {a3 : Int32} {h : TH} {C : TH → Prop} (hL : Lay h) (hW : W301 a1 a2 a3 h C) : xPk (d + 3) 301 [.ref 197, .int a1, .int a2, .int a3] h.X (postV C) := by
  unfold W301 at hW
  refine kin (Nat.le_of_ble_eq_true rfl) ?_
  iterate 6 (refine kst rfl rfl ?_)
  refine wjp ?_ (R301_8 (h := h) hL hW)
  exact ⟨rfl, rfl, rfl, rfl, rfl, rfl, trivial⟩
/-- 302: FourPotsModel canTrust -/
def B302_84 (a1 : Int32) (a2 : Int32) (x3 : Int32) (x4 : Int32) (x5 : Int32) (h : TH) (C : Int32 → TH → Prop) (X34 : Int32 × TH → Prop) : Prop :=
  W301 x4 x5 a2 h (fun h4 => X34 ((x3 + 1), h4))
def F302_34 (a1 : Int32) (a2 : Int32) (C : Int32 → TH → Prop) (X34 : Int32 × TH → Prop) : Int32 × TH → Prop := fun
  | (x3, h) =>
    if (h.I 197 33) ≤ x3 then (C 0 h) else (inb x3 6561 ∧ W300 (h.I 213 (ix x3)) 1 h (fun v2 => inb x3 6561 ∧ W300 (h.I 213 (ix x3)) 2 h (fun v3 => if ¬ v3 = 0 then (B302_84 a1 a2 x3 v2 v3 h C X34) else (if ¬ (a1 &&& (v2 ^^^ (-1))) = 0 then (B302_84 a1 a2 x3 v2 v3 h C X34) else (C 1 h)))))
def B302_34 (a1 : Int32) (a2 : Int32) (x3 : Int32) (h : TH) (C : Int32 → TH → Prop) : Prop := LFP (F302_34 a1 a2 C) (x3, h)
def F302_2 (a1 : Int32) (a2 : Int32) (C : Int32 → TH → Prop) (X2 : Int32 × TH → Prop) : Int32 × TH → Prop := fun
  | (x3, h) =>
    if 6561 ≤ x3 then (W295 0 (h.sI 197 33 0) (fun h1 => B302_34 a1 a2 0 h1 C)) else (inb x3 6561 ∧ X2 ((x3 + 1), (h.sI 212 (ix x3) (0 &&& 1))))
def B302_2 (a1 : Int32) (a2 : Int32) (x3 : Int32) (h : TH) (C : Int32 → TH → Prop) : Prop := LFP (F302_2 a1 a2 C) (x3, h)
def W302 (a1 : Int32) (a2 : Int32) (h : TH) (C : Int32 → TH → Prop) : Prop :=
  B302_2 a1 a2 0 h C

theorem R302_84 {d : Nat} {a1 : Int32} {a2 : Int32} {x3 : Int32} {x4 : Int32} {x5 : Int32} {h : TH} {C : Int32 → TH → Prop} {X34 : Int32 × TH → Prop} (k34 : ∀ s : Int32 × TH, X34 s → Lay (s.2) → xEk (d + 4) 302 (34, [(0, .ref 197), (1, .int a1), (2, .int a2), (3, .int (s.1))], [], (TH.X (s.2))) (postI C)) (hL : Lay h) (hW : B302_84 a1 a2 x3 x4 x5 h C X34) : xEk (d + 4) 302 (84, [(0, .ref 197), (1, .int a1), (2, .int a2), (3, .int x3), (4, .int x4), (5, .int x5)], [], h.X) (postI C) := by
  unfold B302_84 at hW
  iterate 4 (refine kst rfl rfl ?_)
  refine wcvV rfl (oK12 hL rfl) rfl rfl (R301 (d := d + 0) (h := h) hL hW) (fun h4 hL hW => ?_)
  iterate 2 (refine kst rfl rfl ?_)
  have z9 := k34 ((x3 + 1), h4) hW hL
  refine wjp ?_ z9
  exact ⟨rfl, rfl, rfl, rfl, trivial⟩
theorem R302_34 {d : Nat} {a1 : Int32} {a2 : Int32} {x3 : Int32} {h : TH} {C : Int32 → TH → Prop} (hL : Lay h) (hW : B302_34 a1 a2 x3 h C) : xEk (d + 4) 302 (34, [(0, .ref 197), (1, .int a1), (2, .int a2), (3, .int x3)], [], h.X) (postI C) := by
  refine hW (fun s => Lay (s.2) → xEk (d + 4) 302 (34, [(0, .ref 197), (1, .int a1), (2, .int a2), (3, .int (s.1))], [], (TH.X (s.2))) (postI C)) ?_ hL
  rintro ⟨x3, h⟩ hW hL
  have k34 : ∀ s : Int32 × TH, (fun s => Lay (s.2) → xEk (d + 4) 302 (34, [(0, .ref 197), (1, .int a1), (2, .int a2), (3, .int (s.1))], [], (TH.X (s.2))) (postI C)) s → Lay (s.2) → xEk (d + 4) 302 (34, [(0, .ref 197), (1, .int a1), (2, .int a2), (3, .int (s.1))], [], (TH.X (s.2))) (postI C) := fun s hs => hs
  unfold F302_34 at hW
  dsimp only at hW
  iterate 2 (refine kst rfl rfl ?_)
  refine wgetI rfl (oK12 hL rfl) rfl ?_
  refine wcm_ge rfl hW (fun hW => ?_) (fun hW => ?_)
  · refine kst rfl rfl ?_
    refine kre rfl rfl ?_
    exact ⟨_, _, rfl, hL, hW⟩
  · iterate 2 (refine kst rfl rfl ?_)
    refine wgetP (b := 213) rfl (oK12 hL rfl) rfl (oP12_32 hL) ?_
    refine kst rfl rfl ?_
    obtain ⟨q1, hW⟩ := hW
    refine wald rfl (Or.inl (aK12_32 hL)) (aN12_32 hL) (by decide) q1 ?_
    refine kst rfl rfl ?_
    refine qcvI rfl (oK12 hL rfl) rfl rfl (R300 (d := d + 3) (h := h) hL hW) (fun v2 hW => ?_)
    iterate 3 (refine kst rfl rfl ?_)
    refine wgetP (b := 213) rfl (oK12 hL rfl) rfl (oP12_32 hL) ?_
    refine kst rfl rfl ?_
    obtain ⟨q2, hW⟩ := hW
    refine wald rfl (Or.inl (aK12_32 hL)) (aN12_32 hL) (by decide) q2 ?_
    refine kst rfl rfl ?_
    refine qcvI rfl (oK12 hL rfl) rfl rfl (R300 (d := d + 3) (h := h) hL hW) (fun v3 hW => ?_)
    iterate 2 (refine kst rfl rfl ?_)
    refine wif_ne rfl hW (fun hW => ?_) (fun hW => ?_)
    · refine wjp ?_ (R302_84 (h := h) k34 hL hW)
      exact ⟨rfl, rfl, rfl, rfl, rfl, rfl, trivial⟩
    · iterate 5 (refine kst rfl rfl ?_)
      refine wif_ne rfl hW (fun hW => ?_) (fun hW => ?_)
      · refine wjp ?_ (R302_84 (h := h) k34 hL hW)
        exact ⟨rfl, rfl, rfl, rfl, rfl, rfl, trivial⟩
      · refine kst rfl rfl ?_
        refine kre rfl rfl ?_
        exact ⟨_, _, rfl, hL, hW⟩
theorem R302_2 {d : Nat} {a1 : Int32} {a2 : Int32} {x3 : Int32} {h : TH} {C : Int32 → TH → Prop} (hL : Lay h) (hW : B302_2 a1 a2 x3 h C) : xEk (d + 4) 302 (2, [(0, .ref 197), (1, .int a1), (2, .int a2), (3, .int x3)], [], h.X) (postI C) := by
  refine hW (fun s => Lay (s.2) → xEk (d + 4) 302 (2, [(0, .ref 197), (1, .int a1), (2, .int a2), (3, .int (s.1))], [], (TH.X (s.2))) (postI C)) ?_ hL
  rintro ⟨x3, h⟩ hW hL
  have k2 : ∀ s : Int32 × TH, (fun s => Lay (s.2) → xEk (d + 4) 302 (2, [(0, .ref 197), (1, .int a1), (2, .int a2), (3, .int (s.1))], [], (TH.X (s.2))) (postI C)) s → Lay (s.2) → xEk (d + 4) 302 (2, [(0, .ref 197), (1, .int a1), (2, .int a2), (3, .int (s.1))], [], (TH.X (s.2))) (postI C) := fun s hs => hs
  unfold F302_2 at hW
  dsimp only at hW
  iterate 2 (refine kst rfl rfl ?_)
  refine wcm_ge rfl hW (fun hW => ?_) (fun hW => ?_)
  · iterate 2 (refine kst rfl rfl ?_)
    refine wputI rfl (oK12 hL rfl) rfl ?_
    replace hL : Lay (h.sI 197 33 0) := lsI hL
    iterate 2 (refine kst rfl rfl ?_)
    refine wcvV rfl (oK12 hL rfl) rfl rfl (R295 (d := d + 3) (h := (h.sI 197 33 0)) hL hW) (fun h1 hL hW => ?_)
    iterate 2 (refine kst rfl rfl ?_)
    refine wjp ?_ (R302_34 (h := h1) hL hW)
    exact ⟨rfl, rfl, rfl, rfl, trivial⟩
  · refine kst rfl rfl ?_
    refine wgetP (b := 212) rfl (oK12 hL rfl) rfl (oP12_31 hL) ?_
    iterate 2 (refine kst rfl rfl ?_)
    obtain ⟨q1, hW⟩ := hW
    refine wzast rfl (aK12_31 hL) (aN12_31 hL) (by decide) q1 ?_
    replace hL : Lay (h.sI 212 (ix x3) (0 &&& 1)) := lsI hL
    iterate 2 (refine kst rfl rfl ?_)
    have z9 := k2 ((x3 + 1), (h.sI 212 (ix x3) (0 &&& 1))) hW hL
    refine wjp ?_ z9
    exact ⟨rfl, rfl, rfl, rfl, trivial⟩
theorem R302 {d : Nat} {a1 : Int32} {a2 : Int32} {h : TH} {C : Int32 → TH → Prop} (hL : Lay h) (hW : W302 a1 a2 h C) : xPk (d + 4) 302 [.ref 197, .int a1, .int a2] h.X (postI C) := by
  unfold W302 at hW
  refine kin (Nat.le_of_ble_eq_true rfl) ?_
  iterate 2 (refine kst rfl rfl ?_)
  refine wjp ?_ (R302_2 (h := h) hL hW)
  exact ⟨rfl, rfl, rfl, rfl, trivial⟩
/-- 303: FourPotsModel trustful -/
def F303_91 (a1 : Int32) (C : Int32 → TH → Prop) (X91 : Int32 × TH → Prop) : Int32 × TH → Prop := fun
  | (x3, h) =>
    if 12 < x3 then (W205 6 h (fun v4 h5 => C v4 h5)) else (W302 a1 x3 h (fun v6 h7 => if v6 = 0 then (X91 ((x3 + 1), h7)) else (W206 x3 h7 (fun v8 h9 => C v8 h9))))
def B303_91 (a1 : Int32) (x3 : Int32) (h : TH) (C : Int32 → TH → Prop) : Prop := LFP (F303_91 a1 C) (x3, h)
def F303_42 (a1 : Int32) (x2 : Int32) (C : Int32 → TH → Prop) (X42 : Int32 × TH → Prop) : Int32 × TH → Prop := fun
  | (x3, h) =>
    if (h.I 198 (ix 0)) ≤ x3 then (B303_91 a1 0 h C) else (W250 x2 x3 h (fun v4 => if ¬ v4 = 0 then (inb (h.I 197 35) 8 ∧ X42 ((x3 + 1), ((h.sI 214 (ix (h.I 197 35)) x3).sI 197 35 (((h.sI 214 (ix (h.I 197 35)) x3).I 197 35) + 1)))) else (X42 ((x3 + 1), h))))
def B303_42 (a1 : Int32) (x2 : Int32) (x3 : Int32) (h : TH) (C : Int32 → TH → Prop) : Prop := LFP (F303_42 a1 x2 C) (x3, h)
def W303 (a1 : Int32) (h : TH) (C : Int32 → TH → Prop) : Prop :=
  W249 a1 h (fun v1 => if ¬ v1 = 0 then (W265 a1 h (fun v2 => W234 v2 h (fun v3 => if v3 ≤ 8 then (B303_42 a1 v2 0 (h.sI 197 35 0) C) else (W205 4 h (fun v4 h5 => C v4 h5))))) else (W205 1 h (fun v6 h7 => C v6 h7)))

theorem R303_91 {d : Nat} {a1 : Int32} {x3 : Int32} {h : TH} {C : Int32 → TH → Prop} (hL : Lay h) (hW : B303_91 a1 x3 h C) : xEk (d + 5) 303 (91, [(0, .ref 197), (1, .int a1), (3, .int x3)], [], h.X) (postI C) := by
  refine hW (fun s => Lay (s.2) → xEk (d + 5) 303 (91, [(0, .ref 197), (1, .int a1), (3, .int (s.1))], [], (TH.X (s.2))) (postI C)) ?_ hL
  rintro ⟨x3, h⟩ hW hL
  have k91 : ∀ s : Int32 × TH, (fun s => Lay (s.2) → xEk (d + 5) 303 (91, [(0, .ref 197), (1, .int a1), (3, .int (s.1))], [], (TH.X (s.2))) (postI C)) s → Lay (s.2) → xEk (d + 5) 303 (91, [(0, .ref 197), (1, .int a1), (3, .int (s.1))], [], (TH.X (s.2))) (postI C) := fun s hs => hs
  unfold F303_91 at hW
  dsimp only at hW
  iterate 2 (refine kst rfl rfl ?_)
  refine wcm_gt rfl hW (fun hW => ?_) (fun hW => ?_)
  · iterate 2 (refine kst rfl rfl ?_)
    refine wcvI rfl (oK12 hL rfl) rfl rfl (R205 (d := d + 4) (h := h) hL hW) (fun v4 h5 hL hW => ?_)
    refine kre rfl rfl ?_
    exact ⟨_, _, rfl, hL, hW⟩
  · iterate 3 (refine kst rfl rfl ?_)
    refine wcvI rfl (oK12 hL rfl) rfl rfl (R302 (d := d + 0) (h := h) hL hW) (fun v6 h7 hL hW => ?_)
    refine wif_eq rfl hW (fun hW => ?_) (fun hW => ?_)
    · iterate 2 (refine kst rfl rfl ?_)
      have z9 := k91 ((x3 + 1), h7) hW hL
      refine wjp ?_ z9
      exact ⟨rfl, rfl, rfl, trivial⟩
    · iterate 2 (refine kst rfl rfl ?_)
      refine wcvI rfl (oK12 hL rfl) rfl rfl (R206 (d := d + 4) (h := h7) hL hW) (fun v8 h9 hL hW => ?_)
      refine kre rfl rfl ?_
      exact ⟨_, _, rfl, hL, hW⟩
theorem R303_42 {d : Nat} {a1 : Int32} {x2 : Int32} {x3 : Int32} {h : TH} {C : Int32 → TH → Prop} (hL : Lay h) (hW : B303_42 a1 x2 x3 h C) : xEk (d + 5) 303 (42, [(0, .ref 197), (1, .int a1), (2, .int x2), (3, .int x3)], [], h.X) (postI C) := by
  refine hW (fun s => Lay (s.2) → xEk (d + 5) 303 (42, [(0, .ref 197), (1, .int a1), (2, .int x2), (3, .int (s.1))], [], (TH.X (s.2))) (postI C)) ?_ hL
  rintro ⟨x3, h⟩ hW hL
  have k42 : ∀ s : Int32 × TH, (fun s => Lay (s.2) → xEk (d + 5) 303 (42, [(0, .ref 197), (1, .int a1), (2, .int x2), (3, .int (s.1))], [], (TH.X (s.2))) (postI C)) s → Lay (s.2) → xEk (d + 5) 303 (42, [(0, .ref 197), (1, .int a1), (2, .int x2), (3, .int (s.1))], [], (TH.X (s.2))) (postI C) := fun s hs => hs
  unfold F303_42 at hW
  dsimp only at hW
  iterate 2 (refine kst rfl rfl ?_)
  refine wgetP (b := 198) rfl (oK12 hL rfl) rfl (oP12_0 hL) ?_
  refine kst rfl rfl ?_
  refine wald rfl (Or.inl (aK12_0 hL)) (aN12_0 hL) (by decide) ⟨by decide, by decide⟩ ?_
  refine wcm_ge rfl hW (fun hW => ?_) (fun hW => ?_)
  · iterate 2 (refine kst rfl rfl ?_)
    refine wjp ?_ (R303_91 (h := h) hL hW)
    exact ⟨rfl, rfl, rfl, trivial⟩
  · iterate 2 (refine kst rfl rfl ?_)
    refine qcaI rfl rfl (R250 (d := d + 4) (h := h) hL hW) (fun v4 hW => ?_)
    refine wif_ne rfl hW (fun hW => ?_) (fun hW => ?_)
    · refine kst rfl rfl ?_
      refine wgetP (b := 214) rfl (oK12 hL rfl) rfl (oP12_34 hL) ?_
      refine kst rfl rfl ?_
      refine wgetI rfl (oK12 hL rfl) rfl ?_
      refine kst rfl rfl ?_
      obtain ⟨q1, hW⟩ := hW
      refine wast rfl (aK12_34 hL) (aN12_34 hL) (by decide) q1 ?_
      replace hL : Lay (h.sI 214 (ix (h.I 197 35)) x3) := lsI hL
      iterate 2 (refine kst rfl rfl ?_)
      refine wgetI rfl (oK12 hL rfl) rfl ?_
      iterate 2 (refine kst rfl rfl ?_)
      refine wputI rfl (oK12 hL rfl) rfl ?_
      replace hL : Lay ((h.sI 214 (ix (h.I 197 35)) x3).sI 197 35 (((h.sI 214 (ix (h.I 197 35)) x3).I 197 35) + 1)) := lsI hL
      iterate 2 (refine kst rfl rfl ?_)
      have z9 := k42 ((x3 + 1), ((h.sI 214 (ix (h.I 197 35)) x3).sI 197 35 (((h.sI 214 (ix (h.I 197 35)) x3).I 197 35) + 1))) hW hL
      refine wjp ?_ z9
      exact ⟨rfl, rfl, rfl, rfl, trivial⟩
    · iterate 3 (refine kst rfl rfl ?_)
      have z9 := k42 ((x3 + 1), h) hW hL
      refine wjp ?_ z9
      exact ⟨rfl, rfl, rfl, rfl, trivial⟩
theorem R303 {d : Nat} {a1 : Int32} {h : TH} {C : Int32 → TH → Prop} (hL : Lay h) (hW : W303 a1 h C) : xPk (d + 5) 303 [.ref 197, .int a1] h.X (postI C) := by
  unfold W303 at hW
  refine kin (Nat.le_of_ble_eq_true rfl) ?_
  iterate 2 (refine kst rfl rfl ?_)
  refine qcvI rfl (oK12 hL rfl) rfl rfl (R249 (d := d + 3) (h := h) hL hW) (fun v1 hW => ?_)
  refine wif_ne rfl hW (fun hW => ?_) (fun hW => ?_)
  · iterate 2 (refine kst rfl rfl ?_)
    refine qcvI rfl (oK12 hL rfl) rfl rfl (R265 (d := d + 1) (h := h) hL hW) (fun v2 hW => ?_)
    iterate 2 (refine kst rfl rfl ?_)
    refine qcaI rfl rfl (R234 (d := d + 4) (h := h) hL hW) (fun v3 hW => ?_)
    refine kst rfl rfl ?_
    refine wcm_le rfl hW (fun hW => ?_) (fun hW => ?_)
    · iterate 2 (refine kst rfl rfl ?_)
      refine wputI rfl (oK12 hL rfl) rfl ?_
      replace hL : Lay (h.sI 197 35 0) := lsI hL
      iterate 2 (refine kst rfl rfl ?_)
      refine wjp ?_ (R303_42 (h := (h.sI 197 35 0)) hL hW)
      exact ⟨rfl, rfl, rfl, rfl, trivial⟩
    · iterate 2 (refine kst rfl rfl ?_)
      refine wcvI rfl (oK12 hL rfl) rfl rfl (R205 (d := d + 4) (h := h) hL hW) (fun v4 h5 hL hW => ?_)
      refine kre rfl rfl ?_
      exact ⟨_, _, rfl, hL, hW⟩
  · iterate 2 (refine kst rfl rfl ?_)
    refine wcvI rfl (oK12 hL rfl) rfl rfl (R205 (d := d + 4) (h := h) hL hW) (fun v6 h7 hL hW => ?_)
    refine kre rfl rfl ?_
    exact ⟨_, _, rfl, hL, hW⟩
/-- 304: FourPotsModel needsOf -/
def W304 (a1 : Int32) (h : TH) (C : Int32 → Prop) : Prop :=
  W251 a1 4 h (fun v1 => W234 v1 h (fun v2 => W251 a1 5 h (fun v3 => C ((v2 + 1) - v3))))

theorem R304 {d : Nat} {a1 : Int32} {h : TH} {C : Int32 → Prop} (hL : Lay h) (hW : W304 a1 h C) : xPk (d + 1) 304 [.ref 197, .int a1] h.X (qostI h C) := by
  unfold W304 at hW
  refine kin (Nat.le_of_ble_eq_true rfl) ?_
  iterate 3 (refine kst rfl rfl ?_)
  refine qcvI rfl (oK12 hL rfl) rfl rfl (R251 (d := d + 0) (h := h) hL hW) (fun v1 hW => ?_)
  refine qcaI rfl rfl (R234 (d := d + 0) (h := h) hL hW) (fun v2 hW => ?_)
  iterate 5 (refine kst rfl rfl ?_)
  refine qcvI rfl (oK12 hL rfl) rfl rfl (R251 (d := d + 0) (h := h) hL hW) (fun v3 hW => ?_)
  refine kst rfl rfl ?_
  refine kre rfl rfl ?_
  exact ⟨_, rfl, hW⟩
/-- 305: FourPotsModel bound -/
def F305_28 (x3 : Int32) (C : Int32 → TH → Prop) (X28 : Int32 × Int32 × TH → Prop) : Int32 × Int32 × TH → Prop := fun
  | (x2, x4, h) =>
    if (h.I 198 (ix 0)) ≤ x4 then (W206 x2 h (fun v4 h5 => C v4 h5)) else (W250 x3 x4 h (fun v6 => if v6 = 0 then (X28 (x2, (x4 + 1), h)) else (W304 x4 h (fun v7 => X28 ((imax x2 v7), (x4 + 1), h)))))
def B305_28 (x3 : Int32) (x2 : Int32) (x4 : Int32) (h : TH) (C : Int32 → TH → Prop) : Prop := LFP (F305_28 x3 C) (x2, x4, h)
def W305 (a1 : Int32) (h : TH) (C : Int32 → TH → Prop) : Prop :=
  W249 a1 h (fun v1 => if ¬ v1 = 0 then (W234 a1 h (fun v2 => W265 a1 h (fun v3 => B305_28 v3 v2 0 h C))) else (W205 1 h (fun v4 h5 => C v4 h5)))

theorem R305_28 {d : Nat} {x3 : Int32} {x2 : Int32} {x4 : Int32} {h : TH} {C : Int32 → TH → Prop} (hL : Lay h) (hW : B305_28 x3 x2 x4 h C) : xEk (d + 4) 305 (28, [(0, .ref 197), (2, .int x2), (3, .int x3), (4, .int x4)], [], h.X) (postI C) := by
  refine hW (fun s => Lay (s.2.2) → xEk (d + 4) 305 (28, [(0, .ref 197), (2, .int (s.1)), (3, .int x3), (4, .int (s.2.1))], [], (TH.X (s.2.2))) (postI C)) ?_ hL
  rintro ⟨x2, x4, h⟩ hW hL
  have k28 : ∀ s : Int32 × Int32 × TH, (fun s => Lay (s.2.2) → xEk (d + 4) 305 (28, [(0, .ref 197), (2, .int (s.1)), (3, .int x3), (4, .int (s.2.1))], [], (TH.X (s.2.2))) (postI C)) s → Lay (s.2.2) → xEk (d + 4) 305 (28, [(0, .ref 197), (2, .int (s.1)), (3, .int x3), (4, .int (s.2.1))], [], (TH.X (s.2.2))) (postI C) := fun s hs => hs
  unfold F305_28 at hW
  dsimp only at hW
  iterate 2 (refine kst rfl rfl ?_)
  refine wgetP (b := 198) rfl (oK12 hL rfl) rfl (oP12_0 hL) ?_
  refine kst rfl rfl ?_
  refine wald rfl (Or.inl (aK12_0 hL)) (aN12_0 hL) (by decide) ⟨by decide, by decide⟩ ?_
  refine wcm_ge rfl hW (fun hW => ?_) (fun hW => ?_)
  · iterate 2 (refine kst rfl rfl ?_)
    refine wcvI rfl (oK12 hL rfl) rfl rfl (R206 (d := d + 3) (h := h) hL hW) (fun v4 h5 hL hW => ?_)
    refine kre rfl rfl ?_
    exact ⟨_, _, rfl, hL, hW⟩
  · iterate 2 (refine kst rfl rfl ?_)
    refine qcaI rfl rfl (R250 (d := d + 3) (h := h) hL hW) (fun v6 hW => ?_)
    refine wif_eq rfl hW (fun hW => ?_) (fun hW => ?_)
    · iterate 2 (refine kst rfl rfl ?_)
      have z9 := k28 (x2, (x4 + 1), h) hW hL
      refine wjp ?_ z9
      exact ⟨rfl, rfl, rfl, rfl, trivial⟩
    · iterate 3 (refine kst rfl rfl ?_)
      refine qcvI rfl (oK12 hL rfl) rfl rfl (R304 (d := d + 2) (h := h) hL hW) (fun v7 hW => ?_)
      iterate 4 (refine kst rfl rfl ?_)
      have z9 := k28 ((imax x2 v7), (x4 + 1), h) hW hL
      refine wjp ?_ z9
      exact ⟨rfl, rfl, rfl, rfl, trivial⟩
theorem R305 {d : Nat} {a1 : Int32} {h : TH} {C : Int32 → TH → Prop} (hL : Lay h) (hW : W305 a1 h C) : xPk (d + 4) 305 [.ref 197, .int a1] h.X (postI C) := by
  unfold W305 at hW
  refine kin (Nat.le_of_ble_eq_true rfl) ?_
  iterate 2 (refine kst rfl rfl ?_)
  refine qcvI rfl (oK12 hL rfl) rfl rfl (R249 (d := d + 2) (h := h) hL hW) (fun v1 hW => ?_)
  refine wif_ne rfl hW (fun hW => ?_) (fun hW => ?_)
  · refine kst rfl rfl ?_
    refine qcaI rfl rfl (R234 (d := d + 3) (h := h) hL hW) (fun v2 hW => ?_)
    iterate 3 (refine kst rfl rfl ?_)
    refine qcvI rfl (oK12 hL rfl) rfl rfl (R265 (d := d + 0) (h := h) hL hW) (fun v3 hW => ?_)
    iterate 3 (refine kst rfl rfl ?_)
    refine wjp ?_ (R305_28 (h := h) hL hW)
    exact ⟨rfl, rfl, rfl, rfl, trivial⟩
  · iterate 2 (refine kst rfl rfl ?_)
    refine wcvI rfl (oK12 hL rfl) rfl rfl (R205 (d := d + 3) (h := h) hL hW) (fun v4 h5 hL hW => ?_)
    refine kre rfl rfl ?_
    exact ⟨_, _, rfl, hL, hW⟩
/-- 306: FourPotsModel ruleOf -/
def F306_115 (x2 : Int32) (C : Int32 → TH → Prop) (X115 : Int32 × Int32 × TH → Prop) : Int32 × Int32 × TH → Prop := fun
  | (x3, x4, h) =>
    if x2 ≤ x4 then (C x3 h) else (inb x4 12 ∧ X115 ((imax x3 ((h.I 216 (ix x4)) + x4)), (x4 + 1), h))
def B306_115 (x2 : Int32) (x3 : Int32) (x4 : Int32) (h : TH) (C : Int32 → TH → Prop) : Prop := LFP (F306_115 x2 C) (x3, x4, h)
def B306_84 (a1 : Int32) (x2 : Int32) (x3 : Int32) (x4 : Int32) (h : TH) (C : Int32 → TH → Prop) (X15 : Int32 × Int32 × TH → Prop) : Prop :=
  inb x3 12 ∧ inb x4 12 ∧ X15 ((x2 + 1), (x3 + 1), (h.sI 216 (ix x4) (h.I 215 (ix x3))))
def F306_39 (a1 : Int32) (x2 : Int32) (x3 : Int32) (C : Int32 → TH → Prop) (X15 : Int32 × Int32 × TH → Prop) (X39 : Int32 × TH → Prop) : Int32 × TH → Prop := fun
  | (x4, h) =>
    if x4 ≤ 0 then (B306_84 a1 x2 x3 x4 h C X15) else (inb (x4 - 1) 12 ∧ inb x3 12 ∧ if (h.I 215 (ix x3)) ≤ (h.I 216 (ix (x4 - 1))) then (B306_84 a1 x2 x3 x4 h C X15) else (inb (x4 - 1) 12 ∧ inb x4 12 ∧ X39 ((x4 + (-1)), (h.sI 216 (ix x4) (h.I 216 (ix (x4 - 1)))))))
def B306_39 (a1 : Int32) (x2 : Int32) (x3 : Int32) (x4 : Int32) (h : TH) (C : Int32 → TH → Prop) (X15 : Int32 × Int32 × TH → Prop) : Prop := LFP (F306_39 a1 x2 x3 C X15) (x4, h)
def F306_15 (a1 : Int32) (C : Int32 → TH → Prop) (X15 : Int32 × Int32 × TH → Prop) : Int32 × Int32 × TH → Prop := fun
  | (x2, x3, h) =>
    if a1 ≤ x3 then (W304 a1 h (fun v2 => B306_115 x2 v2 0 h C)) else (W251 a1 4 h (fun v3 => W250 v3 x3 h (fun v4 => if ¬ v4 = 0 then (B306_39 a1 x2 x3 x2 h C X15) else (X15 (x2, (x3 + 1), h)))))
def B306_15 (a1 : Int32) (x2 : Int32) (x3 : Int32) (h : TH) (C : Int32 → TH → Prop) : Prop := LFP (F306_15 a1 C) (x2, x3, h)
def W306 (a1 : Int32) (h : TH) (C : Int32 → TH → Prop) : Prop :=
  W251 a1 4 h (fun v1 => if ¬ v1 = 0 then (B306_15 a1 0 0 h C) else (C 1 h))

theorem R306_115 {d : Nat} {x2 : Int32} {x3 : Int32} {x4 : Int32} {h : TH} {C : Int32 → TH → Prop} (hL : Lay h) (hW : B306_115 x2 x3 x4 h C) : xEk (d + 2) 306 (115, [(0, .ref 197), (2, .int x2), (3, .int x3), (4, .int x4)], [], h.X) (postI C) := by
  refine hW (fun s => Lay (s.2.2) → xEk (d + 2) 306 (115, [(0, .ref 197), (2, .int x2), (3, .int (s.1)), (4, .int (s.2.1))], [], (TH.X (s.2.2))) (postI C)) ?_ hL
  rintro ⟨x3, x4, h⟩ hW hL
  have k115 : ∀ s : Int32 × Int32 × TH, (fun s => Lay (s.2.2) → xEk (d + 2) 306 (115, [(0, .ref 197), (2, .int x2), (3, .int (s.1)), (4, .int (s.2.1))], [], (TH.X (s.2.2))) (postI C)) s → Lay (s.2.2) → xEk (d + 2) 306 (115, [(0, .ref 197), (2, .int x2), (3, .int (s.1)), (4, .int (s.2.1))], [], (TH.X (s.2.2))) (postI C) := fun s hs => hs
  unfold F306_115 at hW
  dsimp only at hW
  iterate 2 (refine kst rfl rfl ?_)
  refine wcm_ge rfl hW (fun hW => ?_) (fun hW => ?_)
  · refine kst rfl rfl ?_
    refine kre rfl rfl ?_
    exact ⟨_, _, rfl, hL, hW⟩
  · iterate 2 (refine kst rfl rfl ?_)
    refine wgetP (b := 216) rfl (oK12 hL rfl) rfl (oP12_37 hL) ?_
    refine kst rfl rfl ?_
    obtain ⟨q1, hW⟩ := hW
    refine wald rfl (Or.inl (aK12_37 hL)) (aN12_37 hL) (by decide) q1 ?_
    iterate 6 (refine kst rfl rfl ?_)
    have z9 := k115 ((imax x3 ((h.I 216 (ix x4)) + x4)), (x4 + 1), h) hW hL
    refine wjp ?_ z9
    exact ⟨rfl, rfl, rfl, rfl, trivial⟩
theorem R306_84 {d : Nat} {a1 : Int32} {x2 : Int32} {x3 : Int32} {x4 : Int32} {h : TH} {C : Int32 → TH → Prop} {X15 : Int32 × Int32 × TH → Prop} (k15 : ∀ s : Int32 × Int32 × TH, X15 s → Lay (s.2.2) → xEk (d + 2) 306 (15, [(0, .ref 197), (1, .int a1), (2, .int (s.1)), (3, .int (s.2.1))], [], (TH.X (s.2.2))) (postI C)) (hL : Lay h) (hW : B306_84 a1 x2 x3 x4 h C X15) : xEk (d + 2) 306 (84, [(0, .ref 197), (1, .int a1), (2, .int x2), (3, .int x3), (4, .int x4)], [], h.X) (postI C) := by
  unfold B306_84 at hW
  refine kst rfl rfl ?_
  refine wgetP (b := 216) rfl (oK12 hL rfl) rfl (oP12_37 hL) ?_
  iterate 2 (refine kst rfl rfl ?_)
  refine wgetP (b := 215) rfl (oK12 hL rfl) rfl (oP12_36 hL) ?_
  refine kst rfl rfl ?_
  obtain ⟨q1, hW⟩ := hW
  refine wald rfl (Or.inl (aK12_36 hL)) (aN12_36 hL) (by decide) q1 ?_
  obtain ⟨q2, hW⟩ := hW
  refine wast rfl (aK12_37 hL) (aN12_37 hL) (by decide) q2 ?_
  replace hL : Lay (h.sI 216 (ix x4) (h.I 215 (ix x3))) := lsI hL
  iterate 3 (refine kst rfl rfl ?_)
  have z9 := k15 ((x2 + 1), (x3 + 1), (h.sI 216 (ix x4) (h.I 215 (ix x3)))) hW hL
  refine wjp ?_ z9
  exact ⟨rfl, rfl, rfl, rfl, trivial⟩
theorem R306_39 {d : Nat} {a1 : Int32} {x2 : Int32} {x3 : Int32} {x4 : Int32} {h : TH} {C : Int32 → TH → Prop} {X15 : Int32 × Int32 × TH → Prop} (k15 : ∀ s : Int32 × Int32 × TH, X15 s → Lay (s.2.2) → xEk (d + 2) 306 (15, [(0, .ref 197), (1, .int a1), (2, .int (s.1)), (3, .int (s.2.1))], [], (TH.X (s.2.2))) (postI C)) (hL : Lay h) (hW : B306_39 a1 x2 x3 x4 h C X15) : xEk (d + 2) 306 (39, [(0, .ref 197), (1, .int a1), (2, .int x2), (3, .int x3), (4, .int x4)], [], h.X) (postI C) := by
  refine hW (fun s => Lay (s.2) → xEk (d + 2) 306 (39, [(0, .ref 197), (1, .int a1), (2, .int x2), (3, .int x3), (4, .int (s.1))], [], (TH.X (s.2))) (postI C)) ?_ hL
  rintro ⟨x4, h⟩ hW hL
  have k39 : ∀ s : Int32 × TH, (fun s => Lay (s.2) → xEk (d + 2) 306 (39, [(0, .ref 197), (1, .int a1), (2, .int x2), (3, .int x3), (4, .int (s.1))], [], (TH.X (s.2))) (postI C)) s → Lay (s.2) → xEk (d + 2) 306 (39, [(0, .ref 197), (1, .int a1), (2, .int x2), (3, .int x3), (4, .int (s.1))], [], (TH.X (s.2))) (postI C) := fun s hs => hs
  unfold F306_39 at hW
  dsimp only at hW
  refine kst rfl rfl ?_
  refine wif_le rfl hW (fun hW => ?_) (fun hW => ?_)
  · refine wjp ?_ (R306_84 (h := h) k15 hL hW)
    exact ⟨rfl, rfl, rfl, rfl, rfl, trivial⟩
  · refine kst rfl rfl ?_
    refine wgetP (b := 216) rfl (oK12 hL rfl) rfl (oP12_37 hL) ?_
    iterate 3 (refine kst rfl rfl ?_)
    obtain ⟨q1, hW⟩ := hW
    refine wald rfl (Or.inl (aK12_37 hL)) (aN12_37 hL) (by decide) q1 ?_
    refine kst rfl rfl ?_
    refine wgetP (b := 215) rfl (oK12 hL rfl) rfl (oP12_36 hL) ?_
    refine kst rfl rfl ?_
    obtain ⟨q2, hW⟩ := hW
    refine wald rfl (Or.inl (aK12_36 hL)) (aN12_36 hL) (by decide) q2 ?_
    refine wcm_ge rfl hW (fun hW => ?_) (fun hW => ?_)
    · refine wjp ?_ (R306_84 (h := h) k15 hL hW)
      exact ⟨rfl, rfl, rfl, rfl, rfl, trivial⟩
    · refine kst rfl rfl ?_
      refine wgetP (b := 216) rfl (oK12 hL rfl) rfl (oP12_37 hL) ?_
      iterate 2 (refine kst rfl rfl ?_)
      refine wgetP (b := 216) rfl (oK12 hL rfl) rfl (oP12_37 hL) ?_
      iterate 3 (refine kst rfl rfl ?_)
      obtain ⟨q3, hW⟩ := hW
      refine wald rfl (Or.inl (aK12_37 hL)) (aN12_37 hL) (by decide) q3 ?_
      obtain ⟨q4, hW⟩ := hW
      refine wast rfl (aK12_37 hL) (aN12_37 hL) (by decide) q4 ?_
      replace hL : Lay (h.sI 216 (ix x4) (h.I 216 (ix (x4 - 1)))) := lsI hL
      iterate 2 (refine kst rfl rfl ?_)
      have z9 := k39 ((x4 + (-1)), (h.sI 216 (ix x4) (h.I 216 (ix (x4 - 1))))) hW hL
      refine wjp ?_ z9
      exact ⟨rfl, rfl, rfl, rfl, rfl, trivial⟩
theorem R306_15 {d : Nat} {a1 : Int32} {x2 : Int32} {x3 : Int32} {h : TH} {C : Int32 → TH → Prop} (hL : Lay h) (hW : B306_15 a1 x2 x3 h C) : xEk (d + 2) 306 (15, [(0, .ref 197), (1, .int a1), (2, .int x2), (3, .int x3)], [], h.X) (postI C) := by
  refine hW (fun s => Lay (s.2.2) → xEk (d + 2) 306 (15, [(0, .ref 197), (1, .int a1), (2, .int (s.1)), (3, .int (s.2.1))], [], (TH.X (s.2.2))) (postI C)) ?_ hL
  rintro ⟨x2, x3, h⟩ hW hL
  have k15 : ∀ s : Int32 × Int32 × TH, (fun s => Lay (s.2.2) → xEk (d + 2) 306 (15, [(0, .ref 197), (1, .int a1), (2, .int (s.1)), (3, .int (s.2.1))], [], (TH.X (s.2.2))) (postI C)) s → Lay (s.2.2) → xEk (d + 2) 306 (15, [(0, .ref 197), (1, .int a1), (2, .int (s.1)), (3, .int (s.2.1))], [], (TH.X (s.2.2))) (postI C) := fun s hs => hs
  unfold F306_15 at hW
  dsimp only at hW
  iterate 2 (refine kst rfl rfl ?_)
  refine wcm_ge rfl hW (fun hW => ?_) (fun hW => ?_)
  · iterate 2 (refine kst rfl rfl ?_)
    refine qcvI rfl (oK12 hL rfl) rfl rfl (R304 (d := d + 0) (h := h) hL hW) (fun v2 hW => ?_)
    iterate 3 (refine kst rfl rfl ?_)
    refine wjp ?_ (R306_115 (h := h) hL hW)
    exact ⟨rfl, rfl, rfl, rfl, trivial⟩
  · iterate 3 (refine kst rfl rfl ?_)
    refine qcvI rfl (oK12 hL rfl) rfl rfl (R251 (d := d + 1) (h := h) hL hW) (fun v3 hW => ?_)
    refine kst rfl rfl ?_
    refine qcaI rfl rfl (R250 (d := d + 1) (h := h) hL hW) (fun v4 hW => ?_)
    refine wif_ne rfl hW (fun hW => ?_) (fun hW => ?_)
    · iterate 2 (refine kst rfl rfl ?_)
      refine wjp ?_ (R306_39 (h := h) k15 hL hW)
      exact ⟨rfl, rfl, rfl, rfl, rfl, trivial⟩
    · iterate 3 (refine kst rfl rfl ?_)
      have z9 := k15 (x2, (x3 + 1), h) hW hL
      refine wjp ?_ z9
      exact ⟨rfl, rfl, rfl, rfl, trivial⟩
theorem R306 {d : Nat} {a1 : Int32} {h : TH} {C : Int32 → TH → Prop} (hL : Lay h) (hW : W306 a1 h C) : xPk (d + 2) 306 [.ref 197, .int a1] h.X (postI C) := by
  unfold W306 at hW
  refine kin (Nat.le_of_ble_eq_true rfl) ?_
  iterate 3 (refine kst rfl rfl ?_)
  refine qcvI rfl (oK12 hL rfl) rfl rfl (R251 (d := d + 1) (h := h) hL hW) (fun v1 hW => ?_)
  refine wif_ne rfl hW (fun hW => ?_) (fun hW => ?_)
  · iterate 4 (refine kst rfl rfl ?_)
    refine wjp ?_ (R306_15 (h := h) hL hW)
    exact ⟨rfl, rfl, rfl, rfl, trivial⟩
  · refine kst rfl rfl ?_
    refine kre rfl rfl ?_
    exact ⟨_, _, rfl, hL, hW⟩
