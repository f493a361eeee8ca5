/-! WHAT EACH METHOD NEEDS: W: the condition; R: the small machine keeps it (printed by wgen.py) -/
/-- 307: FourPotsModel treeRule -/
def F307_142 (a1 : Int32) (C : Int32 → TH → Prop) (X142 : Int32 × TH → Prop) : Int32 × TH → Prop := fun
  | (x3, h) =>
    if a1 < x3 then (inb a1 12 ∧ W206 (h.I 215 (ix a1)) h (fun v3 h4 => C v3 h4)) else (W306 x3 h (fun v5 h6 => inb x3 12 ∧ X142 ((x3 + 1), (h6.sI 215 (ix x3) v5))))
def B307_142 (a1 : Int32) (x3 : Int32) (h : TH) (C : Int32 → TH → Prop) : Prop := LFP (F307_142 a1 C) (x3, h)
def B307_92 (a1 : Int32) (x2 : Int32) (x3 : Int32) (x5 : Int32) (s0 : Int32) (s1 : Int32) (h : TH) (C : Int32 → TH → Prop) (X24 : Int32 × TH → Prop) (X51 : Int32 × Int32 × TH → Prop) : Prop :=
  X51 ((s0 + s1), (x5 + 1), h)
def B307_91 (a1 : Int32) (x2 : Int32) (x3 : Int32) (x5 : Int32) (s0 : Int32) (h : TH) (C : Int32 → TH → Prop) (X24 : Int32 × TH → Prop) (X51 : Int32 × Int32 × TH → Prop) : Prop :=
  B307_92 a1 x2 x3 x5 s0 0 h C X24 X51
def F307_51 (a1 : Int32) (x2 : Int32) (x3 : Int32) (C : Int32 → TH → Prop) (X24 : Int32 × TH → Prop) (X51 : Int32 × Int32 × TH → Prop) : Int32 × Int32 × TH → Prop := fun
  | (x4, x5, h) =>
    if (h.I 198 (ix 0)) ≤ x5 then (W252 x3 h (fun v4 => if ¬ v4 = (-1) then (W205 7 h (fun v5 h6 => C v5 h6)) else (W251 x3 6 h (fun v7 => if v7 = 1 then (W205 7 h (fun v8 h9 => C v8 h9)) else (if x4 ≤ 1 then (X24 ((x3 + 1), h)) else (W205 7 h (fun v10 h11 => C v10 h11))))))) else (W250 x2 x5 h (fun v12 => if v12 = 0 then (B307_91 a1 x2 x3 x5 x4 h C X24 X51) else (W251 x5 4 h (fun v13 => W250 v13 x3 h (fun v14 => if v14 = 0 then (B307_91 a1 x2 x3 x5 x4 h C X24 X51) else (B307_92 a1 x2 x3 x5 x4 1 h C X24 X51))))))
def B307_51 (a1 : Int32) (x2 : Int32) (x3 : Int32) (x4 : Int32) (x5 : Int32) (h : TH) (C : Int32 → TH → Prop) (X24 : Int32 × TH → Prop) : Prop := LFP (F307_51 a1 x2 x3 C X24) (x4, x5, h)
def F307_24 (a1 : Int32) (x2 : Int32) (C : Int32 → TH → Prop) (X24 : Int32 × TH → Prop) : Int32 × TH → Prop := fun
  | (x3, h) =>
    if (h.I 198 (ix 0)) ≤ x3 then (B307_142 a1 0 h C) else (W250 x2 x3 h (fun v3 => if ¬ v3 = 0 then (B307_51 a1 x2 x3 0 0 h C X24) else (X24 ((x3 + 1), h))))
def B307_24 (a1 : Int32) (x2 : Int32) (x3 : Int32) (h : TH) (C : Int32 → TH → Prop) : Prop := LFP (F307_24 a1 x2 C) (x3, h)
def W307 (a1 : Int32) (h : TH) (C : Int32 → TH → Prop) : Prop :=
  W247 a1 h (fun v1 => if ¬ v1 = 0 then (W265 (ishl 1 a1) h (fun v2 => B307_24 a1 v2 0 h C)) else (W205 1 h (fun v3 h4 => C v3 h4)))

theorem R307_142 {d : Nat} {a1 : Int32} {x3 : Int32} {h : TH} {C : Int32 → TH → Prop} (hL : Lay h) (hW : B307_142 a1 x3 h C) : xEk (d + 4) 307 (142, [(0, .ref 197), (1, .int a1), (3, .int x3)], [], h.X) (postI C) := by
  refine hW (fun s => Lay (s.2) → xEk (d + 4) 307 (142, [(0, .ref 197), (1, .int a1), (3, .int (s.1))], [], (TH.X (s.2))) (postI C)) ?_ hL
  rintro ⟨x3, h⟩ hW hL
  have k142 : ∀ s : Int32 × TH, (fun s => Lay (s.2) → xEk (d + 4) 307 (142, [(0, .ref 197), (1, .int a1), (3, .int (s.1))], [], (TH.X (s.2))) (postI C)) s → Lay (s.2) → xEk (d + 4) 307 (142, [(0, .ref 197), (1, .int a1), (3, .int (s.1))], [], (TH.X (s.2))) (postI C) := fun s hs => hs
  unfold F307_142 at hW
  dsimp only at hW
  iterate 2 (refine kst rfl rfl ?_)
  refine wcm_gt rfl hW (fun hW => ?_) (fun hW => ?_)
  · iterate 2 (refine kst rfl rfl ?_)
    refine wgetP (b := 215) rfl (oK12 hL rfl) rfl (oP12_36 hL) ?_
    refine kst rfl rfl ?_
    obtain ⟨q1, hW⟩ := hW
    refine wald rfl (Or.inl (aK12_36 hL)) (aN12_36 hL) (by decide) q1 ?_
    refine wcvI rfl (oK12 hL rfl) rfl rfl (R206 (d := d + 3) (h := h) hL hW) (fun v3 h4 hL hW => ?_)
    refine kre rfl rfl ?_
    exact ⟨_, _, rfl, hL, hW⟩
  · refine kst rfl rfl ?_
    refine wgetP (b := 215) rfl (oK12 hL rfl) rfl (oP12_36 hL) ?_
    iterate 3 (refine kst rfl rfl ?_)
    refine wcvI rfl (oK12 hL rfl) rfl rfl (R306 (d := d + 1) (h := h) hL hW) (fun v5 h6 hL hW => ?_)
    obtain ⟨q1, hW⟩ := hW
    refine wast rfl (aK12_36 hL) (aN12_36 hL) (by decide) q1 ?_
    replace hL : Lay (h6.sI 215 (ix x3) v5) := lsI hL
    iterate 2 (refine kst rfl rfl ?_)
    have z9 := k142 ((x3 + 1), (h6.sI 215 (ix x3) v5)) hW hL
    refine wjp ?_ z9
    exact ⟨rfl, rfl, rfl, trivial⟩
theorem R307_92 {d : Nat} {a1 : Int32} {x2 : Int32} {x3 : Int32} {x5 : Int32} {s0 : Int32} {s1 : Int32} {h : TH} {C : Int32 → TH → Prop} {X24 : Int32 × TH → Prop} (k24 : ∀ s : Int32 × TH, X24 s → Lay (s.2) → xEk (d + 4) 307 (24, [(0, .ref 197), (1, .int a1), (2, .int x2), (3, .int (s.1))], [], (TH.X (s.2))) (postI C)) {X51 : Int32 × Int32 × TH → Prop} (k51 : ∀ s : Int32 × Int32 × TH, X51 s → Lay (s.2.2) → xEk (d + 4) 307 (51, [(0, .ref 197), (1, .int a1), (2, .int x2), (3, .int x3), (4, .int (s.1)), (5, .int (s.2.1))], [], (TH.X (s.2.2))) (postI C)) (hL : Lay h) (hW : B307_92 a1 x2 x3 x5 s0 s1 h C X24 X51) : xEk (d + 4) 307 (92, [(0, .ref 197), (1, .int a1), (2, .int x2), (3, .int x3), (5, .int x5)], [.int s1, .int s0], h.X) (postI C) := by
  unfold B307_92 at hW
  iterate 4 (refine kst rfl rfl ?_)
  have z9 := k51 ((s0 + s1), (x5 + 1), h) hW hL
  refine wjp ?_ z9
  exact ⟨rfl, rfl, rfl, rfl, rfl, rfl, trivial⟩
theorem R307_91 {d : Nat} {a1 : Int32} {x2 : Int32} {x3 : Int32} {x5 : Int32} {s0 : Int32} {h : TH} {C : Int32 → TH → Prop} {X24 : Int32 × TH → Prop} (k24 : ∀ s : Int32 × TH, X24 s → Lay (s.2) → xEk (d + 4) 307 (24, [(0, .ref 197), (1, .int a1), (2, .int x2), (3, .int (s.1))], [], (TH.X (s.2))) (postI C)) {X51 : Int32 × Int32 × TH → Prop} (k51 : ∀ s : Int32 × Int32 × TH, X51 s → Lay (s.2.2) → xEk (d + 4) 307 (51, [(0, .ref 197), (1, .int a1), (2, .int x2), (3, .int x3), (4, .int (s.1)), (5, .int (s.2.1))], [], (TH.X (s.2.2))) (postI C)) (hL : Lay h) (hW : B307_91 a1 x2 x3 x5 s0 h C X24 X51) : xEk (d + 4) 307 (91, [(0, .ref 197), (1, .int a1), (2, .int x2), (3, .int x3), (5, .int x5)], [.int s0], h.X) (postI C) := by
  unfold B307_91 at hW
  refine kst rfl rfl ?_
  refine wjp ?_ (R307_92 (h := h) k24 k51 hL hW)
  exact ⟨rfl, rfl, rfl, rfl, rfl, trivial⟩
theorem R307_51 {d : Nat} {a1 : Int32} {x2 : Int32} {x3 : Int32} {x4 : Int32} {x5 : Int32} {h : TH} {C : Int32 → TH → Prop} {X24 : Int32 × TH → Prop} (k24 : ∀ s : Int32 × TH, X24 s → Lay (s.2) → xEk (d + 4) 307 (24, [(0, .ref 197), (1, .int a1), (2, .int x2), (3, .int (s.1))], [], (TH.X (s.2))) (postI C)) (hL : Lay h) (hW : B307_51 a1 x2 x3 x4 x5 h C X24) : xEk (d + 4) 307 (51, [(0, .ref 197), (1, .int a1), (2, .int x2), (3, .int x3), (4, .int x4), (5, .int x5)], [], h.X) (postI C) := by
  refine hW (fun s => Lay (s.2.2) → xEk (d + 4) 307 (51, [(0, .ref 197), (1, .int a1), (2, .int x2), (3, .int x3), (4, .int (s.1)), (5, .int (s.2.1))], [], (TH.X (s.2.2))) (postI C)) ?_ hL
  rintro ⟨x4, x5, h⟩ hW hL
  have k51 : ∀ s : Int32 × Int32 × TH, (fun s => Lay (s.2.2) → xEk (d + 4) 307 (51, [(0, .ref 197), (1, .int a1), (2, .int x2), (3, .int x3), (4, .int (s.1)), (5, .int (s.2.1))], [], (TH.X (s.2.2))) (postI C)) s → Lay (s.2.2) → xEk (d + 4) 307 (51, [(0, .ref 197), (1, .int a1), (2, .int x2), (3, .int x3), (4, .int (s.1)), (5, .int (s.2.1))], [], (TH.X (s.2.2))) (postI C) := fun s hs => hs
  unfold F307_51 at hW
  dsimp only at hW
  iterate 2 (refine kst rfl rfl ?_)
  refine wgetP (b := 198) rfl (oK12 hL rfl) rfl (oP12_0 hL) ?_
  refine kst rfl rfl ?_
  refine wald rfl (Or.inl (aK12_0 hL)) (aN12_0 hL) (by decide) ⟨by decide, by decide⟩ ?_
  refine wcm_ge rfl hW (fun hW => ?_) (fun hW => ?_)
  · iterate 2 (refine kst rfl rfl ?_)
    refine qcvI rfl (oK12 hL rfl) rfl rfl (R252 (d := d + 2) (h := h) hL hW) (fun v4 hW => ?_)
    refine kst rfl rfl ?_
    refine wcm_ne rfl hW (fun hW => ?_) (fun hW => ?_)
    · iterate 2 (refine kst rfl rfl ?_)
      refine wcvI rfl (oK12 hL rfl) rfl rfl (R205 (d := d + 3) (h := h) hL hW) (fun v5 h6 hL hW => ?_)
      refine kre rfl rfl ?_
      exact ⟨_, _, rfl, hL, hW⟩
    · iterate 3 (refine kst rfl rfl ?_)
      refine qcvI rfl (oK12 hL rfl) rfl rfl (R251 (d := d + 3) (h := h) hL hW) (fun v7 hW => ?_)
      refine kst rfl rfl ?_
      refine wcm_eq rfl hW (fun hW => ?_) (fun hW => ?_)
      · iterate 2 (refine kst rfl rfl ?_)
        refine wcvI rfl (oK12 hL rfl) rfl rfl (R205 (d := d + 3) (h := h) hL hW) (fun v8 h9 hL hW => ?_)
        refine kre rfl rfl ?_
        exact ⟨_, _, rfl, hL, hW⟩
      · iterate 2 (refine kst rfl rfl ?_)
        refine wcm_le rfl hW (fun hW => ?_) (fun hW => ?_)
        · iterate 2 (refine kst rfl rfl ?_)
          have z9 := k24 ((x3 + 1), h) hW hL
          refine wjp ?_ z9
          exact ⟨rfl, rfl, rfl, rfl, trivial⟩
        · iterate 2 (refine kst rfl rfl ?_)
          refine wcvI rfl (oK12 hL rfl) rfl rfl (R205 (d := d + 3) (h := h) hL hW) (fun v10 h11 hL hW => ?_)
          refine kre rfl rfl ?_
          exact ⟨_, _, rfl, hL, hW⟩
  · iterate 3 (refine kst rfl rfl ?_)
    refine qcaI rfl rfl (R250 (d := d + 3) (h := h) hL hW) (fun v12 hW => ?_)
    refine wif_eq rfl hW (fun hW => ?_) (fun hW => ?_)
    · refine wjp ?_ (R307_91 (h := h) k24 k51 hL hW)
      exact ⟨rfl, rfl, rfl, rfl, rfl, trivial⟩
    · iterate 3 (refine kst rfl rfl ?_)
      refine qcvI rfl (oK12 hL rfl) rfl rfl (R251 (d := d + 3) (h := h) hL hW) (fun v13 hW => ?_)
      refine kst rfl rfl ?_
      refine qcaI rfl rfl (R250 (d := d + 3) (h := h) hL hW) (fun v14 hW => ?_)
      refine wif_eq rfl hW (fun hW => ?_) (fun hW => ?_)
      · refine wjp ?_ (R307_91 (h := h) k24 k51 hL hW)
        exact ⟨rfl, rfl, rfl, rfl, rfl, trivial⟩
      · iterate 2 (refine kst rfl rfl ?_)
        refine wjp ?_ (R307_92 (h := h) k24 k51 hL hW)
        exact ⟨rfl, rfl, rfl, rfl, rfl, trivial⟩
theorem R307_24 {d : Nat} {a1 : Int32} {x2 : Int32} {x3 : Int32} {h : TH} {C : Int32 → TH → Prop} (hL : Lay h) (hW : B307_24 a1 x2 x3 h C) : xEk (d + 4) 307 (24, [(0, .ref 197), (1, .int a1), (2, .int x2), (3, .int x3)], [], h.X) (postI C) := by
  refine hW (fun s => Lay (s.2) → xEk (d + 4) 307 (24, [(0, .ref 197), (1, .int a1), (2, .int x2), (3, .int (s.1))], [], (TH.X (s.2))) (postI C)) ?_ hL
  rintro ⟨x3, h⟩ hW hL
  have k24 : ∀ s : Int32 × TH, (fun s => Lay (s.2) → xEk (d + 4) 307 (24, [(0, .ref 197), (1, .int a1), (2, .int x2), (3, .int (s.1))], [], (TH.X (s.2))) (postI C)) s → Lay (s.2) → xEk (d + 4) 307 (24, [(0, .ref 197), (1, .int a1), (2, .int x2), (3, .int (s.1))], [], (TH.X (s.2))) (postI C) := fun s hs => hs
  unfold F307_24 at hW
  dsimp only at hW
  iterate 2 (refine kst rfl rfl ?_)
  refine wgetP (b := 198) rfl (oK12 hL rfl) rfl (oP12_0 hL) ?_
  refine kst rfl rfl ?_
  refine wald rfl (Or.inl (aK12_0 hL)) (aN12_0 hL) (by decide) ⟨by decide, by decide⟩ ?_
  refine wcm_ge rfl hW (fun hW => ?_) (fun hW => ?_)
  · iterate 2 (refine kst rfl rfl ?_)
    refine wjp ?_ (R307_142 (h := h) hL hW)
    exact ⟨rfl, rfl, rfl, trivial⟩
  · iterate 2 (refine kst rfl rfl ?_)
    refine qcaI rfl rfl (R250 (d := d + 3) (h := h) hL hW) (fun v3 hW => ?_)
    refine wif_ne rfl hW (fun hW => ?_) (fun hW => ?_)
    · iterate 4 (refine kst rfl rfl ?_)
      refine wjp ?_ (R307_51 (h := h) k24 hL hW)
      exact ⟨rfl, rfl, rfl, rfl, rfl, rfl, trivial⟩
    · iterate 3 (refine kst rfl rfl ?_)
      have z9 := k24 ((x3 + 1), h) hW hL
      refine wjp ?_ z9
      exact ⟨rfl, rfl, rfl, rfl, trivial⟩
theorem R307 {d : Nat} {a1 : Int32} {h : TH} {C : Int32 → TH → Prop} (hL : Lay h) (hW : W307 a1 h C) : xPk (d + 4) 307 [.ref 197, .int a1] h.X (postI C) := by
  unfold W307 at hW
  refine kin (Nat.le_of_ble_eq_true rfl) ?_
  iterate 2 (refine kst rfl rfl ?_)
  refine qcvI rfl (oK12 hL rfl) rfl rfl (R247 (d := d + 3) (h := h) hL hW) (fun v1 hW => ?_)
  refine wif_ne rfl hW (fun hW => ?_) (fun hW => ?_)
  · iterate 4 (refine kst rfl rfl ?_)
    refine qcvI rfl (oK12 hL rfl) rfl rfl (R265 (d := d + 0) (h := h) hL hW) (fun v2 hW => ?_)
    iterate 3 (refine kst rfl rfl ?_)
    refine wjp ?_ (R307_24 (h := h) hL hW)
    exact ⟨rfl, rfl, rfl, rfl, trivial⟩
  · iterate 2 (refine kst rfl rfl ?_)
    refine wcvI rfl (oK12 hL rfl) rfl rfl (R205 (d := d + 3) (h := h) hL hW) (fun v3 h4 hL hW => ?_)
    refine kre rfl rfl ?_
    exact ⟨_, _, rfl, hL, hW⟩
/-- 308: FourPotsModel doesRounds -/
def B308_197 (a1 : Int32) (a2 : Int32) (a3 : Int32) (x4 : Int32) (x5 : Int32) (x6 : Int32) (h : TH) (C : Int32 → TH → Prop) (X76 : Int32 × Int32 × TH → Prop) : Prop :=
  X76 (x5, ((x6 - 1) &&& x4), h)
def B308_195 (a1 : Int32) (a2 : Int32) (a3 : Int32) (x4 : Int32) (x6 : Int32) (s0 : Int32) (h : TH) (C : Int32 → TH → Prop) (X76 : Int32 × Int32 × TH → Prop) : Prop :=
  B308_197 a1 a2 a3 x4 s0 x6 h C X76
def B308_190 (a1 : Int32) (a2 : Int32) (a3 : Int32) (x4 : Int32) (x6 : Int32) (h : TH) (C : Int32 → TH → Prop) (X76 : Int32 × Int32 × TH → Prop) : Prop :=
  B308_195 a1 a2 a3 x4 x6 1 h C X76
def B308_144 (a1 : Int32) (a2 : Int32) (a3 : Int32) (x4 : Int32) (x5 : Int32) (x6 : Int32) (x8 : Int32) (s0 : Int32) (s1 : Int32) (h : TH) (C : Int32 → TH → Prop) (X76 : Int32 × Int32 × TH → Prop) (X110 : Int32 × Int32 × TH → Prop) : Prop :=
  X110 ((s0 ||| s1), (x8 + 1), h)
def F308_110 (a1 : Int32) (a2 : Int32) (a3 : Int32) (x4 : Int32) (x5 : Int32) (x6 : Int32) (C : Int32 → TH → Prop) (X76 : Int32 × Int32 × TH → Prop) (X110 : Int32 × Int32 × TH → Prop) : Int32 × Int32 × TH → Prop := fun
  | (x7, x8, h) =>
    if (h.I 198 (ix 0)) ≤ x8 then (W256 x7 h (fun v3 => inb ((a1 ||| x6) &&& (v3 ^^^ (-1))) 4096 ∧ if ¬ x5 = 0 then (B308_190 a1 a2 a3 x4 x6 (h.sI 218 (ix ((a1 ||| x6) &&& (v3 ^^^ (-1)))) (1 &&& 1)) C X76) else (if ¬ (a2 &&& (((a1 ||| x6) &&& (v3 ^^^ (-1))) ^^^ (-1))) = 0 then (B308_195 a1 a2 a3 x4 x6 0 (h.sI 218 (ix ((a1 ||| x6) &&& (v3 ^^^ (-1)))) (1 &&& 1)) C X76) else (B308_190 a1 a2 a3 x4 x6 (h.sI 218 (ix ((a1 ||| x6) &&& (v3 ^^^ (-1)))) (1 &&& 1)) C X76)))) else (W250 x6 x8 h (fun v4 => if v4 = 0 then (B308_144 a1 a2 a3 x4 x5 x6 x8 x7 0 h C X76 X110) else (W251 x8 4 h (fun v5 => B308_144 a1 a2 a3 x4 x5 x6 x8 x7 v5 h C X76 X110))))
def B308_110 (a1 : Int32) (a2 : Int32) (a3 : Int32) (x4 : Int32) (x5 : Int32) (x6 : Int32) (x7 : Int32) (x8 : Int32) (h : TH) (C : Int32 → TH → Prop) (X76 : Int32 × Int32 × TH → Prop) : Prop := LFP (F308_110 a1 a2 a3 x4 x5 x6 C X76) (x7, x8, h)
def F308_76 (a1 : Int32) (a2 : Int32) (a3 : Int32) (x4 : Int32) (C : Int32 → TH → Prop) (X76 : Int32 × Int32 × TH → Prop) : Int32 × Int32 × TH → Prop := fun
  | (x5, x6, h) =>
    if x6 = 0 then ((x5 = 0 ∨ x5 = 1) ∧ C x5 h) else (W234 x6 h (fun v1 => if a3 < v1 then (B308_197 a1 a2 a3 x4 x5 x6 h C X76) else (W262 (a1 ||| x6) h (fun v2 => if ¬ v2 = 0 then (B308_110 a1 a2 a3 x4 x5 x6 0 0 h C X76) else (B308_197 a1 a2 a3 x4 x5 x6 h C X76)))))
def B308_76 (a1 : Int32) (a2 : Int32) (a3 : Int32) (x4 : Int32) (x5 : Int32) (x6 : Int32) (h : TH) (C : Int32 → TH → Prop) : Prop := LFP (F308_76 a1 a2 a3 x4 C) (x5, x6, h)
def B308_60 (a1 : Int32) (a2 : Int32) (a3 : Int32) (x5 : Int32) (s0 : Int32) (s1 : Int32) (h : TH) (C : Int32 → TH → Prop) (X6 : Int32 × Int32 × TH → Prop) : Prop :=
  X6 ((s0 ||| s1), (x5 + 1), h)
def B308_59 (a1 : Int32) (a2 : Int32) (a3 : Int32) (x5 : Int32) (s0 : Int32) (h : TH) (C : Int32 → TH → Prop) (X6 : Int32 × Int32 × TH → Prop) : Prop :=
  B308_60 a1 a2 a3 x5 s0 0 h C X6
def F308_6 (a1 : Int32) (a2 : Int32) (a3 : Int32) (C : Int32 → TH → Prop) (X6 : Int32 × Int32 × TH → Prop) : Int32 × Int32 × TH → Prop := fun
  | (x4, x5, h) =>
    if (h.I 198 (ix 0)) ≤ x5 then (B308_76 a1 a2 a3 x4 0 x4 h C) else (W250 a1 x5 h (fun v1 => if ¬ v1 = 0 then (B308_59 a1 a2 a3 x5 x4 h C X6) else (W252 x5 h (fun v2 => if ¬ v2 = (-1) then (B308_59 a1 a2 a3 x5 x4 h C X6) else (W251 x5 4 h (fun v3 => if ¬ (v3 &&& (a1 ^^^ (-1))) = 0 then (B308_59 a1 a2 a3 x5 x4 h C X6) else (B308_60 a1 a2 a3 x5 x4 (ishl 1 x5) h C X6)))))))
def B308_6 (a1 : Int32) (a2 : Int32) (a3 : Int32) (x4 : Int32) (x5 : Int32) (h : TH) (C : Int32 → TH → Prop) : Prop := LFP (F308_6 a1 a2 a3 C) (x4, x5, h)
def W308 (a1 : Int32) (a2 : Int32) (a3 : Int32) (h : TH) (C : Int32 → TH → Prop) : Prop :=
  B308_6 a1 a2 a3 0 0 h C

theorem R308_197 {d : Nat} {a1 : Int32} {a2 : Int32} {a3 : Int32} {x4 : Int32} {x5 : Int32} {x6 : Int32} {h : TH} {C : Int32 → TH → Prop} {X76 : Int32 × Int32 × TH → Prop} (k76 : ∀ s : Int32 × Int32 × TH, X76 s → Lay (s.2.2) → xEk (d + 2) 308 (76, [(0, .ref 197), (1, .int a1), (2, .int a2), (3, .int a3), (4, .int x4), (5, .int (s.1)), (6, .int (s.2.1))], [], (TH.X (s.2.2))) (postI C)) (hL : Lay h) (hW : B308_197 a1 a2 a3 x4 x5 x6 h C X76) : xEk (d + 2) 308 (197, [(0, .ref 197), (1, .int a1), (2, .int a2), (3, .int a3), (4, .int x4), (5, .int x5), (6, .int x6)], [], h.X) (postI C) := by
  unfold B308_197 at hW
  iterate 7 (refine kst rfl rfl ?_)
  have z9 := k76 (x5, ((x6 - 1) &&& x4), h) hW hL
  refine wjp ?_ z9
  exact ⟨rfl, rfl, rfl, rfl, rfl, rfl, rfl, trivial⟩
theorem R308_195 {d : Nat} {a1 : Int32} {a2 : Int32} {a3 : Int32} {x4 : Int32} {x6 : Int32} {s0 : Int32} {h : TH} {C : Int32 → TH → Prop} {X76 : Int32 × Int32 × TH → Prop} (k76 : ∀ s : Int32 × Int32 × TH, X76 s → Lay (s.2.2) → xEk (d + 2) 308 (76, [(0, .ref 197), (1, .int a1), (2, .int a2), (3, .int a3), (4, .int x4), (5, .int (s.1)), (6, .int (s.2.1))], [], (TH.X (s.2.2))) (postI C)) (hL : Lay h) (hW : B308_195 a1 a2 a3 x4 x6 s0 h C X76) : xEk (d + 2) 308 (195, [(0, .ref 197), (1, .int a1), (2, .int a2), (3, .int a3), (4, .int x4), (6, .int x6)], [.int s0], h.X) (postI C) := by
  unfold B308_195 at hW
  refine kst rfl rfl ?_
  refine wjp ?_ (R308_197 (h := h) k76 hL hW)
  exact ⟨rfl, rfl, rfl, rfl, rfl, rfl, rfl, trivial⟩
theorem R308_190 {d : Nat} {a1 : Int32} {a2 : Int32} {a3 : Int32} {x4 : Int32} {x6 : Int32} {h : TH} {C : Int32 → TH → Prop} {X76 : Int32 × Int32 × TH → Prop} (k76 : ∀ s : Int32 × Int32 × TH, X76 s → Lay (s.2.2) → xEk (d + 2) 308 (76, [(0, .ref 197), (1, .int a1), (2, .int a2), (3, .int a3), (4, .int x4), (5, .int (s.1)), (6, .int (s.2.1))], [], (TH.X (s.2.2))) (postI C)) (hL : Lay h) (hW : B308_190 a1 a2 a3 x4 x6 h C X76) : xEk (d + 2) 308 (190, [(0, .ref 197), (1, .int a1), (2, .int a2), (3, .int a3), (4, .int x4), (6, .int x6)], [], h.X) (postI C) := by
  unfold B308_190 at hW
  iterate 2 (refine kst rfl rfl ?_)
  refine wjp ?_ (R308_195 (h := h) k76 hL hW)
  exact ⟨rfl, rfl, rfl, rfl, rfl, rfl, trivial⟩
theorem R308_144 {d : Nat} {a1 : Int32} {a2 : Int32} {a3 : Int32} {x4 : Int32} {x5 : Int32} {x6 : Int32} {x8 : Int32} {s0 : Int32} {s1 : Int32} {h : TH} {C : Int32 → TH → Prop} {X76 : Int32 × Int32 × TH → Prop} (k76 : ∀ s : Int32 × Int32 × TH, X76 s → Lay (s.2.2) → xEk (d + 2) 308 (76, [(0, .ref 197), (1, .int a1), (2, .int a2), (3, .int a3), (4, .int x4), (5, .int (s.1)), (6, .int (s.2.1))], [], (TH.X (s.2.2))) (postI C)) {X110 : Int32 × Int32 × TH → Prop} (k110 : ∀ s : Int32 × Int32 × TH, X110 s → Lay (s.2.2) → xEk (d + 2) 308 (110, [(0, .ref 197), (1, .int a1), (2, .int a2), (3, .int a3), (4, .int x4), (5, .int x5), (6, .int x6), (7, .int (s.1)), (8, .int (s.2.1))], [], (TH.X (s.2.2))) (postI C)) (hL : Lay h) (hW : B308_144 a1 a2 a3 x4 x5 x6 x8 s0 s1 h C X76 X110) : xEk (d + 2) 308 (144, [(0, .ref 197), (1, .int a1), (2, .int a2), (3, .int a3), (4, .int x4), (5, .int x5), (6, .int x6), (8, .int x8)], [.int s1, .int s0], h.X) (postI C) := by
  unfold B308_144 at hW
  iterate 4 (refine kst rfl rfl ?_)
  have z9 := k110 ((s0 ||| s1), (x8 + 1), h) hW hL
  refine wjp ?_ z9
  exact ⟨rfl, rfl, rfl, rfl, rfl, rfl, rfl, rfl, rfl, trivial⟩
theorem R308_110 {d : Nat} {a1 : Int32} {a2 : Int32} {a3 : Int32} {x4 : Int32} {x5 : Int32} {x6 : Int32} {x7 : Int32} {x8 : Int32} {h : TH} {C : Int32 → TH → Prop} {X76 : Int32 × Int32 × TH → Prop} (k76 : ∀ s : Int32 × Int32 × TH, X76 s → Lay (s.2.2) → xEk (d + 2) 308 (76, [(0, .ref 197), (1, .int a1), (2, .int a2), (3, .int a3), (4, .int x4), (5, .int (s.1)), (6, .int (s.2.1))], [], (TH.X (s.2.2))) (postI C)) (hL : Lay h) (hW : B308_110 a1 a2 a3 x4 x5 x6 x7 x8 h C X76) : xEk (d + 2) 308 (110, [(0, .ref 197), (1, .int a1), (2, .int a2), (3, .int a3), (4, .int x4), (5, .int x5), (6, .int x6), (7, .int x7), (8, .int x8)], [], h.X) (postI C) := by
  refine hW (fun s => Lay (s.2.2) → xEk (d + 2) 308 (110, [(0, .ref 197), (1, .int a1), (2, .int a2), (3, .int a3), (4, .int x4), (5, .int x5), (6, .int x6), (7, .int (s.1)), (8, .int (s.2.1))], [], (TH.X (s.2.2))) (postI C)) ?_ hL
  rintro ⟨x7, x8, h⟩ hW hL
  have k110 : ∀ s : Int32 × Int32 × TH, (fun s => Lay (s.2.2) → xEk (d + 2) 308 (110, [(0, .ref 197), (1, .int a1), (2, .int a2), (3, .int a3), (4, .int x4), (5, .int x5), (6, .int x6), (7, .int (s.1)), (8, .int (s.2.1))], [], (TH.X (s.2.2))) (postI C)) s → Lay (s.2.2) → xEk (d + 2) 308 (110, [(0, .ref 197), (1, .int a1), (2, .int a2), (3, .int a3), (4, .int x4), (5, .int x5), (6, .int x6), (7, .int (s.1)), (8, .int (s.2.1))], [], (TH.X (s.2.2))) (postI C) := fun s hs => hs
  unfold F308_110 at hW
  dsimp only at hW
  iterate 2 (refine kst rfl rfl ?_)
  refine wgetP (b := 198) rfl (oK12 hL rfl) rfl (oP12_0 hL) ?_
  refine kst rfl rfl ?_
  refine wald rfl (Or.inl (aK12_0 hL)) (aN12_0 hL) (by decide) ⟨by decide, by decide⟩ ?_
  refine wcm_ge rfl hW (fun hW => ?_) (fun hW => ?_)
  · iterate 5 (refine kst rfl rfl ?_)
    refine qcvI rfl (oK12 hL rfl) rfl rfl (R256 (d := d + 0) (h := h) hL hW) (fun v3 hW => ?_)
    iterate 5 (refine kst rfl rfl ?_)
    refine wgetP (b := 218) rfl (oK12 hL rfl) rfl (oP12_39 hL) ?_
    iterate 2 (refine kst rfl rfl ?_)
    obtain ⟨q1, hW⟩ := hW
    refine wzast rfl (aK12_39 hL) (aN12_39 hL) (by decide) q1 ?_
    replace hL : Lay (h.sI 218 (ix ((a1 ||| x6) &&& (v3 ^^^ (-1)))) (1 &&& 1)) := lsI hL
    refine kst rfl rfl ?_
    refine wif_ne rfl hW (fun hW => ?_) (fun hW => ?_)
    · refine wjp ?_ (R308_190 (h := (h.sI 218 (ix ((a1 ||| x6) &&& (v3 ^^^ (-1)))) (1 &&& 1))) k76 hL hW)
      exact ⟨rfl, rfl, rfl, rfl, rfl, rfl, trivial⟩
    · iterate 5 (refine kst rfl rfl ?_)
      refine wif_ne rfl hW (fun hW => ?_) (fun hW => ?_)
      · refine kst rfl rfl ?_
        refine wjp ?_ (R308_195 (h := (h.sI 218 (ix ((a1 ||| x6) &&& (v3 ^^^ (-1)))) (1 &&& 1))) k76 hL hW)
        exact ⟨rfl, rfl, rfl, rfl, rfl, rfl, trivial⟩
      · refine wjp ?_ (R308_190 (h := (h.sI 218 (ix ((a1 ||| x6) &&& (v3 ^^^ (-1)))) (1 &&& 1))) k76 hL hW)
        exact ⟨rfl, rfl, rfl, rfl, rfl, rfl, trivial⟩
  · iterate 3 (refine kst rfl rfl ?_)
    refine qcaI rfl rfl (R250 (d := d + 1) (h := h) hL hW) (fun v4 hW => ?_)
    refine wif_eq rfl hW (fun hW => ?_) (fun hW => ?_)
    · refine kst rfl rfl ?_
      refine wjp ?_ (R308_144 (h := h) k76 k110 hL hW)
      exact ⟨rfl, rfl, rfl, rfl, rfl, rfl, rfl, rfl, trivial⟩
    · iterate 3 (refine kst rfl rfl ?_)
      refine qcvI rfl (oK12 hL rfl) rfl rfl (R251 (d := d + 1) (h := h) hL hW) (fun v5 hW => ?_)
      refine kst rfl rfl ?_
      refine wjp ?_ (R308_144 (h := h) k76 k110 hL hW)
      exact ⟨rfl, rfl, rfl, rfl, rfl, rfl, rfl, rfl, trivial⟩
theorem R308_76 {d : Nat} {a1 : Int32} {a2 : Int32} {a3 : Int32} {x4 : Int32} {x5 : Int32} {x6 : Int32} {h : TH} {C : Int32 → TH → Prop} (hL : Lay h) (hW : B308_76 a1 a2 a3 x4 x5 x6 h C) : xEk (d + 2) 308 (76, [(0, .ref 197), (1, .int a1), (2, .int a2), (3, .int a3), (4, .int x4), (5, .int x5), (6, .int x6)], [], h.X) (postI C) := by
  refine hW (fun s => Lay (s.2.2) → xEk (d + 2) 308 (76, [(0, .ref 197), (1, .int a1), (2, .int a2), (3, .int a3), (4, .int x4), (5, .int (s.1)), (6, .int (s.2.1))], [], (TH.X (s.2.2))) (postI C)) ?_ hL
  rintro ⟨x5, x6, h⟩ hW hL
  have k76 : ∀ s : Int32 × Int32 × TH, (fun s => Lay (s.2.2) → xEk (d + 2) 308 (76, [(0, .ref 197), (1, .int a1), (2, .int a2), (3, .int a3), (4, .int x4), (5, .int (s.1)), (6, .int (s.2.1))], [], (TH.X (s.2.2))) (postI C)) s → Lay (s.2.2) → xEk (d + 2) 308 (76, [(0, .ref 197), (1, .int a1), (2, .int a2), (3, .int a3), (4, .int x4), (5, .int (s.1)), (6, .int (s.2.1))], [], (TH.X (s.2.2))) (postI C) := fun s hs => hs
  unfold F308_76 at hW
  dsimp only at hW
  refine kst rfl rfl ?_
  refine wif_eq rfl hW (fun hW => ?_) (fun hW => ?_)
  · refine kst rfl rfl ?_
    obtain ⟨q1, hW⟩ := hW
    refine wrZ rfl q1 ?_
    exact ⟨_, _, rfl, hL, hW⟩
  · refine kst rfl rfl ?_
    refine qcaI rfl rfl (R234 (d := d + 1) (h := h) hL hW) (fun v1 hW => ?_)
    refine kst rfl rfl ?_
    refine wcm_gt rfl hW (fun hW => ?_) (fun hW => ?_)
    · refine wjp ?_ (R308_197 (h := h) k76 hL hW)
      exact ⟨rfl, rfl, rfl, rfl, rfl, rfl, rfl, trivial⟩
    · iterate 4 (refine kst rfl rfl ?_)
      refine qcvI rfl (oK12 hL rfl) rfl rfl (R262 (d := d + 0) (h := h) hL hW) (fun v2 hW => ?_)
      refine wif_ne rfl hW (fun hW => ?_) (fun hW => ?_)
      · iterate 4 (refine kst rfl rfl ?_)
        refine wjp ?_ (R308_110 (h := h) k76 hL hW)
        exact ⟨rfl, rfl, rfl, rfl, rfl, rfl, rfl, rfl, rfl, trivial⟩
      · refine kst rfl rfl ?_
        refine wjp ?_ (R308_197 (h := h) k76 hL hW)
        exact ⟨rfl, rfl, rfl, rfl, rfl, rfl, rfl, trivial⟩
theorem R308_60 {d : Nat} {a1 : Int32} {a2 : Int32} {a3 : Int32} {x5 : Int32} {s0 : Int32} {s1 : Int32} {h : TH} {C : Int32 → TH → Prop} {X6 : Int32 × Int32 × TH → Prop} (k6 : ∀ s : Int32 × Int32 × TH, X6 s → Lay (s.2.2) → xEk (d + 2) 308 (6, [(0, .ref 197), (1, .int a1), (2, .int a2), (3, .int a3), (4, .int (s.1)), (5, .int (s.2.1))], [], (TH.X (s.2.2))) (postI C)) (hL : Lay h) (hW : B308_60 a1 a2 a3 x5 s0 s1 h C X6) : xEk (d + 2) 308 (60, [(0, .ref 197), (1, .int a1), (2, .int a2), (3, .int a3), (5, .int x5)], [.int s1, .int s0], h.X) (postI C) := by
  unfold B308_60 at hW
  iterate 4 (refine kst rfl rfl ?_)
  have z9 := k6 ((s0 ||| s1), (x5 + 1), h) hW hL
  refine wjp ?_ z9
  exact ⟨rfl, rfl, rfl, rfl, rfl, rfl, trivial⟩
theorem R308_59 {d : Nat} {a1 : Int32} {a2 : Int32} {a3 : Int32} {x5 : Int32} {s0 : Int32} {h : TH} {C : Int32 → TH → Prop} {X6 : Int32 × Int32 × TH → Prop} (k6 : ∀ s : Int32 × Int32 × TH, X6 s → Lay (s.2.2) → xEk (d + 2) 308 (6, [(0, .ref 197), (1, .int a1), (2, .int a2), (3, .int a3), (4, .int (s.1)), (5, .int (s.2.1))], [], (TH.X (s.2.2))) (postI C)) (hL : Lay h) (hW : B308_59 a1 a2 a3 x5 s0 h C X6) : xEk (d + 2) 308 (59, [(0, .ref 197), (1, .int a1), (2, .int a2), (3, .int a3), (5, .int x5)], [.int s0], h.X) (postI C) := by
  unfold B308_59 at hW
  refine kst rfl rfl ?_
  refine wjp ?_ (R308_60 (h := h) k6 hL hW)
  exact ⟨rfl, rfl, rfl, rfl, rfl, trivial⟩
theorem R308_6 {d : Nat} {a1 : Int32} {a2 : Int32} {a3 : Int32} {x4 : Int32} {x5 : Int32} {h : TH} {C : Int32 → TH → Prop} (hL : Lay h) (hW : B308_6 a1 a2 a3 x4 x5 h C) : xEk (d + 2) 308 (6, [(0, .ref 197), (1, .int a1), (2, .int a2), (3, .int a3), (4, .int x4), (5, .int x5)], [], h.X) (postI C) := by
  refine hW (fun s => Lay (s.2.2) → xEk (d + 2) 308 (6, [(0, .ref 197), (1, .int a1), (2, .int a2), (3, .int a3), (4, .int (s.1)), (5, .int (s.2.1))], [], (TH.X (s.2.2))) (postI C)) ?_ hL
  rintro ⟨x4, x5, h⟩ hW hL
  have k6 : ∀ s : Int32 × Int32 × TH, (fun s => Lay (s.2.2) → xEk (d + 2) 308 (6, [(0, .ref 197), (1, .int a1), (2, .int a2), (3, .int a3), (4, .int (s.1)), (5, .int (s.2.1))], [], (TH.X (s.2.2))) (postI C)) s → Lay (s.2.2) → xEk (d + 2) 308 (6, [(0, .ref 197), (1, .int a1), (2, .int a2), (3, .int a3), (4, .int (s.1)), (5, .int (s.2.1))], [], (TH.X (s.2.2))) (postI C) := fun s hs => hs
  unfold F308_6 at hW
  dsimp only at hW
  iterate 2 (refine kst rfl rfl ?_)
  refine wgetP (b := 198) rfl (oK12 hL rfl) rfl (oP12_0 hL) ?_
  refine kst rfl rfl ?_
  refine wald rfl (Or.inl (aK12_0 hL)) (aN12_0 hL) (by decide) ⟨by decide, by decide⟩ ?_
  refine wcm_ge rfl hW (fun hW => ?_) (fun hW => ?_)
  · iterate 4 (refine kst rfl rfl ?_)
    refine wjp ?_ (R308_76 (h := h) hL hW)
    exact ⟨rfl, rfl, rfl, rfl, rfl, rfl, rfl, trivial⟩
  · iterate 3 (refine kst rfl rfl ?_)
    refine qcaI rfl rfl (R250 (d := d + 1) (h := h) hL hW) (fun v1 hW => ?_)
    refine wif_ne rfl hW (fun hW => ?_) (fun hW => ?_)
    · refine wjp ?_ (R308_59 (h := h) k6 hL hW)
      exact ⟨rfl, rfl, rfl, rfl, rfl, trivial⟩
    · iterate 2 (refine kst rfl rfl ?_)
      refine qcvI rfl (oK12 hL rfl) rfl rfl (R252 (d := d + 0) (h := h) hL hW) (fun v2 hW => ?_)
      refine kst rfl rfl ?_
      refine wcm_ne rfl hW (fun hW => ?_) (fun hW => ?_)
      · refine wjp ?_ (R308_59 (h := h) k6 hL hW)
        exact ⟨rfl, rfl, rfl, rfl, rfl, trivial⟩
      · iterate 3 (refine kst rfl rfl ?_)
        refine qcvI rfl (oK12 hL rfl) rfl rfl (R251 (d := d + 1) (h := h) hL hW) (fun v3 hW => ?_)
        iterate 4 (refine kst rfl rfl ?_)
        refine wif_ne rfl hW (fun hW => ?_) (fun hW => ?_)
        · refine wjp ?_ (R308_59 (h := h) k6 hL hW)
          exact ⟨rfl, rfl, rfl, rfl, rfl, trivial⟩
        · iterate 4 (refine kst rfl rfl ?_)
          refine wjp ?_ (R308_60 (h := h) k6 hL hW)
          exact ⟨rfl, rfl, rfl, rfl, rfl, trivial⟩
theorem R308 {d : Nat} {a1 : Int32} {a2 : Int32} {a3 : Int32} {h : TH} {C : Int32 → TH → Prop} (hL : Lay h) (hW : W308 a1 a2 a3 h C) : xPk (d + 2) 308 [.ref 197, .int a1, .int a2, .int a3] h.X (postI C) := by
  unfold W308 at hW
  refine kin (Nat.le_of_ble_eq_true rfl) ?_
  iterate 4 (refine kst rfl rfl ?_)
  refine wjp ?_ (R308_6 (h := h) hL hW)
  exact ⟨rfl, rfl, rfl, rfl, rfl, rfl, trivial⟩
/-- 309: FourPotsModel rounds -/
def F309_301 (a1 : Int32) (a2 : Int32) (x3 : Int32) (x4 : Int32) (C : Int32 → TH → Prop) (X120 : Int32 × Int32 × TH → Prop) (X301 : Int32 × TH → Prop) : Int32 × TH → Prop := fun
  | (x5, h) =>
    W248  h (fun v12 => if v12 ≤ x5 then (X120 (x3, (x4 + 1), h)) else (inb x5 4096 ∧ inb x5 4096 ∧ X301 ((x5 + 1), (h.sI 217 (ix x5) ((h.I 218 (ix x5)) &&& 1)))))
def B309_301 (a1 : Int32) (a2 : Int32) (x3 : Int32) (x4 : Int32) (x5 : Int32) (h : TH) (C : Int32 → TH → Prop) (X120 : Int32 × Int32 × TH → Prop) : Prop := LFP (F309_301 a1 a2 x3 x4 C X120) (x5, h)
def B309_286 (a1 : Int32) (a2 : Int32) (x4 : Int32) (x5 : Int32) (h : TH) (C : Int32 → TH → Prop) (X120 : Int32 × Int32 × TH → Prop) (X212 : Int32 × Int32 × TH → Prop) : Prop :=
  X212 (1, (x5 + (-1)), h)
def B309_290 (a1 : Int32) (a2 : Int32) (x4 : Int32) (x5 : Int32) (h : TH) (C : Int32 → TH → Prop) (X120 : Int32 × Int32 × TH → Prop) (X212 : Int32 × Int32 × TH → Prop) : Prop :=
  X212 (0, (x5 + (-1)), h)
def B309_262 (a1 : Int32) (a2 : Int32) (x3 : Int32) (x4 : Int32) (x5 : Int32) (h : TH) (C : Int32 → TH → Prop) (X120 : Int32 × Int32 × TH → Prop) (X212 : Int32 × Int32 × TH → Prop) : Prop :=
  if ¬ x3 = 0 then (B309_286 a1 a2 x4 x5 h C X120 X212) else (inb x5 4096 ∧ if (h.I 218 (ix x5)) = 0 then (B309_290 a1 a2 x4 x5 h C X120 X212) else (inb x5 4096 ∧ if ¬ (h.I 217 (ix x5)) = 0 then (B309_290 a1 a2 x4 x5 h C X120 X212) else (B309_286 a1 a2 x4 x5 h C X120 X212)))
def F309_220 (a1 : Int32) (a2 : Int32) (x3 : Int32) (x4 : Int32) (x5 : Int32) (C : Int32 → TH → Prop) (X120 : Int32 × Int32 × TH → Prop) (X212 : Int32 × Int32 × TH → Prop) (X220 : Int32 × TH → Prop) : Int32 × TH → Prop := fun
  | (x6, h) =>
    if (h.I 198 (ix 0)) ≤ x6 then (B309_262 a1 a2 x3 x4 x5 h C X120 X212) else (inb x5 4096 ∧ if (h.I 218 (ix x5)) = 0 then (B309_262 a1 a2 x3 x4 x5 h C X120 X212) else (inb (x5 &&& ((ishl 1 x6) ^^^ (-1))) 4096 ∧ X220 ((x6 + 1), (h.sI 218 (ix (x5 &&& ((ishl 1 x6) ^^^ (-1)))) (1 &&& 1)))))
def B309_220 (a1 : Int32) (a2 : Int32) (x3 : Int32) (x4 : Int32) (x5 : Int32) (x6 : Int32) (h : TH) (C : Int32 → TH → Prop) (X120 : Int32 × Int32 × TH → Prop) (X212 : Int32 × Int32 × TH → Prop) : Prop := LFP (F309_220 a1 a2 x3 x4 x5 C X120 X212) (x6, h)
def F309_212 (a1 : Int32) (a2 : Int32) (x4 : Int32) (C : Int32 → TH → Prop) (X120 : Int32 × Int32 × TH → Prop) (X212 : Int32 × Int32 × TH → Prop) : Int32 × Int32 × TH → Prop := fun
  | (x3, x5, h) =>
    if x5 < 0 then (B309_301 a1 a2 x3 x4 0 h C X120) else (B309_220 a1 a2 x3 x4 x5 0 h C X120 X212)
def B309_212 (a1 : Int32) (a2 : Int32) (x4 : Int32) (x3 : Int32) (x5 : Int32) (h : TH) (C : Int32 → TH → Prop) (X120 : Int32 × Int32 × TH → Prop) : Prop := LFP (F309_212 a1 a2 x4 C X120) (x3, x5, h)
def F309_161 (a1 : Int32) (a2 : Int32) (x3 : Int32) (x4 : Int32) (C : Int32 → TH → Prop) (X120 : Int32 × Int32 × TH → Prop) (X161 : Int32 × TH → Prop) : Int32 × TH → Prop := fun
  | (x5, h) =>
    W248  h (fun v10 => if v10 ≤ x5 then (W248  h (fun v11 => B309_212 a1 a2 x4 x3 (v11 - 1) h C X120)) else (inb x5 4096 ∧ if (h.I 217 (ix x5)) = 0 then (X161 ((x5 + 1), h)) else (W308 x5 a1 a2 h (fun v12 h13 => if v12 = 0 then (X161 ((x5 + 1), h13)) else (W206 x4 h13 (fun v14 h15 => C v14 h15))))))
def B309_161 (a1 : Int32) (a2 : Int32) (x3 : Int32) (x4 : Int32) (x5 : Int32) (h : TH) (C : Int32 → TH → Prop) (X120 : Int32 × Int32 × TH → Prop) : Prop := LFP (F309_161 a1 a2 x3 x4 C X120) (x5, h)
def F309_129 (a1 : Int32) (a2 : Int32) (x3 : Int32) (x4 : Int32) (C : Int32 → TH → Prop) (X120 : Int32 × Int32 × TH → Prop) (X129 : Int32 × TH → Prop) : Int32 × TH → Prop := fun
  | (x5, h) =>
    W248  h (fun v9 => if v9 ≤ x5 then (B309_161 a1 a2 x3 x4 0 h C X120) else (inb x5 4096 ∧ inb x5 4096 ∧ X129 ((x5 + 1), (h.sI 218 (ix x5) ((h.I 217 (ix x5)) &&& 1)))))
def B309_129 (a1 : Int32) (a2 : Int32) (x3 : Int32) (x4 : Int32) (x5 : Int32) (h : TH) (C : Int32 → TH → Prop) (X120 : Int32 × Int32 × TH → Prop) : Prop := LFP (F309_129 a1 a2 x3 x4 C X120) (x5, h)
def F309_120 (a1 : Int32) (a2 : Int32) (C : Int32 → TH → Prop) (X120 : Int32 × Int32 × TH → Prop) : Int32 × Int32 × TH → Prop := fun
  | (x3, x4, h) =>
    if x3 = 0 then (W205 6 h (fun v7 h8 => C v7 h8)) else (B309_129 a1 a2 0 x4 0 h C X120)
def B309_120 (a1 : Int32) (a2 : Int32) (x3 : Int32) (x4 : Int32) (h : TH) (C : Int32 → TH → Prop) : Prop := LFP (F309_120 a1 a2 C) (x3, x4, h)
def F309_86 (a1 : Int32) (a2 : Int32) (C : Int32 → TH → Prop) (X86 : Int32 × TH → Prop) : Int32 × TH → Prop := fun
  | (x3, h) =>
    W248  h (fun v6 => if v6 ≤ x3 then (B309_120 a1 a2 1 1 h C) else (if ¬ x3 = 0 then (inb x3 4096 ∧ X86 ((x3 + 1), (h.sI 217 (ix x3) (0 &&& 1)))) else (inb x3 4096 ∧ X86 ((x3 + 1), (h.sI 217 (ix x3) (1 &&& 1))))))
def B309_86 (a1 : Int32) (a2 : Int32) (x3 : Int32) (h : TH) (C : Int32 → TH → Prop) : Prop := LFP (F309_86 a1 a2 C) (x3, h)
def F309_38 (a1 : Int32) (a2 : Int32) (C : Int32 → TH → Prop) (X38 : Int32 × TH → Prop) : Int32 × TH → Prop := fun
  | (x3, h) =>
    if (h.I 198 (ix 0)) ≤ x3 then (W263 0 (-1) h (fun h5 => B309_86 a1 a2 0 h5 C)) else (W250 a1 x3 h (fun v6 => if v6 = 0 then (X38 ((x3 + 1), h)) else (W252 x3 h (fun v7 => if v7 = (-1) then (X38 ((x3 + 1), h)) else (W205 6 h (fun v8 h9 => C v8 h9))))))
def B309_38 (a1 : Int32) (a2 : Int32) (x3 : Int32) (h : TH) (C : Int32 → TH → Prop) : Prop := LFP (F309_38 a1 a2 C) (x3, h)
def W309 (a1 : Int32) (a2 : Int32) (h : TH) (C : Int32 → TH → Prop) : Prop :=
  W249 a1 h (fun v1 => if v1 = 0 then (W205 1 h (fun v2 h3 => C v2 h3)) else (W215 ((a2).toInt64) (1 : Int64) (4 : Int64) h (fun v4 => if ¬ v4 = 0 then (if ¬ a1 = 0 then (B309_38 a1 a2 0 h C) else (W206 0 h (fun v5 h6 => C v5 h6))) else (W205 1 h (fun v7 h8 => C v7 h8)))))

theorem R309_301 {d : Nat} {a1 : Int32} {a2 : Int32} {x3 : Int32} {x4 : Int32} {x5 : Int32} {h : TH} {C : Int32 → TH → Prop} {X120 : Int32 × Int32 × TH → Prop} (k120 : ∀ s : Int32 × Int32 × TH, X120 s → Lay (s.2.2) → xEk (d + 3) 309 (120, [(0, .ref 197), (1, .int a1), (2, .int a2), (3, .int (s.1)), (4, .int (s.2.1))], [], (TH.X (s.2.2))) (postI C)) (hL : Lay h) (hW : B309_301 a1 a2 x3 x4 x5 h C X120) : xEk (d + 3) 309 (301, [(0, .ref 197), (1, .int a1), (2, .int a2), (3, .int x3), (4, .int x4), (5, .int x5)], [], h.X) (postI C) := by
  refine hW (fun s => Lay (s.2) → xEk (d + 3) 309 (301, [(0, .ref 197), (1, .int a1), (2, .int a2), (3, .int x3), (4, .int x4), (5, .int (s.1))], [], (TH.X (s.2))) (postI C)) ?_ hL
  rintro ⟨x5, h⟩ hW hL
  have k301 : ∀ s : Int32 × TH, (fun s => Lay (s.2) → xEk (d + 3) 309 (301, [(0, .ref 197), (1, .int a1), (2, .int a2), (3, .int x3), (4, .int x4), (5, .int (s.1))], [], (TH.X (s.2))) (postI C)) s → Lay (s.2) → xEk (d + 3) 309 (301, [(0, .ref 197), (1, .int a1), (2, .int a2), (3, .int x3), (4, .int x4), (5, .int (s.1))], [], (TH.X (s.2))) (postI C) := fun s hs => hs
  unfold F309_301 at hW
  dsimp only at hW
  iterate 2 (refine kst rfl rfl ?_)
  refine qcvI rfl (oK12 hL rfl) rfl rfl (R248 (d := d + 2) (h := h) hL hW) (fun v12 hW => ?_)
  refine wcm_ge rfl hW (fun hW => ?_) (fun hW => ?_)
  · iterate 2 (refine kst rfl rfl ?_)
    have z9 := k120 (x3, (x4 + 1), h) hW hL
    refine wjp ?_ z9
    exact ⟨rfl, rfl, rfl, rfl, rfl, trivial⟩
  · refine kst rfl rfl ?_
    refine wgetP (b := 217) rfl (oK12 hL rfl) rfl (oP12_38 hL) ?_
    iterate 2 (refine kst rfl rfl ?_)
    refine wgetP (b := 218) rfl (oK12 hL rfl) rfl (oP12_39 hL) ?_
    refine kst rfl rfl ?_
    obtain ⟨q1, hW⟩ := hW
    refine wbald rfl (Or.inl (aK12_39 hL)) (aN12_39 hL) (by decide) q1 ?_
    obtain ⟨q2, hW⟩ := hW
    refine wzast rfl (aK12_38 hL) (aN12_38 hL) (by decide) q2 ?_
    replace hL : Lay (h.sI 217 (ix x5) ((h.I 218 (ix x5)) &&& 1)) := lsI hL
    iterate 2 (refine kst rfl rfl ?_)
    have z9 := k301 ((x5 + 1), (h.sI 217 (ix x5) ((h.I 218 (ix x5)) &&& 1))) hW hL
    refine wjp ?_ z9
    exact ⟨rfl, rfl, rfl, rfl, rfl, rfl, trivial⟩
theorem R309_286 {d : Nat} {a1 : Int32} {a2 : Int32} {x4 : Int32} {x5 : Int32} {h : TH} {C : Int32 → TH → Prop} {X120 : Int32 × Int32 × TH → Prop} (k120 : ∀ s : Int32 × Int32 × TH, X120 s → Lay (s.2.2) → xEk (d + 3) 309 (120, [(0, .ref 197), (1, .int a1), (2, .int a2), (3, .int (s.1)), (4, .int (s.2.1))], [], (TH.X (s.2.2))) (postI C)) {X212 : Int32 × Int32 × TH → Prop} (k212 : ∀ s : Int32 × Int32 × TH, X212 s → Lay (s.2.2) → xEk (d + 3) 309 (212, [(0, .ref 197), (1, .int a1), (2, .int a2), (3, .int (s.1)), (4, .int x4), (5, .int (s.2.1))], [], (TH.X (s.2.2))) (postI C)) (hL : Lay h) (hW : B309_286 a1 a2 x4 x5 h C X120 X212) : xEk (d + 3) 309 (286, [(0, .ref 197), (1, .int a1), (2, .int a2), (4, .int x4), (5, .int x5)], [], h.X) (postI C) := by
  unfold B309_286 at hW
  iterate 5 (refine kst rfl rfl ?_)
  have z9 := k212 (1, (x5 + (-1)), h) hW hL
  refine wjp ?_ z9
  exact ⟨rfl, rfl, rfl, rfl, rfl, rfl, trivial⟩
theorem R309_290 {d : Nat} {a1 : Int32} {a2 : Int32} {x4 : Int32} {x5 : Int32} {h : TH} {C : Int32 → TH → Prop} {X120 : Int32 × Int32 × TH → Prop} (k120 : ∀ s : Int32 × Int32 × TH, X120 s → Lay (s.2.2) → xEk (d + 3) 309 (120, [(0, .ref 197), (1, .int a1), (2, .int a2), (3, .int (s.1)), (4, .int (s.2.1))], [], (TH.X (s.2.2))) (postI C)) {X212 : Int32 × Int32 × TH → Prop} (k212 : ∀ s : Int32 × Int32 × TH, X212 s → Lay (s.2.2) → xEk (d + 3) 309 (212, [(0, .ref 197), (1, .int a1), (2, .int a2), (3, .int (s.1)), (4, .int x4), (5, .int (s.2.1))], [], (TH.X (s.2.2))) (postI C)) (hL : Lay h) (hW : B309_290 a1 a2 x4 x5 h C X120 X212) : xEk (d + 3) 309 (290, [(0, .ref 197), (1, .int a1), (2, .int a2), (4, .int x4), (5, .int x5)], [], h.X) (postI C) := by
  unfold B309_290 at hW
  iterate 4 (refine kst rfl rfl ?_)
  have z9 := k212 (0, (x5 + (-1)), h) hW hL
  refine wjp ?_ z9
  exact ⟨rfl, rfl, rfl, rfl, rfl, rfl, trivial⟩
theorem R309_262 {d : Nat} {a1 : Int32} {a2 : Int32} {x3 : Int32} {x4 : Int32} {x5 : Int32} {h : TH} {C : Int32 → TH → Prop} {X120 : Int32 × Int32 × TH → Prop} (k120 : ∀ s : Int32 × Int32 × TH, X120 s → Lay (s.2.2) → xEk (d + 3) 309 (120, [(0, .ref 197), (1, .int a1), (2, .int a2), (3, .int (s.1)), (4, .int (s.2.1))], [], (TH.X (s.2.2))) (postI C)) {X212 : Int32 × Int32 × TH → Prop} (k212 : ∀ s : Int32 × Int32 × TH, X212 s → Lay (s.2.2) → xEk (d + 3) 309 (212, [(0, .ref 197), (1, .int a1), (2, .int a2), (3, .int (s.1)), (4, .int x4), (5, .int (s.2.1))], [], (TH.X (s.2.2))) (postI C)) (hL : Lay h) (hW : B309_262 a1 a2 x3 x4 x5 h C X120 X212) : xEk (d + 3) 309 (262, [(0, .ref 197), (1, .int a1), (2, .int a2), (3, .int x3), (4, .int x4), (5, .int x5)], [], h.X) (postI C) := by
  unfold B309_262 at hW
  refine kst rfl rfl ?_
  refine wif_ne rfl hW (fun hW => ?_) (fun hW => ?_)
  · refine wjp ?_ (R309_286 (h := h) k120 k212 hL hW)
    exact ⟨rfl, rfl, rfl, rfl, rfl, trivial⟩
  · refine kst rfl rfl ?_
    refine wgetP (b := 218) rfl (oK12 hL rfl) rfl (oP12_39 hL) ?_
    refine kst rfl rfl ?_
    obtain ⟨q1, hW⟩ := hW
    refine wbald rfl (Or.inl (aK12_39 hL)) (aN12_39 hL) (by decide) q1 ?_
    refine wif_eq rfl hW (fun hW => ?_) (fun hW => ?_)
    · refine wjp ?_ (R309_290 (h := h) k120 k212 hL hW)
      exact ⟨rfl, rfl, rfl, rfl, rfl, trivial⟩
    · refine kst rfl rfl ?_
      refine wgetP (b := 217) rfl (oK12 hL rfl) rfl (oP12_38 hL) ?_
      refine kst rfl rfl ?_
      obtain ⟨q2, hW⟩ := hW
      refine wbald rfl (Or.inl (aK12_38 hL)) (aN12_38 hL) (by decide) q2 ?_
      refine wif_ne rfl hW (fun hW => ?_) (fun hW => ?_)
      · refine wjp ?_ (R309_290 (h := h) k120 k212 hL hW)
        exact ⟨rfl, rfl, rfl, rfl, rfl, trivial⟩
      · refine wjp ?_ (R309_286 (h := h) k120 k212 hL hW)
        exact ⟨rfl, rfl, rfl, rfl, rfl, trivial⟩
theorem R309_220 {d : Nat} {a1 : Int32} {a2 : Int32} {x3 : Int32} {x4 : Int32} {x5 : Int32} {x6 : Int32} {h : TH} {C : Int32 → TH → Prop} {X120 : Int32 × Int32 × TH → Prop} (k120 : ∀ s : Int32 × Int32 × TH, X120 s → Lay (s.2.2) → xEk (d + 3) 309 (120, [(0, .ref 197), (1, .int a1), (2, .int a2), (3, .int (s.1)), (4, .int (s.2.1))], [], (TH.X (s.2.2))) (postI C)) {X212 : Int32 × Int32 × TH → Prop} (k212 : ∀ s : Int32 × Int32 × TH, X212 s → Lay (s.2.2) → xEk (d + 3) 309 (212, [(0, .ref 197), (1, .int a1), (2, .int a2), (3, .int (s.1)), (4, .int x4), (5, .int (s.2.1))], [], (TH.X (s.2.2))) (postI C)) (hL : Lay h) (hW : B309_220 a1 a2 x3 x4 x5 x6 h C X120 X212) : xEk (d + 3) 309 (220, [(0, .ref 197), (1, .int a1), (2, .int a2), (3, .int x3), (4, .int x4), (5, .int x5), (6, .int x6)], [], h.X) (postI C) := by
  refine hW (fun s => Lay (s.2) → xEk (d + 3) 309 (220, [(0, .ref 197), (1, .int a1), (2, .int a2), (3, .int x3), (4, .int x4), (5, .int x5), (6, .int (s.1))], [], (TH.X (s.2))) (postI C)) ?_ hL
  rintro ⟨x6, h⟩ hW hL
  have k220 : ∀ s : Int32 × TH, (fun s => Lay (s.2) → xEk (d + 3) 309 (220, [(0, .ref 197), (1, .int a1), (2, .int a2), (3, .int x3), (4, .int x4), (5, .int x5), (6, .int (s.1))], [], (TH.X (s.2))) (postI C)) s → Lay (s.2) → xEk (d + 3) 309 (220, [(0, .ref 197), (1, .int a1), (2, .int a2), (3, .int x3), (4, .int x4), (5, .int x5), (6, .int (s.1))], [], (TH.X (s.2))) (postI C) := fun s hs => hs
  unfold F309_220 at hW
  dsimp only at hW
  iterate 2 (refine kst rfl rfl ?_)
  refine wgetP (b := 198) rfl (oK12 hL rfl) rfl (oP12_0 hL) ?_
  refine kst rfl rfl ?_
  refine wald rfl (Or.inl (aK12_0 hL)) (aN12_0 hL) (by decide) ⟨by decide, by decide⟩ ?_
  refine wcm_ge rfl hW (fun hW => ?_) (fun hW => ?_)
  · refine wjp ?_ (R309_262 (h := h) k120 k212 hL hW)
    exact ⟨rfl, rfl, rfl, rfl, rfl, rfl, trivial⟩
  · refine kst rfl rfl ?_
    refine wgetP (b := 218) rfl (oK12 hL rfl) rfl (oP12_39 hL) ?_
    refine kst rfl rfl ?_
    obtain ⟨q1, hW⟩ := hW
    refine wbald rfl (Or.inl (aK12_39 hL)) (aN12_39 hL) (by decide) q1 ?_
    refine wif_eq rfl hW (fun hW => ?_) (fun hW => ?_)
    · refine wjp ?_ (R309_262 (h := h) k120 k212 hL hW)
      exact ⟨rfl, rfl, rfl, rfl, rfl, rfl, trivial⟩
    · refine kst rfl rfl ?_
      refine wgetP (b := 218) rfl (oK12 hL rfl) rfl (oP12_39 hL) ?_
      iterate 8 (refine kst rfl rfl ?_)
      obtain ⟨q2, hW⟩ := hW
      refine wzast rfl (aK12_39 hL) (aN12_39 hL) (by decide) q2 ?_
      replace hL : Lay (h.sI 218 (ix (x5 &&& ((ishl 1 x6) ^^^ (-1)))) (1 &&& 1)) := lsI hL
      iterate 2 (refine kst rfl rfl ?_)
      have z9 := k220 ((x6 + 1), (h.sI 218 (ix (x5 &&& ((ishl 1 x6) ^^^ (-1)))) (1 &&& 1))) hW hL
      refine wjp ?_ z9
      exact ⟨rfl, rfl, rfl, rfl, rfl, rfl, rfl, trivial⟩
theorem R309_212 {d : Nat} {a1 : Int32} {a2 : Int32} {x4 : Int32} {x3 : Int32} {x5 : Int32} {h : TH} {C : Int32 → TH → Prop} {X120 : Int32 × Int32 × TH → Prop} (k120 : ∀ s : Int32 × Int32 × TH, X120 s → Lay (s.2.2) → xEk (d + 3) 309 (120, [(0, .ref 197), (1, .int a1), (2, .int a2), (3, .int (s.1)), (4, .int (s.2.1))], [], (TH.X (s.2.2))) (postI C)) (hL : Lay h) (hW : B309_212 a1 a2 x4 x3 x5 h C X120) : xEk (d + 3) 309 (212, [(0, .ref 197), (1, .int a1), (2, .int a2), (3, .int x3), (4, .int x4), (5, .int x5)], [], h.X) (postI C) := by
  refine hW (fun s => Lay (s.2.2) → xEk (d + 3) 309 (212, [(0, .ref 197), (1, .int a1), (2, .int a2), (3, .int (s.1)), (4, .int x4), (5, .int (s.2.1))], [], (TH.X (s.2.2))) (postI C)) ?_ hL
  rintro ⟨x3, x5, h⟩ hW hL
  have k212 : ∀ s : Int32 × Int32 × TH, (fun s => Lay (s.2.2) → xEk (d + 3) 309 (212, [(0, .ref 197), (1, .int a1), (2, .int a2), (3, .int (s.1)), (4, .int x4), (5, .int (s.2.1))], [], (TH.X (s.2.2))) (postI C)) s → Lay (s.2.2) → xEk (d + 3) 309 (212, [(0, .ref 197), (1, .int a1), (2, .int a2), (3, .int (s.1)), (4, .int x4), (5, .int (s.2.1))], [], (TH.X (s.2.2))) (postI C) := fun s hs => hs
  unfold F309_212 at hW
  dsimp only at hW
  refine kst rfl rfl ?_
  refine wif_lt rfl hW (fun hW => ?_) (fun hW => ?_)
  · iterate 2 (refine kst rfl rfl ?_)
    refine wjp ?_ (R309_301 (h := h) k120 hL hW)
    exact ⟨rfl, rfl, rfl, rfl, rfl, rfl, trivial⟩
  · iterate 2 (refine kst rfl rfl ?_)
    refine wjp ?_ (R309_220 (h := h) k120 k212 hL hW)
    exact ⟨rfl, rfl, rfl, rfl, rfl, rfl, rfl, trivial⟩
theorem R309_161 {d : Nat} {a1 : Int32} {a2 : Int32} {x3 : Int32} {x4 : Int32} {x5 : Int32} {h : TH} {C : Int32 → TH → Prop} {X120 : Int32 × Int32 × TH → Prop} (k120 : ∀ s : Int32 × Int32 × TH, X120 s → Lay (s.2.2) → xEk (d + 3) 309 (120, [(0, .ref 197), (1, .int a1), (2, .int a2), (3, .int (s.1)), (4, .int (s.2.1))], [], (TH.X (s.2.2))) (postI C)) (hL : Lay h) (hW : B309_161 a1 a2 x3 x4 x5 h C X120) : xEk (d + 3) 309 (161, [(0, .ref 197), (1, .int a1), (2, .int a2), (3, .int x3), (4, .int x4), (5, .int x5)], [], h.X) (postI C) := by
  refine hW (fun s => Lay (s.2) → xEk (d + 3) 309 (161, [(0, .ref 197), (1, .int a1), (2, .int a2), (3, .int x3), (4, .int x4), (5, .int (s.1))], [], (TH.X (s.2))) (postI C)) ?_ hL
  rintro ⟨x5, h⟩ hW hL
  have k161 : ∀ s : Int32 × TH, (fun s => Lay (s.2) → xEk (d + 3) 309 (161, [(0, .ref 197), (1, .int a1), (2, .int a2), (3, .int x3), (4, .int x4), (5, .int (s.1))], [], (TH.X (s.2))) (postI C)) s → Lay (s.2) → xEk (d + 3) 309 (161, [(0, .ref 197), (1, .int a1), (2, .int a2), (3, .int x3), (4, .int x4), (5, .int (s.1))], [], (TH.X (s.2))) (postI C) := fun s hs => hs
  unfold F309_161 at hW
  dsimp only at hW
  iterate 2 (refine kst rfl rfl ?_)
  refine qcvI rfl (oK12 hL rfl) rfl rfl (R248 (d := d + 2) (h := h) hL hW) (fun v10 hW => ?_)
  refine wcm_ge rfl hW (fun hW => ?_) (fun hW => ?_)
  · refine kst rfl rfl ?_
    refine qcvI rfl (oK12 hL rfl) rfl rfl (R248 (d := d + 2) (h := h) hL hW) (fun v11 hW => ?_)
    iterate 3 (refine kst rfl rfl ?_)
    refine wjp ?_ (R309_212 (h := h) k120 hL hW)
    exact ⟨rfl, rfl, rfl, rfl, rfl, rfl, trivial⟩
  · refine kst rfl rfl ?_
    refine wgetP (b := 217) rfl (oK12 hL rfl) rfl (oP12_38 hL) ?_
    refine kst rfl rfl ?_
    obtain ⟨q1, hW⟩ := hW
    refine wbald rfl (Or.inl (aK12_38 hL)) (aN12_38 hL) (by decide) q1 ?_
    refine wif_eq rfl hW (fun hW => ?_) (fun hW => ?_)
    · iterate 2 (refine kst rfl rfl ?_)
      have z9 := k161 ((x5 + 1), h) hW hL
      refine wjp ?_ z9
      exact ⟨rfl, rfl, rfl, rfl, rfl, rfl, trivial⟩
    · iterate 4 (refine kst rfl rfl ?_)
      refine wcvI rfl (oK12 hL rfl) rfl rfl (R308 (d := d + 0) (h := h) hL hW) (fun v12 h13 hL hW => ?_)
      refine wif_eq rfl hW (fun hW => ?_) (fun hW => ?_)
      · iterate 2 (refine kst rfl rfl ?_)
        have z9 := k161 ((x5 + 1), h13) hW hL
        refine wjp ?_ z9
        exact ⟨rfl, rfl, rfl, rfl, rfl, rfl, trivial⟩
      · iterate 2 (refine kst rfl rfl ?_)
        refine wcvI rfl (oK12 hL rfl) rfl rfl (R206 (d := d + 2) (h := h13) hL hW) (fun v14 h15 hL hW => ?_)
        refine kre rfl rfl ?_
        exact ⟨_, _, rfl, hL, hW⟩
theorem R309_129 {d : Nat} {a1 : Int32} {a2 : Int32} {x3 : Int32} {x4 : Int32} {x5 : Int32} {h : TH} {C : Int32 → TH → Prop} {X120 : Int32 × Int32 × TH → Prop} (k120 : ∀ s : Int32 × Int32 × TH, X120 s → Lay (s.2.2) → xEk (d + 3) 309 (120, [(0, .ref 197), (1, .int a1), (2, .int a2), (3, .int (s.1)), (4, .int (s.2.1))], [], (TH.X (s.2.2))) (postI C)) (hL : Lay h) (hW : B309_129 a1 a2 x3 x4 x5 h C X120) : xEk (d + 3) 309 (129, [(0, .ref 197), (1, .int a1), (2, .int a2), (3, .int x3), (4, .int x4), (5, .int x5)], [], h.X) (postI C) := by
  refine hW (fun s => Lay (s.2) → xEk (d + 3) 309 (129, [(0, .ref 197), (1, .int a1), (2, .int a2), (3, .int x3), (4, .int x4), (5, .int (s.1))], [], (TH.X (s.2))) (postI C)) ?_ hL
  rintro ⟨x5, h⟩ hW hL
  have k129 : ∀ s : Int32 × TH, (fun s => Lay (s.2) → xEk (d + 3) 309 (129, [(0, .ref 197), (1, .int a1), (2, .int a2), (3, .int x3), (4, .int x4), (5, .int (s.1))], [], (TH.X (s.2))) (postI C)) s → Lay (s.2) → xEk (d + 3) 309 (129, [(0, .ref 197), (1, .int a1), (2, .int a2), (3, .int x3), (4, .int x4), (5, .int (s.1))], [], (TH.X (s.2))) (postI C) := fun s hs => hs
  unfold F309_129 at hW
  dsimp only at hW
  iterate 2 (refine kst rfl rfl ?_)
  refine qcvI rfl (oK12 hL rfl) rfl rfl (R248 (d := d + 2) (h := h) hL hW) (fun v9 hW => ?_)
  refine wcm_ge rfl hW (fun hW => ?_) (fun hW => ?_)
  · iterate 2 (refine kst rfl rfl ?_)
    refine wjp ?_ (R309_161 (h := h) k120 hL hW)
    exact ⟨rfl, rfl, rfl, rfl, rfl, rfl, trivial⟩
  · refine kst rfl rfl ?_
    refine wgetP (b := 218) rfl (oK12 hL rfl) rfl (oP12_39 hL) ?_
    iterate 2 (refine kst rfl rfl ?_)
    refine wgetP (b := 217) rfl (oK12 hL rfl) rfl (oP12_38 hL) ?_
    refine kst rfl rfl ?_
    obtain ⟨q1, hW⟩ := hW
    refine wbald rfl (Or.inl (aK12_38 hL)) (aN12_38 hL) (by decide) q1 ?_
    obtain ⟨q2, hW⟩ := hW
    refine wzast rfl (aK12_39 hL) (aN12_39 hL) (by decide) q2 ?_
    replace hL : Lay (h.sI 218 (ix x5) ((h.I 217 (ix x5)) &&& 1)) := lsI hL
    iterate 2 (refine kst rfl rfl ?_)
    have z9 := k129 ((x5 + 1), (h.sI 218 (ix x5) ((h.I 217 (ix x5)) &&& 1))) hW hL
    refine wjp ?_ z9
    exact ⟨rfl, rfl, rfl, rfl, rfl, rfl, trivial⟩
theorem R309_120 {d : Nat} {a1 : Int32} {a2 : Int32} {x3 : Int32} {x4 : Int32} {h : TH} {C : Int32 → TH → Prop} (hL : Lay h) (hW : B309_120 a1 a2 x3 x4 h C) : xEk (d + 3) 309 (120, [(0, .ref 197), (1, .int a1), (2, .int a2), (3, .int x3), (4, .int x4)], [], h.X) (postI C) := by
  refine hW (fun s => Lay (s.2.2) → xEk (d + 3) 309 (120, [(0, .ref 197), (1, .int a1), (2, .int a2), (3, .int (s.1)), (4, .int (s.2.1))], [], (TH.X (s.2.2))) (postI C)) ?_ hL
  rintro ⟨x3, x4, h⟩ hW hL
  have k120 : ∀ s : Int32 × Int32 × TH, (fun s => Lay (s.2.2) → xEk (d + 3) 309 (120, [(0, .ref 197), (1, .int a1), (2, .int a2), (3, .int (s.1)), (4, .int (s.2.1))], [], (TH.X (s.2.2))) (postI C)) s → Lay (s.2.2) → xEk (d + 3) 309 (120, [(0, .ref 197), (1, .int a1), (2, .int a2), (3, .int (s.1)), (4, .int (s.2.1))], [], (TH.X (s.2.2))) (postI C) := fun s hs => hs
  unfold F309_120 at hW
  dsimp only at hW
  refine kst rfl rfl ?_
  refine wif_eq rfl hW (fun hW => ?_) (fun hW => ?_)
  · iterate 2 (refine kst rfl rfl ?_)
    refine wcvI rfl (oK12 hL rfl) rfl rfl (R205 (d := d + 2) (h := h) hL hW) (fun v7 h8 hL hW => ?_)
    refine kre rfl rfl ?_
    exact ⟨_, _, rfl, hL, hW⟩
  · iterate 4 (refine kst rfl rfl ?_)
    refine wjp ?_ (R309_129 (h := h) k120 hL hW)
    exact ⟨rfl, rfl, rfl, rfl, rfl, rfl, trivial⟩
theorem R309_86 {d : Nat} {a1 : Int32} {a2 : Int32} {x3 : Int32} {h : TH} {C : Int32 → TH → Prop} (hL : Lay h) (hW : B309_86 a1 a2 x3 h C) : xEk (d + 3) 309 (86, [(0, .ref 197), (1, .int a1), (2, .int a2), (3, .int x3)], [], h.X) (postI C) := by
  refine hW (fun s => Lay (s.2) → xEk (d + 3) 309 (86, [(0, .ref 197), (1, .int a1), (2, .int a2), (3, .int (s.1))], [], (TH.X (s.2))) (postI C)) ?_ hL
  rintro ⟨x3, h⟩ hW hL
  have k86 : ∀ s : Int32 × TH, (fun s => Lay (s.2) → xEk (d + 3) 309 (86, [(0, .ref 197), (1, .int a1), (2, .int a2), (3, .int (s.1))], [], (TH.X (s.2))) (postI C)) s → Lay (s.2) → xEk (d + 3) 309 (86, [(0, .ref 197), (1, .int a1), (2, .int a2), (3, .int (s.1))], [], (TH.X (s.2))) (postI C) := fun s hs => hs
  unfold F309_86 at hW
  dsimp only at hW
  iterate 2 (refine kst rfl rfl ?_)
  refine qcvI rfl (oK12 hL rfl) rfl rfl (R248 (d := d + 2) (h := h) hL hW) (fun v6 hW => ?_)
  refine wcm_ge rfl hW (fun hW => ?_) (fun hW => ?_)
  · iterate 4 (refine kst rfl rfl ?_)
    refine wjp ?_ (R309_120 (h := h) hL hW)
    exact ⟨rfl, rfl, rfl, rfl, rfl, trivial⟩
  · refine kst rfl rfl ?_
    refine wgetP (b := 217) rfl (oK12 hL rfl) rfl (oP12_38 hL) ?_
    iterate 2 (refine kst rfl rfl ?_)
    refine wif_ne rfl hW (fun hW => ?_) (fun hW => ?_)
    · refine kst rfl rfl ?_
      obtain ⟨q1, hW⟩ := hW
      refine wzast rfl (aK12_38 hL) (aN12_38 hL) (by decide) q1 ?_
      replace hL : Lay (h.sI 217 (ix x3) (0 &&& 1)) := lsI hL
      iterate 2 (refine kst rfl rfl ?_)
      have z9 := k86 ((x3 + 1), (h.sI 217 (ix x3) (0 &&& 1))) hW hL
      refine wjp ?_ z9
      exact ⟨rfl, rfl, rfl, rfl, trivial⟩
    · iterate 2 (refine kst rfl rfl ?_)
      obtain ⟨q1, hW⟩ := hW
      refine wzast rfl (aK12_38 hL) (aN12_38 hL) (by decide) q1 ?_
      replace hL : Lay (h.sI 217 (ix x3) (1 &&& 1)) := lsI hL
      iterate 2 (refine kst rfl rfl ?_)
      have z9 := k86 ((x3 + 1), (h.sI 217 (ix x3) (1 &&& 1))) hW hL
      refine wjp ?_ z9
      exact ⟨rfl, rfl, rfl, rfl, trivial⟩
theorem R309_38 {d : Nat} {a1 : Int32} {a2 : Int32} {x3 : Int32} {h : TH} {C : Int32 → TH → Prop} (hL : Lay h) (hW : B309_38 a1 a2 x3 h C) : xEk (d + 3) 309 (38, [(0, .ref 197), (1, .int a1), (2, .int a2), (3, .int x3)], [], h.X) (postI C) := by
  refine hW (fun s => Lay (s.2) → xEk (d + 3) 309 (38, [(0, .ref 197), (1, .int a1), (2, .int a2), (3, .int (s.1))], [], (TH.X (s.2))) (postI C)) ?_ hL
  rintro ⟨x3, h⟩ hW hL
  have k38 : ∀ s : Int32 × TH, (fun s => Lay (s.2) → xEk (d + 3) 309 (38, [(0, .ref 197), (1, .int a1), (2, .int a2), (3, .int (s.1))], [], (TH.X (s.2))) (postI C)) s → Lay (s.2) → xEk (d + 3) 309 (38, [(0, .ref 197), (1, .int a1), (2, .int a2), (3, .int (s.1))], [], (TH.X (s.2))) (postI C) := fun s hs => hs
  unfold F309_38 at hW
  dsimp only at hW
  iterate 2 (refine kst rfl rfl ?_)
  refine wgetP (b := 198) rfl (oK12 hL rfl) rfl (oP12_0 hL) ?_
  refine kst rfl rfl ?_
  refine wald rfl (Or.inl (aK12_0 hL)) (aN12_0 hL) (by decide) ⟨by decide, by decide⟩ ?_
  refine wcm_ge rfl hW (fun hW => ?_) (fun hW => ?_)
  · iterate 3 (refine kst rfl rfl ?_)
    refine wcvV rfl (oK12 hL rfl) rfl rfl (R263 (d := d + 0) (h := h) hL hW) (fun h5 hL hW => ?_)
    iterate 2 (refine kst rfl rfl ?_)
    refine wjp ?_ (R309_86 (h := h5) hL hW)
    exact ⟨rfl, rfl, rfl, rfl, trivial⟩
  · iterate 2 (refine kst rfl rfl ?_)
    refine qcaI rfl rfl (R250 (d := d + 2) (h := h) hL hW) (fun v6 hW => ?_)
    refine wif_eq rfl hW (fun hW => ?_) (fun hW => ?_)
    · iterate 2 (refine kst rfl rfl ?_)
      have z9 := k38 ((x3 + 1), h) hW hL
      refine wjp ?_ z9
      exact ⟨rfl, rfl, rfl, rfl, trivial⟩
    · iterate 2 (refine kst rfl rfl ?_)
      refine qcvI rfl (oK12 hL rfl) rfl rfl (R252 (d := d + 1) (h := h) hL hW) (fun v7 hW => ?_)
      refine kst rfl rfl ?_
      refine wcm_eq rfl hW (fun hW => ?_) (fun hW => ?_)
      · iterate 2 (refine kst rfl rfl ?_)
        have z9 := k38 ((x3 + 1), h) hW hL
        refine wjp ?_ z9
        exact ⟨rfl, rfl, rfl, rfl, trivial⟩
      · iterate 2 (refine kst rfl rfl ?_)
        refine wcvI rfl (oK12 hL rfl) rfl rfl (R205 (d := d + 2) (h := h) hL hW) (fun v8 h9 hL hW => ?_)
        refine kre rfl rfl ?_
        exact ⟨_, _, rfl, hL, hW⟩
theorem R309 {d : Nat} {a1 : Int32} {a2 : Int32} {h : TH} {C : Int32 → TH → Prop} (hL : Lay h) (hW : W309 a1 a2 h C) : xPk (d + 3) 309 [.ref 197, .int a1, .int a2] h.X (postI C) := by
  unfold W309 at hW
  refine kin (Nat.le_of_ble_eq_true rfl) ?_
  iterate 2 (refine kst rfl rfl ?_)
  refine qcvI rfl (oK12 hL rfl) rfl rfl (R249 (d := d + 1) (h := h) hL hW) (fun v1 hW => ?_)
  refine wif_eq rfl hW (fun hW => ?_) (fun hW => ?_)
  · iterate 2 (refine kst rfl rfl ?_)
    refine wcvI rfl (oK12 hL rfl) rfl rfl (R205 (d := d + 2) (h := h) hL hW) (fun v2 h3 hL hW => ?_)
    refine kre rfl rfl ?_
    exact ⟨_, _, rfl, hL, hW⟩
  · iterate 4 (refine kst rfl rfl ?_)
    refine qcaI rfl rfl (R215 (d := d + 2) (h := h) hL hW) (fun v4 hW => ?_)
    refine wif_ne rfl hW (fun hW => ?_) (fun hW => ?_)
    · refine kst rfl rfl ?_
      refine wif_ne rfl hW (fun hW => ?_) (fun hW => ?_)
      · iterate 2 (refine kst rfl rfl ?_)
        refine wjp ?_ (R309_38 (h := h) hL hW)
        exact ⟨rfl, rfl, rfl, rfl, trivial⟩
      · iterate 2 (refine kst rfl rfl ?_)
        refine wcvI rfl (oK12 hL rfl) rfl rfl (R206 (d := d + 2) (h := h) hL hW) (fun v5 h6 hL hW => ?_)
        refine kre rfl rfl ?_
        exact ⟨_, _, rfl, hL, hW⟩
    · iterate 2 (refine kst rfl rfl ?_)
      refine wcvI rfl (oK12 hL rfl) rfl rfl (R205 (d := d + 2) (h := h) hL hW) (fun v7 h8 hL hW => ?_)
      refine kre rfl rfl ?_
      exact ⟨_, _, rfl, hL, hW⟩
/-- 310: FourPotsModel spared -/
def W310 (a1 : Int32) (a2 : Int32) (h : TH) (C : Int32 → TH → Prop) : Prop :=
  W249 a1 h (fun v1 => if v1 = 0 then (W205 1 h (fun v2 h3 => C v2 h3)) else (W215 ((a2).toInt64) (1 : Int64) (9 : Int64) h (fun v4 => if ¬ v4 = 0 then (W263 0 (-1) h (fun h5 => W287 a1 h5 (fun v6 h7 => if ¬ v6 = (-1) then (W263 a2 (-1) h7 (fun h8 => W287 a1 h8 (fun v9 h10 => W206 (v6 - v9) h10 (fun v11 h12 => C v11 h12)))) else (W205 6 h7 (fun v13 h14 => C v13 h14))))) else (W205 1 h (fun v15 h16 => C v15 h16)))))

theorem R310 {d : Nat} {a1 : Int32} {a2 : Int32} {h : TH} {C : Int32 → TH → Prop} (hL : Lay h) (hW : W310 a1 a2 h C) : xPk (d + 7) 310 [.ref 197, .int a1, .int a2] h.X (postI C) := by
  unfold W310 at hW
  refine kin (Nat.le_of_ble_eq_true rfl) ?_
  iterate 2 (refine kst rfl rfl ?_)
  refine qcvI rfl (oK12 hL rfl) rfl rfl (R249 (d := d + 5) (h := h) hL hW) (fun v1 hW => ?_)
  refine wif_eq rfl hW (fun hW => ?_) (fun hW => ?_)
  · iterate 2 (refine kst rfl rfl ?_)
    refine wcvI rfl (oK12 hL rfl) rfl rfl (R205 (d := d + 6) (h := h) hL hW) (fun v2 h3 hL hW => ?_)
    refine kre rfl rfl ?_
    exact ⟨_, _, rfl, hL, hW⟩
  · iterate 4 (refine kst rfl rfl ?_)
    refine qcaI rfl rfl (R215 (d := d + 6) (h := h) hL hW) (fun v4 hW => ?_)
    refine wif_ne rfl hW (fun hW => ?_) (fun hW => ?_)
    · iterate 3 (refine kst rfl rfl ?_)
      refine wcvV rfl (oK12 hL rfl) rfl rfl (R263 (d := d + 4) (h := h) hL hW) (fun h5 hL hW => ?_)
      iterate 2 (refine kst rfl rfl ?_)
      refine wcvI rfl (oK12 hL rfl) rfl rfl (R287 (d := d + 0) (h := h5) hL hW) (fun v6 h7 hL hW => ?_)
      iterate 3 (refine kst rfl rfl ?_)
      refine wcm_ne rfl hW (fun hW => ?_) (fun hW => ?_)
      · iterate 3 (refine kst rfl rfl ?_)
        refine wcvV rfl (oK12 hL rfl) rfl rfl (R263 (d := d + 4) (h := h7) hL hW) (fun h8 hL hW => ?_)
        iterate 4 (refine kst rfl rfl ?_)
        refine wcvI rfl (oK12 hL rfl) rfl rfl (R287 (d := d + 0) (h := h8) hL hW) (fun v9 h10 hL hW => ?_)
        refine kst rfl rfl ?_
        refine wcvI rfl (oK12 hL rfl) rfl rfl (R206 (d := d + 6) (h := h10) hL hW) (fun v11 h12 hL hW => ?_)
        refine kre rfl rfl ?_
        exact ⟨_, _, rfl, hL, hW⟩
      · iterate 2 (refine kst rfl rfl ?_)
        refine wcvI rfl (oK12 hL rfl) rfl rfl (R205 (d := d + 6) (h := h7) hL hW) (fun v13 h14 hL hW => ?_)
        refine kre rfl rfl ?_
        exact ⟨_, _, rfl, hL, hW⟩
    · iterate 2 (refine kst rfl rfl ?_)
      refine wcvI rfl (oK12 hL rfl) rfl rfl (R205 (d := d + 6) (h := h) hL hW) (fun v15 h16 hL hW => ?_)
      refine kre rfl rfl ?_
      exact ⟨_, _, rfl, hL, hW⟩
/-- 311: FourPotsModel again -/
def B311_77 (a1 : Int32) (x2 : Int32) (x4 : Int32) (s0 : Int32) (s1 : Int32) (h : TH) (C : Int32 → TH → Prop) (X25 : Int32 × Int32 × TH → Prop) : Prop :=
  X25 ((s0 + s1), (x4 + 1), h)
def B311_76 (a1 : Int32) (x2 : Int32) (x4 : Int32) (s0 : Int32) (h : TH) (C : Int32 → TH → Prop) (X25 : Int32 × Int32 × TH → Prop) : Prop :=
  B311_77 a1 x2 x4 s0 0 h C X25
def B311_67 (a1 : Int32) (x2 : Int32) (x4 : Int32) (s0 : Int32) (h : TH) (C : Int32 → TH → Prop) (X25 : Int32 × Int32 × TH → Prop) : Prop :=
  W255 x4 h (fun v14 => B311_77 a1 x2 x4 s0 v14 h C X25)
def F311_25 (a1 : Int32) (x2 : Int32) (C : Int32 → TH → Prop) (X25 : Int32 × Int32 × TH → Prop) : Int32 × Int32 × TH → Prop := fun
  | (x3, x4, h) =>
    if (h.I 198 (ix 0)) ≤ x4 then (W263 0 (-1) h (fun h3 => W287 a1 h3 (fun v4 h5 => if v4 = (-1) then (W204 6 h5 (fun v6 h7 => (v6 = 0 ∨ v6 = 1) ∧ C v6 h7)) else (if ¬ x3 = 0 then (W207 ((v4).toInt64) ((x3).toInt64) h5 (fun v8 h9 => (v8 = 0 ∨ v8 = 1) ∧ C v8 h9)) else (W204 6 h5 (fun v10 h11 => (v10 = 0 ∨ v10 = 1) ∧ C v10 h11)))))) else (W250 x2 x4 h (fun v12 => if v12 = 0 then (B311_76 a1 x2 x4 x3 h C X25) else (W252 x4 h (fun v13 => if v13 = (-1) then (B311_67 a1 x2 x4 x3 h C X25) else (W252 x4 h (fun v14 => if v14 ≤ x4 then (B311_76 a1 x2 x4 x3 h C X25) else (B311_67 a1 x2 x4 x3 h C X25)))))))
def B311_25 (a1 : Int32) (x2 : Int32) (x3 : Int32) (x4 : Int32) (h : TH) (C : Int32 → TH → Prop) : Prop := LFP (F311_25 a1 x2 C) (x3, x4, h)
def W311 (a1 : Int32) (h : TH) (C : Int32 → TH → Prop) : Prop :=
  W249 a1 h (fun v1 => if ¬ v1 = 0 then (W265 a1 h (fun v2 => B311_25 a1 v2 0 0 h C)) else (W204 1 h (fun v3 h4 => (v3 = 0 ∨ v3 = 1) ∧ C v3 h4)))

theorem R311_77 {d : Nat} {a1 : Int32} {x2 : Int32} {x4 : Int32} {s0 : Int32} {s1 : Int32} {h : TH} {C : Int32 → TH → Prop} {X25 : Int32 × Int32 × TH → Prop} (k25 : ∀ s : Int32 × Int32 × TH, X25 s → Lay (s.2.2) → xEk (d + 7) 311 (25, [(0, .ref 197), (1, .int a1), (2, .int x2), (3, .int (s.1)), (4, .int (s.2.1))], [], (TH.X (s.2.2))) (postI C)) (hL : Lay h) (hW : B311_77 a1 x2 x4 s0 s1 h C X25) : xEk (d + 7) 311 (77, [(0, .ref 197), (1, .int a1), (2, .int x2), (4, .int x4)], [.int s1, .int s0], h.X) (postI C) := by
  unfold B311_77 at hW
  iterate 4 (refine kst rfl rfl ?_)
  have z9 := k25 ((s0 + s1), (x4 + 1), h) hW hL
  refine wjp ?_ z9
  exact ⟨rfl, rfl, rfl, rfl, rfl, trivial⟩
theorem R311_76 {d : Nat} {a1 : Int32} {x2 : Int32} {x4 : Int32} {s0 : Int32} {h : TH} {C : Int32 → TH → Prop} {X25 : Int32 × Int32 × TH → Prop} (k25 : ∀ s : Int32 × Int32 × TH, X25 s → Lay (s.2.2) → xEk (d + 7) 311 (25, [(0, .ref 197), (1, .int a1), (2, .int x2), (3, .int (s.1)), (4, .int (s.2.1))], [], (TH.X (s.2.2))) (postI C)) (hL : Lay h) (hW : B311_76 a1 x2 x4 s0 h C X25) : xEk (d + 7) 311 (76, [(0, .ref 197), (1, .int a1), (2, .int x2), (4, .int x4)], [.int s0], h.X) (postI C) := by
  unfold B311_76 at hW
  refine kst rfl rfl ?_
  refine wjp ?_ (R311_77 (h := h) k25 hL hW)
  exact ⟨rfl, rfl, rfl, rfl, trivial⟩
theorem R311_67 {d : Nat} {a1 : Int32} {x2 : Int32} {x4 : Int32} {s0 : Int32} {h : TH} {C : Int32 → TH → Prop} {X25 : Int32 × Int32 × TH → Prop} (k25 : ∀ s : Int32 × Int32 × TH, X25 s → Lay (s.2.2) → xEk (d + 7) 311 (25, [(0, .ref 197), (1, .int a1), (2, .int x2), (3, .int (s.1)), (4, .int (s.2.1))], [], (TH.X (s.2.2))) (postI C)) (hL : Lay h) (hW : B311_67 a1 x2 x4 s0 h C X25) : xEk (d + 7) 311 (67, [(0, .ref 197), (1, .int a1), (2, .int x2), (4, .int x4)], [.int s0], h.X) (postI C) := by
  unfold B311_67 at hW
  iterate 2 (refine kst rfl rfl ?_)
  refine qcvI rfl (oK12 hL rfl) rfl rfl (R255 (d := d + 4) (h := h) hL hW) (fun v14 hW => ?_)
  refine kst rfl rfl ?_
  refine wjp ?_ (R311_77 (h := h) k25 hL hW)
  exact ⟨rfl, rfl, rfl, rfl, trivial⟩
theorem R311_25 {d : Nat} {a1 : Int32} {x2 : Int32} {x3 : Int32} {x4 : Int32} {h : TH} {C : Int32 → TH → Prop} (hL : Lay h) (hW : B311_25 a1 x2 x3 x4 h C) : xEk (d + 7) 311 (25, [(0, .ref 197), (1, .int a1), (2, .int x2), (3, .int x3), (4, .int x4)], [], h.X) (postI C) := by
  refine hW (fun s => Lay (s.2.2) → xEk (d + 7) 311 (25, [(0, .ref 197), (1, .int a1), (2, .int x2), (3, .int (s.1)), (4, .int (s.2.1))], [], (TH.X (s.2.2))) (postI C)) ?_ hL
  rintro ⟨x3, x4, h⟩ hW hL
  have k25 : ∀ s : Int32 × Int32 × TH, (fun s => Lay (s.2.2) → xEk (d + 7) 311 (25, [(0, .ref 197), (1, .int a1), (2, .int x2), (3, .int (s.1)), (4, .int (s.2.1))], [], (TH.X (s.2.2))) (postI C)) s → Lay (s.2.2) → xEk (d + 7) 311 (25, [(0, .ref 197), (1, .int a1), (2, .int x2), (3, .int (s.1)), (4, .int (s.2.1))], [], (TH.X (s.2.2))) (postI C) := fun s hs => hs
  unfold F311_25 at hW
  dsimp only at hW
  iterate 2 (refine kst rfl rfl ?_)
  refine wgetP (b := 198) rfl (oK12 hL rfl) rfl (oP12_0 hL) ?_
  refine kst rfl rfl ?_
  refine wald rfl (Or.inl (aK12_0 hL)) (aN12_0 hL) (by decide) ⟨by decide, by decide⟩ ?_
  refine wcm_ge rfl hW (fun hW => ?_) (fun hW => ?_)
  · iterate 3 (refine kst rfl rfl ?_)
    refine wcvV rfl (oK12 hL rfl) rfl rfl (R263 (d := d + 4) (h := h) hL hW) (fun h3 hL hW => ?_)
    iterate 2 (refine kst rfl rfl ?_)
    refine wcvI rfl (oK12 hL rfl) rfl rfl (R287 (d := d + 0) (h := h3) hL hW) (fun v4 h5 hL hW => ?_)
    iterate 3 (refine kst rfl rfl ?_)
    refine wcm_eq rfl hW (fun hW => ?_) (fun hW => ?_)
    · iterate 2 (refine kst rfl rfl ?_)
      refine wcvI rfl (oK12 hL rfl) rfl rfl (R204 (d := d + 6) (h := h5) hL hW) (fun v6 h7 hL hW => ?_)
      refine kst rfl rfl ?_
      obtain ⟨q1, hW⟩ := hW
      refine wrZ rfl q1 ?_
      exact ⟨_, _, rfl, hL, hW⟩
    · refine kst rfl rfl ?_
      refine wif_ne rfl hW (fun hW => ?_) (fun hW => ?_)
      · iterate 5 (refine kst rfl rfl ?_)
        refine wcvI rfl (oK12 hL rfl) rfl rfl (R207 (d := d + 5) (h := h5) hL hW) (fun v8 h9 hL hW => ?_)
        obtain ⟨q1, hW⟩ := hW
        refine wrZ rfl q1 ?_
        exact ⟨_, _, rfl, hL, hW⟩
      · iterate 2 (refine kst rfl rfl ?_)
        refine wcvI rfl (oK12 hL rfl) rfl rfl (R204 (d := d + 6) (h := h5) hL hW) (fun v10 h11 hL hW => ?_)
        refine kst rfl rfl ?_
        obtain ⟨q1, hW⟩ := hW
        refine wrZ rfl q1 ?_
        exact ⟨_, _, rfl, hL, hW⟩
  · iterate 3 (refine kst rfl rfl ?_)
    refine qcaI rfl rfl (R250 (d := d + 6) (h := h) hL hW) (fun v12 hW => ?_)
    refine wif_eq rfl hW (fun hW => ?_) (fun hW => ?_)
    · refine wjp ?_ (R311_76 (h := h) k25 hL hW)
      exact ⟨rfl, rfl, rfl, rfl, trivial⟩
    · iterate 2 (refine kst rfl rfl ?_)
      refine qcvI rfl (oK12 hL rfl) rfl rfl (R252 (d := d + 5) (h := h) hL hW) (fun v13 hW => ?_)
      refine kst rfl rfl ?_
      refine wcm_eq rfl hW (fun hW => ?_) (fun hW => ?_)
      · refine wjp ?_ (R311_67 (h := h) k25 hL hW)
        exact ⟨rfl, rfl, rfl, rfl, trivial⟩
      · iterate 2 (refine kst rfl rfl ?_)
        refine qcvI rfl (oK12 hL rfl) rfl rfl (R252 (d := d + 5) (h := h) hL hW) (fun v14 hW => ?_)
        refine kst rfl rfl ?_
        refine wcm_le rfl hW (fun hW => ?_) (fun hW => ?_)
        · refine wjp ?_ (R311_76 (h := h) k25 hL hW)
          exact ⟨rfl, rfl, rfl, rfl, trivial⟩
        · refine wjp ?_ (R311_67 (h := h) k25 hL hW)
          exact ⟨rfl, rfl, rfl, rfl, trivial⟩
theorem R311 {d : Nat} {a1 : Int32} {h : TH} {C : Int32 → TH → Prop} (hL : Lay h) (hW : W311 a1 h C) : xPk (d + 7) 311 [.ref 197, .int a1] h.X (postI C) := by
  unfold W311 at hW
  refine kin (Nat.le_of_ble_eq_true rfl) ?_
  iterate 2 (refine kst rfl rfl ?_)
  refine qcvI rfl (oK12 hL rfl) rfl rfl (R249 (d := d + 5) (h := h) hL hW) (fun v1 hW => ?_)
  refine wif_ne rfl hW (fun hW => ?_) (fun hW => ?_)
  · iterate 2 (refine kst rfl rfl ?_)
    refine qcvI rfl (oK12 hL rfl) rfl rfl (R265 (d := d + 3) (h := h) hL hW) (fun v2 hW => ?_)
    iterate 5 (refine kst rfl rfl ?_)
    refine wjp ?_ (R311_25 (h := h) hL hW)
    exact ⟨rfl, rfl, rfl, rfl, rfl, trivial⟩
  · iterate 2 (refine kst rfl rfl ?_)
    refine wcvI rfl (oK12 hL rfl) rfl rfl (R204 (d := d + 6) (h := h) hL hW) (fun v3 h4 hL hW => ?_)
    obtain ⟨q1, hW⟩ := hW
    refine wrZ rfl q1 ?_
    exact ⟨_, _, rfl, hL, hW⟩
/-- 312: FourPotsModel burns -/
def W312 (a1 : Int32) (h : TH) (C : Int32 → TH → Prop) : Prop :=
  if (h.I 197 48) = 0 then (C 0 h) else (W251 a1 3 h (fun v1 => if ¬ v1 = 0 then (W251 a1 3 (h.sI 197 40 (irem (((h.I 197 40) * 2903) + 8819) 65536)) (fun v2 => if v2 ≤ (irem (((h.sI 197 40 (irem (((h.I 197 40) * 2903) + 8819) 65536)).I 197 40) / 8) 16) then (C 0 (h.sI 197 40 (irem (((h.I 197 40) * 2903) + 8819) 65536))) else (C 1 (h.sI 197 40 (irem (((h.I 197 40) * 2903) + 8819) 65536))))) else (C 0 h)))

theorem R312 {d : Nat} {a1 : Int32} {h : TH} {C : Int32 → TH → Prop} (hL : Lay h) (hW : W312 a1 h C) : xPk (d + 1) 312 [.ref 197, .int a1] h.X (postI C) := by
  unfold W312 at hW
  refine kin (Nat.le_of_ble_eq_true rfl) ?_
  refine kst rfl rfl ?_
  refine wgetI rfl (oK12 hL rfl) rfl ?_
  refine wif_eq rfl hW (fun hW => ?_) (fun hW => ?_)
  · refine kst rfl rfl ?_
    refine kre rfl rfl ?_
    exact ⟨_, _, rfl, hL, hW⟩
  · iterate 3 (refine kst rfl rfl ?_)
    refine qcvI rfl (oK12 hL rfl) rfl rfl (R251 (d := d + 0) (h := h) hL hW) (fun v1 hW => ?_)
    refine wif_ne rfl hW (fun hW => ?_) (fun hW => ?_)
    · iterate 2 (refine kst rfl rfl ?_)
      refine wgetI rfl (oK12 hL rfl) rfl ?_
      iterate 5 (refine kst rfl rfl ?_)
      refine wrem rfl (by decide) ?_
      refine wputI rfl (oK12 hL rfl) rfl ?_
      replace hL : Lay (h.sI 197 40 (irem (((h.I 197 40) * 2903) + 8819) 65536)) := lsI hL
      refine kst rfl rfl ?_
      refine wgetI rfl (oK12 hL rfl) rfl ?_
      refine kst rfl rfl ?_
      refine wdiv rfl (by decide) ?_
      refine kst rfl rfl ?_
      refine wrem rfl (by decide) ?_
      iterate 3 (refine kst rfl rfl ?_)
      refine qcvI rfl (oK12 hL rfl) rfl rfl (R251 (d := d + 0) (h := (h.sI 197 40 (irem (((h.I 197 40) * 2903) + 8819) 65536))) hL hW) (fun v2 hW => ?_)
      refine wcm_ge rfl hW (fun hW => ?_) (fun hW => ?_)
      · refine kst rfl rfl ?_
        refine kre rfl rfl ?_
        exact ⟨_, _, rfl, hL, hW⟩
      · iterate 2 (refine kst rfl rfl ?_)
        refine kre rfl rfl ?_
        exact ⟨_, _, rfl, hL, hW⟩
    · refine kst rfl rfl ?_
      refine kre rfl rfl ?_
      exact ⟨_, _, rfl, hL, hW⟩
/-- 313: FourPotsModel mayBurn -/
def W313 (a1 : Int32) (h : TH) (C : TH → Prop) : Prop :=
  W312 a1 h (fun v1 h2 => if ¬ v1 = 0 then (C ((h2.sI 197 45 ((h2.I 197 45) + 1)).sI 198 (ix 2) (((h2.sI 197 45 ((h2.I 197 45) + 1)).I 198 (ix 2)) &&& ((ishl 1 a1) ^^^ (-1))))) else (C h2))

theorem R313 {d : Nat} {a1 : Int32} {h : TH} {C : TH → Prop} (hL : Lay h) (hW : W313 a1 h C) : xPk (d + 2) 313 [.ref 197, .int a1] h.X (postV C) := by
  unfold W313 at hW
  refine kin (Nat.le_of_ble_eq_true rfl) ?_
  iterate 2 (refine kst rfl rfl ?_)
  refine wcvI rfl (oK12 hL rfl) rfl rfl (R312 (d := d + 0) (h := h) hL hW) (fun v1 h2 hL hW => ?_)
  refine wif_ne rfl hW (fun hW => ?_) (fun hW => ?_)
  · iterate 2 (refine kst rfl rfl ?_)
    refine wgetI rfl (oK12 hL rfl) rfl ?_
    iterate 2 (refine kst rfl rfl ?_)
    refine wputI rfl (oK12 hL rfl) rfl ?_
    replace hL : Lay (h2.sI 197 45 ((h2.I 197 45) + 1)) := lsI hL
    refine kst rfl rfl ?_
    refine wgetP (b := 198) rfl (oK12 hL rfl) rfl (oP12_0 hL) ?_
    iterate 2 (refine kst rfl rfl ?_)
    refine wald rfl (Or.inl (aK12_0 hL)) (aN12_0 hL) (by decide) ⟨by decide, by decide⟩ ?_
    iterate 6 (refine kst rfl rfl ?_)
    refine wast rfl (aK12_0 hL) (aN12_0 hL) (by decide) ⟨by decide, by decide⟩ ?_
    replace hL : Lay ((h2.sI 197 45 ((h2.I 197 45) + 1)).sI 198 (ix 2) (((h2.sI 197 45 ((h2.I 197 45) + 1)).I 198 (ix 2)) &&& ((ishl 1 a1) ^^^ (-1)))) := lsI hL
    refine kre rfl rfl ?_
    exact ⟨_, rfl, hL, hW⟩
  · refine kre rfl rfl ?_
    exact ⟨_, rfl, hL, hW⟩
/-- 314: FourPotsModel acts -/
def B314_26 (a1 : Int32) (a2 : Int32) (a3 : Int32) (h : TH) (C : Int32 → TH → Prop) : Prop :=
  C 0 h
def B314_165 (a2 : Int32) (x6 : Int32) (h : TH) (C : Int32 → TH → Prop) : Prop :=
  W313 a2 h (fun h5 => if x6 ≤ a2 then (C 1 h5) else (W313 x6 h5 (fun h6 => C 1 h6)))
def B314_145 (a2 : Int32) (s0 : Int32) (h : TH) (C : Int32 → TH → Prop) : Prop :=
  if s0 = (-1) then (B314_165 a2 s0 h C) else (if a2 ≤ s0 then (B314_165 a2 s0 h C) else (W313 s0 h (fun h5 => B314_165 a2 s0 h5 C)))
def B314_126 (a1 : Int32) (a2 : Int32) (s1 : Int32) (s2 : Int32) (h : TH) (C : Int32 → TH → Prop) : Prop :=
  if ¬ a1 = 10 then (B314_145 a2 (-1) (h.sI 197 41 (s1 + s2)) C) else (W252 a2 (h.sI 197 41 (s1 + s2)) (fun v5 => B314_145 a2 v5 (h.sI 197 41 (s1 + s2)) C))
def B314_92 (a1 : Int32) (a2 : Int32) (s0 : Int32) (h : TH) (C : Int32 → TH → Prop) : Prop :=
  if ¬ s0 = 0 then (if ¬ a1 = 10 then (W251 a2 0 h (fun v4 => B314_126 a1 a2 (h.I 197 41) v4 h C)) else (W255 a2 h (fun v5 => B314_126 a1 a2 (h.I 197 41) v5 h C))) else (C 0 h)
def B314_22 (a1 : Int32) (a2 : Int32) (a3 : Int32) (h : TH) (C : Int32 → TH → Prop) : Prop :=
  if ¬ a1 = 13 then (if ¬ a1 = 14 then (if ¬ a1 = 15 then (if ¬ a1 = 10 then (W273 a2 a3 h (fun v2 h3 => B314_92 a1 a2 v2 h3 C)) else (W272 a2 h (fun v4 h5 => B314_92 a1 a2 v4 h5 C))) else (W276 a2 h (fun v6 h7 => (v6 = 0 ∨ v6 = 1) ∧ C v6 h7))) else (W275 a2 h (fun v8 h9 => (v8 = 0 ∨ v8 = 1) ∧ C v8 h9))) else (W274 a2 h (fun v10 h11 => (v10 = 0 ∨ v10 = 1) ∧ C v10 h11))
def W314 (a1 : Int32) (a2 : Int32) (a3 : Int32) (h : TH) (C : Int32 → TH → Prop) : Prop :=
  W247 a2 h (fun v1 => if v1 = 0 then (B314_26 a1 a2 a3 h C) else (if ¬ a1 = 11 then (B314_22 a1 a2 a3 h C) else (W247 a3 h (fun v2 => if v2 = 0 then (B314_26 a1 a2 a3 h C) else (B314_22 a1 a2 a3 h C)))))

theorem R314_26 {d : Nat} {a1 : Int32} {a2 : Int32} {a3 : Int32} {h : TH} {C : Int32 → TH → Prop} (hL : Lay h) (hW : B314_26 a1 a2 a3 h C) : xEk (d + 5) 314 (26, [(0, .ref 197), (1, .int a1), (2, .int a2), (3, .int a3)], [], h.X) (postI C) := by
  unfold B314_26 at hW
  iterate 3 (refine kst rfl rfl ?_)
  refine kif_ne rfl (fun c9 => absurd c9 (by decide)) (fun _ => ?_)
  refine kst rfl rfl ?_
  refine kre rfl rfl ?_
  exact ⟨_, _, rfl, hL, hW⟩
theorem R314_165 {d : Nat} {a2 : Int32} {x6 : Int32} {h : TH} {C : Int32 → TH → Prop} (hL : Lay h) (hW : B314_165 a2 x6 h C) : xEk (d + 5) 314 (165, [(0, .ref 197), (2, .int a2), (6, .int x6)], [], h.X) (postI C) := by
  unfold B314_165 at hW
  iterate 2 (refine kst rfl rfl ?_)
  refine wcvV rfl (oK12 hL rfl) rfl rfl (R313 (d := d + 2) (h := h) hL hW) (fun h5 hL hW => ?_)
  iterate 2 (refine kst rfl rfl ?_)
  refine wcm_le rfl hW (fun hW => ?_) (fun hW => ?_)
  · refine kst rfl rfl ?_
    refine kre rfl rfl ?_
    exact ⟨_, _, rfl, hL, hW⟩
  · iterate 2 (refine kst rfl rfl ?_)
    refine wcvV rfl (oK12 hL rfl) rfl rfl (R313 (d := d + 2) (h := h5) hL hW) (fun h6 hL hW => ?_)
    refine kst rfl rfl ?_
    refine kre rfl rfl ?_
    exact ⟨_, _, rfl, hL, hW⟩
theorem R314_145 {d : Nat} {a2 : Int32} {s0 : Int32} {h : TH} {C : Int32 → TH → Prop} (hL : Lay h) (hW : B314_145 a2 s0 h C) : xEk (d + 5) 314 (145, [(0, .ref 197), (2, .int a2)], [.int s0], h.X) (postI C) := by
  unfold B314_145 at hW
  iterate 3 (refine kst rfl rfl ?_)
  refine wcm_eq rfl hW (fun hW => ?_) (fun hW => ?_)
  · refine wjp ?_ (R314_165 (h := h) hL hW)
    exact ⟨rfl, rfl, rfl, trivial⟩
  · iterate 2 (refine kst rfl rfl ?_)
    refine wcm_ge rfl hW (fun hW => ?_) (fun hW => ?_)
    · refine wjp ?_ (R314_165 (h := h) hL hW)
      exact ⟨rfl, rfl, rfl, trivial⟩
    · iterate 2 (refine kst rfl rfl ?_)
      refine wcvV rfl (oK12 hL rfl) rfl rfl (R313 (d := d + 2) (h := h) hL hW) (fun h5 hL hW => ?_)
      refine wjp ?_ (R314_165 (h := h5) hL hW)
      exact ⟨rfl, rfl, rfl, trivial⟩
theorem R314_126 {d : Nat} {a1 : Int32} {a2 : Int32} {s1 : Int32} {s2 : Int32} {h : TH} {C : Int32 → TH → Prop} (hL : Lay h) (hW : B314_126 a1 a2 s1 s2 h C) : xEk (d + 5) 314 (126, [(0, .ref 197), (1, .int a1), (2, .int a2)], [.int s2, .int s1, .ref 197], h.X) (postI C) := by
  unfold B314_126 at hW
  refine kst rfl rfl ?_
  refine wputI rfl (oK12 hL rfl) rfl ?_
  replace hL : Lay (h.sI 197 41 (s1 + s2)) := lsI hL
  iterate 2 (refine kst rfl rfl ?_)
  refine wcm_ne rfl hW (fun hW => ?_) (fun hW => ?_)
  · refine kst rfl rfl ?_
    refine wjp ?_ (R314_145 (h := (h.sI 197 41 (s1 + s2))) hL hW)
    exact ⟨rfl, rfl, trivial⟩
  · iterate 2 (refine kst rfl rfl ?_)
    refine qcvI rfl (oK12 hL rfl) rfl rfl (R252 (d := d + 3) (h := (h.sI 197 41 (s1 + s2))) hL hW) (fun v5 hW => ?_)
    refine kst rfl rfl ?_
    refine wjp ?_ (R314_145 (h := (h.sI 197 41 (s1 + s2))) hL hW)
    exact ⟨rfl, rfl, trivial⟩
theorem R314_92 {d : Nat} {a1 : Int32} {a2 : Int32} {s0 : Int32} {h : TH} {C : Int32 → TH → Prop} (hL : Lay h) (hW : B314_92 a1 a2 s0 h C) : xEk (d + 5) 314 (92, [(0, .ref 197), (1, .int a1), (2, .int a2)], [.int s0], h.X) (postI C) := by
  unfold B314_92 at hW
  iterate 2 (refine kst rfl rfl ?_)
  refine wif_ne rfl hW (fun hW => ?_) (fun hW => ?_)
  · iterate 2 (refine kst rfl rfl ?_)
    refine wgetI rfl (oK12 hL rfl) rfl ?_
    iterate 2 (refine kst rfl rfl ?_)
    refine wcm_ne rfl hW (fun hW => ?_) (fun hW => ?_)
    · iterate 3 (refine kst rfl rfl ?_)
      refine qcvI rfl (oK12 hL rfl) rfl rfl (R251 (d := d + 4) (h := h) hL hW) (fun v4 hW => ?_)
      refine wjp ?_ (R314_126 (h := h) hL hW)
      exact ⟨rfl, rfl, rfl, trivial⟩
    · iterate 2 (refine kst rfl rfl ?_)
      refine qcvI rfl (oK12 hL rfl) rfl rfl (R255 (d := d + 2) (h := h) hL hW) (fun v5 hW => ?_)
      refine kst rfl rfl ?_
      refine wjp ?_ (R314_126 (h := h) hL hW)
      exact ⟨rfl, rfl, rfl, trivial⟩
  · refine kst rfl rfl ?_
    refine kre rfl rfl ?_
    exact ⟨_, _, rfl, hL, hW⟩
theorem R314_22 {d : Nat} {a1 : Int32} {a2 : Int32} {a3 : Int32} {h : TH} {C : Int32 → TH → Prop} (hL : Lay h) (hW : B314_22 a1 a2 a3 h C) : xEk (d + 5) 314 (22, [(0, .ref 197), (1, .int a1), (2, .int a2), (3, .int a3)], [], h.X) (postI C) := by
  unfold B314_22 at hW
  iterate 4 (refine kst rfl rfl ?_)
  refine kif_ne rfl (fun _ => ?_) (fun c9 => absurd c9 (by decide))
  iterate 2 (refine kst rfl rfl ?_)
  refine wcm_ne rfl hW (fun hW => ?_) (fun hW => ?_)
  · iterate 2 (refine kst rfl rfl ?_)
    refine wcm_ne rfl hW (fun hW => ?_) (fun hW => ?_)
    · iterate 2 (refine kst rfl rfl ?_)
      refine wcm_ne rfl hW (fun hW => ?_) (fun hW => ?_)
      · iterate 2 (refine kst rfl rfl ?_)
        refine wcm_ne rfl hW (fun hW => ?_) (fun hW => ?_)
        · iterate 3 (refine kst rfl rfl ?_)
          refine wcvI rfl (oK12 hL rfl) rfl rfl (R273 (d := d + 1) (h := h) hL hW) (fun v2 h3 hL hW => ?_)
          refine wjp ?_ (R314_92 (h := h3) hL hW)
          exact ⟨rfl, rfl, rfl, trivial⟩
        · iterate 2 (refine kst rfl rfl ?_)
          refine wcvI rfl (oK12 hL rfl) rfl rfl (R272 (d := d + 0) (h := h) hL hW) (fun v4 h5 hL hW => ?_)
          refine kst rfl rfl ?_
          refine wjp ?_ (R314_92 (h := h5) hL hW)
          exact ⟨rfl, rfl, rfl, trivial⟩
      · iterate 2 (refine kst rfl rfl ?_)
        refine wcvI rfl (oK12 hL rfl) rfl rfl (R276 (d := d + 3) (h := h) hL hW) (fun v6 h7 hL hW => ?_)
        obtain ⟨q1, hW⟩ := hW
        refine wrZ rfl q1 ?_
        exact ⟨_, _, rfl, hL, hW⟩
    · iterate 2 (refine kst rfl rfl ?_)
      refine wcvI rfl (oK12 hL rfl) rfl rfl (R275 (d := d + 2) (h := h) hL hW) (fun v8 h9 hL hW => ?_)
      obtain ⟨q1, hW⟩ := hW
      refine wrZ rfl q1 ?_
      exact ⟨_, _, rfl, hL, hW⟩
  · iterate 2 (refine kst rfl rfl ?_)
    refine wcvI rfl (oK12 hL rfl) rfl rfl (R274 (d := d + 3) (h := h) hL hW) (fun v10 h11 hL hW => ?_)
    obtain ⟨q1, hW⟩ := hW
    refine wrZ rfl q1 ?_
    exact ⟨_, _, rfl, hL, hW⟩
theorem R314 {d : Nat} {a1 : Int32} {a2 : Int32} {a3 : Int32} {h : TH} {C : Int32 → TH → Prop} (hL : Lay h) (hW : W314 a1 a2 a3 h C) : xPk (d + 5) 314 [.ref 197, .int a1, .int a2, .int a3] h.X (postI C) := by
  unfold W314 at hW
  refine kin (Nat.le_of_ble_eq_true rfl) ?_
  iterate 2 (refine kst rfl rfl ?_)
  refine qcvI rfl (oK12 hL rfl) rfl rfl (R247 (d := d + 4) (h := h) hL hW) (fun v1 hW => ?_)
  refine wif_eq rfl hW (fun hW => ?_) (fun hW => ?_)
  · refine wjp ?_ (R314_26 (h := h) hL hW)
    exact ⟨rfl, rfl, rfl, rfl, trivial⟩
  · iterate 2 (refine kst rfl rfl ?_)
    refine wcm_ne rfl hW (fun hW => ?_) (fun hW => ?_)
    · refine wjp ?_ (R314_22 (h := h) hL hW)
      exact ⟨rfl, rfl, rfl, rfl, trivial⟩
    · iterate 2 (refine kst rfl rfl ?_)
      refine qcvI rfl (oK12 hL rfl) rfl rfl (R247 (d := d + 4) (h := h) hL hW) (fun v2 hW => ?_)
      refine wif_eq rfl hW (fun hW => ?_) (fun hW => ?_)
      · refine wjp ?_ (R314_26 (h := h) hL hW)
        exact ⟨rfl, rfl, rfl, rfl, trivial⟩
      · refine wjp ?_ (R314_22 (h := h) hL hW)
        exact ⟨rfl, rfl, rfl, rfl, trivial⟩
/-- 315: FourPotsModel actsAt -/
def B315_73 (x2 : Int32) (h : TH) (C : TH → Prop) : Prop :=
  W269 x2 (h.sI 197 42 ((h.I 197 42) + 1)) (fun v3 h4 => W234 v3 h4 (fun v5 => W234 ((h4.sI 197 46 (((h.sI 197 42 ((h.I 197 42) + 1)).I 197 46) + v5)).I 198 (ix 2)) (h4.sI 197 46 (((h.sI 197 42 ((h.I 197 42) + 1)).I 197 46) + v5)) (fun v6 => C ((h4.sI 197 46 (((h.sI 197 42 ((h.I 197 42) + 1)).I 197 46) + v5)).sI 197 44 (imax ((h4.sI 197 46 (((h.sI 197 42 ((h.I 197 42) + 1)).I 197 46) + v5)).I 197 44) v6)))))
def B315_70 (x2 : Int32) (s1 : Int32) (h : TH) (C : TH → Prop) : Prop :=
  B315_73 x2 (h.sI 197 47 s1) C
def W315 (a1 : Int32) (h : TH) (C : TH → Prop) : Prop :=
  inb a1 2200 ∧ inb (a1 + 1) 2200 ∧ inb (a1 + 2) 2200 ∧ W314 (h.I 198 (ix a1)) (h.I 198 (ix (a1 + 1))) (h.I 198 (ix (a1 + 2))) h (fun v1 h2 => if ¬ v1 = 0 then (B315_73 (h.I 198 (ix 2)) h2 C) else (if ¬ ((h2.sI 197 43 ((h2.I 197 43) + 1)).I 197 47) = (-1) then (B315_70 (h.I 198 (ix 2)) ((h2.sI 197 43 ((h2.I 197 43) + 1)).I 197 47) (h2.sI 197 43 ((h2.I 197 43) + 1)) C) else (inb (a1 + 4) 2200 ∧ B315_70 (h.I 198 (ix 2)) ((h2.sI 197 43 ((h2.I 197 43) + 1)).I 198 (ix (a1 + 4))) (h2.sI 197 43 ((h2.I 197 43) + 1)) C)))

theorem R315_73 {d : Nat} {x2 : Int32} {h : TH} {C : TH → Prop} (hL : Lay h) (hW : B315_73 x2 h C) : xEk (d + 6) 315 (73, [(0, .ref 197), (2, .int x2)], [], h.X) (postV C) := by
  unfold B315_73 at hW
  iterate 2 (refine kst rfl rfl ?_)
  refine wgetI rfl (oK12 hL rfl) rfl ?_
  iterate 2 (refine kst rfl rfl ?_)
  refine wputI rfl (oK12 hL rfl) rfl ?_
  replace hL : Lay (h.sI 197 42 ((h.I 197 42) + 1)) := lsI hL
  iterate 2 (refine kst rfl rfl ?_)
  refine wgetI rfl (oK12 hL rfl) rfl ?_
  iterate 2 (refine kst rfl rfl ?_)
  refine wcvI rfl (oK12 hL rfl) rfl rfl (R269 (d := d + 4) (h := (h.sI 197 42 ((h.I 197 42) + 1))) hL hW) (fun v3 h4 hL hW => ?_)
  refine qcaI rfl rfl (R234 (d := d + 5) (h := h4) hL hW) (fun v5 hW => ?_)
  refine kst rfl rfl ?_
  refine wputI rfl (oK12 hL rfl) rfl ?_
  replace hL : Lay (h4.sI 197 46 (((h.sI 197 42 ((h.I 197 42) + 1)).I 197 46) + v5)) := lsI hL
  iterate 2 (refine kst rfl rfl ?_)
  refine wgetI rfl (oK12 hL rfl) rfl ?_
  refine kst rfl rfl ?_
  refine wgetP (b := 198) rfl (oK12 hL rfl) rfl (oP12_0 hL) ?_
  refine kst rfl rfl ?_
  refine wald rfl (Or.inl (aK12_0 hL)) (aN12_0 hL) (by decide) ⟨by decide, by decide⟩ ?_
  refine qcaI rfl rfl (R234 (d := d + 5) (h := (h4.sI 197 46 (((h.sI 197 42 ((h.I 197 42) + 1)).I 197 46) + v5))) hL hW) (fun v6 hW => ?_)
  refine kst rfl rfl ?_
  refine wputI rfl (oK12 hL rfl) rfl ?_
  replace hL : Lay ((h4.sI 197 46 (((h.sI 197 42 ((h.I 197 42) + 1)).I 197 46) + v5)).sI 197 44 (imax ((h4.sI 197 46 (((h.sI 197 42 ((h.I 197 42) + 1)).I 197 46) + v5)).I 197 44) v6)) := lsI hL
  refine kre rfl rfl ?_
  exact ⟨_, rfl, hL, hW⟩
theorem R315_70 {d : Nat} {x2 : Int32} {s1 : Int32} {h : TH} {C : TH → Prop} (hL : Lay h) (hW : B315_70 x2 s1 h C) : xEk (d + 6) 315 (70, [(0, .ref 197), (2, .int x2)], [.int s1, .ref 197], h.X) (postV C) := by
  unfold B315_70 at hW
  refine wputI rfl (oK12 hL rfl) rfl ?_
  replace hL : Lay (h.sI 197 47 s1) := lsI hL
  refine wjp ?_ (R315_73 (h := (h.sI 197 47 s1)) hL hW)
  exact ⟨rfl, rfl, trivial⟩
theorem R315 {d : Nat} {a1 : Int32} {h : TH} {C : TH → Prop} (hL : Lay h) (hW : W315 a1 h C) : xPk (d + 6) 315 [.ref 197, .int a1] h.X (postV C) := by
  unfold W315 at hW
  refine kin (Nat.le_of_ble_eq_true rfl) ?_
  refine kst rfl rfl ?_
  refine wgetP (b := 198) rfl (oK12 hL rfl) rfl (oP12_0 hL) ?_
  refine kst rfl rfl ?_
  refine wald rfl (Or.inl (aK12_0 hL)) (aN12_0 hL) (by decide) ⟨by decide, by decide⟩ ?_
  iterate 3 (refine kst rfl rfl ?_)
  refine wgetP (b := 198) rfl (oK12 hL rfl) rfl (oP12_0 hL) ?_
  refine kst rfl rfl ?_
  obtain ⟨q1, hW⟩ := hW
  refine wald rfl (Or.inl (aK12_0 hL)) (aN12_0 hL) (by decide) q1 ?_
  refine kst rfl rfl ?_
  refine wgetP (b := 198) rfl (oK12 hL rfl) rfl (oP12_0 hL) ?_
  iterate 3 (refine kst rfl rfl ?_)
  obtain ⟨q2, hW⟩ := hW
  refine wald rfl (Or.inl (aK12_0 hL)) (aN12_0 hL) (by decide) q2 ?_
  refine kst rfl rfl ?_
  refine wgetP (b := 198) rfl (oK12 hL rfl) rfl (oP12_0 hL) ?_
  iterate 3 (refine kst rfl rfl ?_)
  obtain ⟨q3, hW⟩ := hW
  refine wald rfl (Or.inl (aK12_0 hL)) (aN12_0 hL) (by decide) q3 ?_
  refine wcvI rfl (oK12 hL rfl) rfl rfl (R314 (d := d + 0) (h := h) hL hW) (fun v1 h2 hL hW => ?_)
  refine wif_ne rfl hW (fun hW => ?_) (fun hW => ?_)
  · refine wjp ?_ (R315_73 (h := h2) hL hW)
    exact ⟨rfl, rfl, trivial⟩
  · iterate 2 (refine kst rfl rfl ?_)
    refine wgetI rfl (oK12 hL rfl) rfl ?_
    iterate 2 (refine kst rfl rfl ?_)
    refine wputI rfl (oK12 hL rfl) rfl ?_
    replace hL : Lay (h2.sI 197 43 ((h2.I 197 43) + 1)) := lsI hL
    iterate 2 (refine kst rfl rfl ?_)
    refine wgetI rfl (oK12 hL rfl) rfl ?_
    refine kst rfl rfl ?_
    refine wcm_ne rfl hW (fun hW => ?_) (fun hW => ?_)
    · refine kst rfl rfl ?_
      refine wgetI rfl (oK12 hL rfl) rfl ?_
      refine wjp ?_ (R315_70 (h := (h2.sI 197 43 ((h2.I 197 43) + 1))) hL hW)
      exact ⟨rfl, rfl, trivial⟩
    · refine kst rfl rfl ?_
      refine wgetP (b := 198) rfl (oK12 hL rfl) rfl (oP12_0 hL) ?_
      iterate 3 (refine kst rfl rfl ?_)
      obtain ⟨q4, hW⟩ := hW
      refine wald rfl (Or.inl (aK12_0 hL)) (aN12_0 hL) (by decide) q4 ?_
      refine kst rfl rfl ?_
      refine wjp ?_ (R315_70 (h := (h2.sI 197 43 ((h2.I 197 43) + 1))) hL hW)
      exact ⟨rfl, rfl, trivial⟩
/-- 316: FourPotsModel holds -/
def B316_68 (x3 : Int32) (s1 : Int32) (h : TH) (C : Int32 → Prop) : Prop :=
  inb s1 2200 ∧ W250 (h.I 198 (ix s1)) x3 h (fun v2 => if v2 = 0 then (C 0) else (C 1))
def W316 (a1 : Int32) (h : TH) (C : Int32 → Prop) : Prop :=
  inb a1 2200 ∧ inb (a1 + 1) 2200 ∧ if ¬ ((h.I 198 (ix a1)) - 1600) = 19 then (W247 (h.I 198 (ix (a1 + 1))) h (fun v1 => if v1 = 0 then (C 0) else (if ¬ ((h.I 198 (ix a1)) - 1600) = 17 then (B316_68 (h.I 198 (ix (a1 + 1))) 3 h C) else (B316_68 (h.I 198 (ix (a1 + 1))) 2 h C)))) else (W234 (h.I 198 (ix 2)) h (fun v2 => if v2 < (h.I 198 (ix (a1 + 1))) then (C 0) else (C 1)))

theorem R316_68 {d : Nat} {x3 : Int32} {s1 : Int32} {h : TH} {C : Int32 → Prop} (hL : Lay h) (hW : B316_68 x3 s1 h C) : xEk (d + 1) 316 (68, [(3, .int x3)], [.int s1, .ref 198], h.X) (qostI h C) := by
  unfold B316_68 at hW
  obtain ⟨q3, hW⟩ := hW
  refine wald rfl (Or.inl (aK12_0 hL)) (aN12_0 hL) (by decide) q3 ?_
  refine kst rfl rfl ?_
  refine qcaI rfl rfl (R250 (d := d + 0) (h := h) hL hW) (fun v2 hW => ?_)
  refine wif_eq rfl hW (fun hW => ?_) (fun hW => ?_)
  · refine kst rfl rfl ?_
    refine kre rfl rfl ?_
    exact ⟨_, rfl, hW⟩
  · iterate 2 (refine kst rfl rfl ?_)
    refine kre rfl rfl ?_
    exact ⟨_, rfl, hW⟩
theorem R316 {d : Nat} {a1 : Int32} {h : TH} {C : Int32 → Prop} (hL : Lay h) (hW : W316 a1 h C) : xPk (d + 1) 316 [.ref 197, .int a1] h.X (qostI h C) := by
  unfold W316 at hW
  refine kin (Nat.le_of_ble_eq_true rfl) ?_
  refine kst rfl rfl ?_
  refine wgetP (b := 198) rfl (oK12 hL rfl) rfl (oP12_0 hL) ?_
  refine kst rfl rfl ?_
  obtain ⟨q1, hW⟩ := hW
  refine wald rfl (Or.inl (aK12_0 hL)) (aN12_0 hL) (by decide) q1 ?_
  iterate 4 (refine kst rfl rfl ?_)
  refine wgetP (b := 198) rfl (oK12 hL rfl) rfl (oP12_0 hL) ?_
  iterate 3 (refine kst rfl rfl ?_)
  obtain ⟨q2, hW⟩ := hW
  refine wald rfl (Or.inl (aK12_0 hL)) (aN12_0 hL) (by decide) q2 ?_
  iterate 3 (refine kst rfl rfl ?_)
  refine wcm_ne rfl hW (fun hW => ?_) (fun hW => ?_)
  · iterate 2 (refine kst rfl rfl ?_)
    refine qcvI rfl (oK12 hL rfl) rfl rfl (R247 (d := d + 0) (h := h) hL hW) (fun v1 hW => ?_)
    refine wif_eq rfl hW (fun hW => ?_) (fun hW => ?_)
    · refine kst rfl rfl ?_
      refine kre rfl rfl ?_
      exact ⟨_, rfl, hW⟩
    · refine kst rfl rfl ?_
      refine wgetP (b := 198) rfl (oK12 hL rfl) rfl (oP12_0 hL) ?_
      iterate 2 (refine kst rfl rfl ?_)
      refine wcm_ne rfl hW (fun hW => ?_) (fun hW => ?_)
      · refine kst rfl rfl ?_
        refine wjp ?_ (R316_68 (h := h) hL hW)
        exact ⟨rfl, trivial⟩
      · iterate 2 (refine kst rfl rfl ?_)
        refine wjp ?_ (R316_68 (h := h) hL hW)
        exact ⟨rfl, trivial⟩
  · refine kst rfl rfl ?_
    refine wgetP (b := 198) rfl (oK12 hL rfl) rfl (oP12_0 hL) ?_
    refine kst rfl rfl ?_
    refine wald rfl (Or.inl (aK12_0 hL)) (aN12_0 hL) (by decide) ⟨by decide, by decide⟩ ?_
    refine qcaI rfl rfl (R234 (d := d + 0) (h := h) hL hW) (fun v2 hW => ?_)
    refine kst rfl rfl ?_
    refine wcm_lt rfl hW (fun hW => ?_) (fun hW => ?_)
    · refine kst rfl rfl ?_
      refine kre rfl rfl ?_
      exact ⟨_, rfl, hW⟩
    · iterate 2 (refine kst rfl rfl ?_)
      refine kre rfl rfl ?_
      exact ⟨_, rfl, hW⟩
/-- 317: FourPotsModel behindEnds -/
def B317_92 (x2 : Int32) (x3 : Int32) (x4 : Int32) (s1 : Int32) (s2 : Int32) (s3 : Int32) (h : TH) (C : Int32 → TH → Prop) (X2 : Int32 × TH → Prop) : Prop :=
  inb s1 80 ∧ if x4 = 0 then (X2 ((x2 + 1), (h.sI 219 (ix s1) (s2 - s3)))) else (X2 ((x3 + 1), (h.sI 219 (ix s1) (s2 - s3))))
def B317_73 (x2 : Int32) (x3 : Int32) (s0 : Int32) (h : TH) (C : Int32 → TH → Prop) (X2 : Int32 × TH → Prop) : Prop :=
  inb x3 80 ∧ if s0 = 0 then (B317_92 x2 x3 s0 x3 (h.I 219 (ix x3)) 0 h C X2) else (B317_92 x2 x3 s0 x3 (h.I 219 (ix x3)) 1 h C X2)
def B317_72 (x2 : Int32) (x3 : Int32) (h : TH) (C : Int32 → TH → Prop) (X2 : Int32 × TH → Prop) : Prop :=
  B317_73 x2 x3 0 h C X2
def F317_2 (C : Int32 → TH → Prop) (X2 : Int32 × TH → Prop) : Int32 × TH → Prop := fun
  | (x2, h) =>
    if (h.I 198 (ix 6)) ≤ x2 then (C x2 h) else (inb (124 + (5 * x2)) 2200 ∧ if ¬ (h.I 198 (ix (124 + (5 * x2)))) = 21 then (C x2 h) else (inb ((124 + (5 * x2)) + 3) 2200 ∧ inb (124 + (5 * (h.I 198 (ix ((124 + (5 * x2)) + 3))))) 2200 ∧ if ¬ (h.I 198 (ix (124 + (5 * (h.I 198 (ix ((124 + (5 * x2)) + 3))))))) = 20 then (B317_72 x2 (h.I 198 (ix ((124 + (5 * x2)) + 3))) h C X2) else (inb (h.I 198 (ix ((124 + (5 * x2)) + 3))) 80 ∧ if (h.I 219 (ix (h.I 198 (ix ((124 + (5 * x2)) + 3))))) ≤ 0 then (B317_72 x2 (h.I 198 (ix ((124 + (5 * x2)) + 3))) h C X2) else (B317_73 x2 (h.I 198 (ix ((124 + (5 * x2)) + 3))) 1 h C X2))))
def B317_2 (x2 : Int32) (h : TH) (C : Int32 → TH → Prop) : Prop := LFP (F317_2 C) (x2, h)
def W317 (a1 : Int32) (h : TH) (C : Int32 → TH → Prop) : Prop :=
  B317_2 a1 h C

theorem R317_92 {d : Nat} {x2 : Int32} {x3 : Int32} {x4 : Int32} {s1 : Int32} {s2 : Int32} {s3 : Int32} {h : TH} {C : Int32 → TH → Prop} {X2 : Int32 × TH → Prop} (k2 : ∀ s : Int32 × TH, X2 s → Lay (s.2) → xEk d 317 (2, [(0, .ref 197), (2, .int (s.1))], [], (TH.X (s.2))) (postI C)) (hL : Lay h) (hW : B317_92 x2 x3 x4 s1 s2 s3 h C X2) : xEk d 317 (92, [(0, .ref 197), (2, .int x2), (3, .int x3), (4, .int x4)], [.int s3, .int s2, .int s1, .ref 219], h.X) (postI C) := by
  unfold B317_92 at hW
  refine kst rfl rfl ?_
  obtain ⟨q5, hW⟩ := hW
  refine wast rfl (aK12_49 hL) (aN12_49 hL) (by decide) q5 ?_
  replace hL : Lay (h.sI 219 (ix s1) (s2 - s3)) := lsI hL
  refine kst rfl rfl ?_
  refine wif_eq rfl hW (fun hW => ?_) (fun hW => ?_)
  · iterate 5 (refine kst rfl rfl ?_)
    have z9 := k2 ((x2 + 1), (h.sI 219 (ix s1) (s2 - s3))) hW hL
    refine wjp ?_ z9
    exact ⟨rfl, rfl, trivial⟩
  · iterate 6 (refine kst rfl rfl ?_)
    have z9 := k2 ((x3 + 1), (h.sI 219 (ix s1) (s2 - s3))) hW hL
    refine wjp ?_ z9
    exact ⟨rfl, rfl, trivial⟩
theorem R317_73 {d : Nat} {x2 : Int32} {x3 : Int32} {s0 : Int32} {h : TH} {C : Int32 → TH → Prop} {X2 : Int32 × TH → Prop} (k2 : ∀ s : Int32 × TH, X2 s → Lay (s.2) → xEk d 317 (2, [(0, .ref 197), (2, .int (s.1))], [], (TH.X (s.2))) (postI C)) (hL : Lay h) (hW : B317_73 x2 x3 s0 h C X2) : xEk d 317 (73, [(0, .ref 197), (2, .int x2), (3, .int x3)], [.int s0], h.X) (postI C) := by
  unfold B317_73 at hW
  iterate 2 (refine kst rfl rfl ?_)
  refine wgetP (b := 219) rfl (oK12 hL rfl) rfl (oP12_49 hL) ?_
  iterate 2 (refine kst rfl rfl ?_)
  obtain ⟨q4, hW⟩ := hW
  refine wald rfl (Or.inl (aK12_49 hL)) (aN12_49 hL) (by decide) q4 ?_
  refine kst rfl rfl ?_
  refine wif_eq rfl hW (fun hW => ?_) (fun hW => ?_)
  · refine kst rfl rfl ?_
    refine wjp ?_ (R317_92 (h := h) k2 hL hW)
    exact ⟨rfl, rfl, rfl, rfl, trivial⟩
  · iterate 2 (refine kst rfl rfl ?_)
    refine wjp ?_ (R317_92 (h := h) k2 hL hW)
    exact ⟨rfl, rfl, rfl, rfl, trivial⟩
theorem R317_72 {d : Nat} {x2 : Int32} {x3 : Int32} {h : TH} {C : Int32 → TH → Prop} {X2 : Int32 × TH → Prop} (k2 : ∀ s : Int32 × TH, X2 s → Lay (s.2) → xEk d 317 (2, [(0, .ref 197), (2, .int (s.1))], [], (TH.X (s.2))) (postI C)) (hL : Lay h) (hW : B317_72 x2 x3 h C X2) : xEk d 317 (72, [(0, .ref 197), (2, .int x2), (3, .int x3)], [], h.X) (postI C) := by
  unfold B317_72 at hW
  refine kst rfl rfl ?_
  refine wjp ?_ (R317_73 (h := h) k2 hL hW)
  exact ⟨rfl, rfl, rfl, trivial⟩
theorem R317_2 {d : Nat} {x2 : Int32} {h : TH} {C : Int32 → TH → Prop} (hL : Lay h) (hW : B317_2 x2 h C) : xEk d 317 (2, [(0, .ref 197), (2, .int x2)], [], h.X) (postI C) := by
  refine hW (fun s => Lay (s.2) → xEk d 317 (2, [(0, .ref 197), (2, .int (s.1))], [], (TH.X (s.2))) (postI C)) ?_ hL
  rintro ⟨x2, h⟩ hW hL
  have k2 : ∀ s : Int32 × TH, (fun s => Lay (s.2) → xEk d 317 (2, [(0, .ref 197), (2, .int (s.1))], [], (TH.X (s.2))) (postI C)) s → Lay (s.2) → xEk d 317 (2, [(0, .ref 197), (2, .int (s.1))], [], (TH.X (s.2))) (postI C) := fun s hs => hs
  unfold F317_2 at hW
  dsimp only at hW
  iterate 2 (refine kst rfl rfl ?_)
  refine wgetP (b := 198) rfl (oK12 hL rfl) rfl (oP12_0 hL) ?_
  refine kst rfl rfl ?_
  refine wald rfl (Or.inl (aK12_0 hL)) (aN12_0 hL) (by decide) ⟨by decide, by decide⟩ ?_
  refine wcm_ge rfl hW (fun hW => ?_) (fun hW => ?_)
  · refine kst rfl rfl ?_
    refine kre rfl rfl ?_
    exact ⟨_, _, rfl, hL, hW⟩
  · refine kst rfl rfl ?_
    refine wgetP (b := 198) rfl (oK12 hL rfl) rfl (oP12_0 hL) ?_
    iterate 5 (refine kst rfl rfl ?_)
    obtain ⟨q1, hW⟩ := hW
    refine wald rfl (Or.inl (aK12_0 hL)) (aN12_0 hL) (by decide) q1 ?_
    refine kst rfl rfl ?_
    refine wcm_ne rfl hW (fun hW => ?_) (fun hW => ?_)
    · refine kst rfl rfl ?_
      refine kre rfl rfl ?_
      exact ⟨_, _, rfl, hL, hW⟩
    · refine kst rfl rfl ?_
      refine wgetP (b := 198) rfl (oK12 hL rfl) rfl (oP12_0 hL) ?_
      iterate 7 (refine kst rfl rfl ?_)
      obtain ⟨q2, hW⟩ := hW
      refine wald rfl (Or.inl (aK12_0 hL)) (aN12_0 hL) (by decide) q2 ?_
      iterate 2 (refine kst rfl rfl ?_)
      refine wgetP (b := 198) rfl (oK12 hL rfl) rfl (oP12_0 hL) ?_
      iterate 5 (refine kst rfl rfl ?_)
      obtain ⟨q3, hW⟩ := hW
      refine wald rfl (Or.inl (aK12_0 hL)) (aN12_0 hL) (by decide) q3 ?_
      refine kst rfl rfl ?_
      refine wcm_ne rfl hW (fun hW => ?_) (fun hW => ?_)
      · refine wjp ?_ (R317_72 (h := h) k2 hL hW)
        exact ⟨rfl, rfl, rfl, trivial⟩
      · refine kst rfl rfl ?_
        refine wgetP (b := 219) rfl (oK12 hL rfl) rfl (oP12_49 hL) ?_
        refine kst rfl rfl ?_
        obtain ⟨q4, hW⟩ := hW
        refine wald rfl (Or.inl (aK12_49 hL)) (aN12_49 hL) (by decide) q4 ?_
        refine wif_le rfl hW (fun hW => ?_) (fun hW => ?_)
        · refine wjp ?_ (R317_72 (h := h) k2 hL hW)
          exact ⟨rfl, rfl, rfl, trivial⟩
        · iterate 2 (refine kst rfl rfl ?_)
          refine wjp ?_ (R317_73 (h := h) k2 hL hW)
          exact ⟨rfl, rfl, rfl, trivial⟩
theorem R317 {d : Nat} {a1 : Int32} {h : TH} {C : Int32 → TH → Prop} (hL : Lay h) (hW : W317 a1 h C) : xPk d 317 [.ref 197, .int a1] h.X (postI C) := by
  unfold W317 at hW
  refine kin (Nat.le_of_ble_eq_true rfl) ?_
  iterate 2 (refine kst rfl rfl ?_)
  refine wjp ?_ (R317_2 (h := h) hL hW)
  exact ⟨rfl, rfl, trivial⟩
/-- 318: FourPotsModel cooks -/
def F318_321 (C : TH → Prop) (X321 : Int32 × TH → Prop) : Int32 × TH → Prop := fun
  | (x5, h) =>
    if 12 ≤ x5 then (C h) else (inb x5 16 ∧ inb (112 + x5) 2200 ∧ X321 ((x5 + 1), (h.sI 198 (ix (112 + x5)) (h.I 220 (ix x5)))))
def B318_321 (x5 : Int32) (h : TH) (C : TH → Prop) : Prop := LFP (F318_321 C) (x5, h)
def B318_284 (x2 : Int32) (x3 : Int32) (h : TH) (C : TH → Prop) : Prop :=
  ∀ h2, h2 = (((h.sI 197 53 (h.I 198 (ix 2))).sI 197 54 ((h.sI 197 53 (h.I 198 (ix 2))).I 198 (ix 3))).sI 198 (ix 2) x2) → B318_321 0 (h2.sI 198 (ix 3) x3) C
def B318_273 (x2 : Int32) (x3 : Int32) (x5 : Int32) (s1 : Int32) (h : TH) (C : TH → Prop) (X117 : Int32 × Int32 × TH → Prop) : Prop :=
  W317 s1 h (fun v2 h3 => X117 (v2, (x5 + 1), h3))
def B318_269 (x2 : Int32) (x3 : Int32) (x4 : Int32) (x5 : Int32) (h : TH) (C : TH → Prop) (X117 : Int32 × Int32 × TH → Prop) : Prop :=
  B318_273 x2 x3 x5 (x4 + 1) h C X117
def B318_237 (x2 : Int32) (x3 : Int32) (x4 : Int32) (x5 : Int32) (x6 : Int32) (x7 : Int32) (h : TH) (C : TH → Prop) (X117 : Int32 × Int32 × TH → Prop) : Prop :=
  if x7 < 1600 then (B318_269 x2 x3 x4 x5 h C X117) else (W316 x6 h (fun v2 => if ¬ v2 = 0 then (B318_269 x2 x3 x4 x5 h C X117) else (inb (x6 + 3) 2200 ∧ B318_273 x2 x3 x5 ((h.I 198 (ix (x6 + 3))) + 1) h C X117)))
def B318_212 (x2 : Int32) (x3 : Int32) (x4 : Int32) (x5 : Int32) (x6 : Int32) (x7 : Int32) (h : TH) (C : TH → Prop) (X117 : Int32 × Int32 × TH → Prop) : Prop :=
  if ¬ x7 = 20 then (B318_237 x2 x3 x4 x5 x6 x7 h C X117) else (inb (x6 + 1) 2200 ∧ inb x4 80 ∧ B318_237 x2 x3 x4 x5 x6 x7 (h.sI 219 (ix x4) ((h.I 198 (ix (x6 + 1))) - 1)) C X117)
def B318_201 (x2 : Int32) (x3 : Int32) (x4 : Int32) (x5 : Int32) (x6 : Int32) (x7 : Int32) (x8 : Int32) (h : TH) (C : TH → Prop) (X117 : Int32 × Int32 × TH → Prop) : Prop :=
  if x8 = 0 then (B318_212 x2 x3 x4 x5 x6 x7 h C X117) else (W315 x6 h (fun h2 => B318_212 x2 x3 x4 x5 x6 x7 h2 C X117))
def B318_174 (x2 : Int32) (x3 : Int32) (x4 : Int32) (x5 : Int32) (x6 : Int32) (x7 : Int32) (s0 : Int32) (h : TH) (C : TH → Prop) (X117 : Int32 × Int32 × TH → Prop) : Prop :=
  if x7 = 22 then (B318_284 x2 x3 h C) else (if s0 = 0 then (B318_201 x2 x3 x4 x5 x6 x7 s0 h C X117) else (if ¬ (h.I 197 42) = 300 then (B318_201 x2 x3 x4 x5 x6 x7 s0 h C X117) else (B318_284 x2 x3 h C)))
def B318_173 (x2 : Int32) (x3 : Int32) (x4 : Int32) (x5 : Int32) (x6 : Int32) (x7 : Int32) (h : TH) (C : TH → Prop) (X117 : Int32 × Int32 × TH → Prop) : Prop :=
  B318_174 x2 x3 x4 x5 x6 x7 0 h C X117
def F318_117 (x2 : Int32) (x3 : Int32) (C : TH → Prop) (X117 : Int32 × Int32 × TH → Prop) : Int32 × Int32 × TH → Prop := fun
  | (x4, x5, h) =>
    if 900 ≤ x5 then (B318_284 x2 x3 h C) else (if (h.I 198 (ix 6)) ≤ x4 then (B318_284 x2 x3 h C) else (inb (124 + (5 * x4)) 2200 ∧ if (h.I 198 (ix (124 + (5 * x4)))) < 10 then (B318_173 x2 x3 x4 x5 (124 + (5 * x4)) (h.I 198 (ix (124 + (5 * x4)))) h C X117) else (if 15 < (h.I 198 (ix (124 + (5 * x4)))) then (B318_173 x2 x3 x4 x5 (124 + (5 * x4)) (h.I 198 (ix (124 + (5 * x4)))) h C X117) else (B318_174 x2 x3 x4 x5 (124 + (5 * x4)) (h.I 198 (ix (124 + (5 * x4)))) 1 h C X117))))
def B318_117 (x2 : Int32) (x3 : Int32) (x4 : Int32) (x5 : Int32) (h : TH) (C : TH → Prop) : Prop := LFP (F318_117 x2 x3 C) (x4, x5, h)
def B318_54 (a1 : Int32) (x2 : Int32) (x3 : Int32) (s1 : Int32) (h : TH) (C : TH → Prop) : Prop :=
  (s1 = 0 ∨ s1 = 1) ∧ ∀ h1, h1 = (((((((h.sI 197 48 s1).sI 197 40 a1).sI 197 41 0).sI 197 42 0).sI 197 43 0).sI 197 44 0).sI 197 45 0) → B318_117 x2 x3 0 0 ((((h1.sI 197 46 0).sI 197 47 (-1)).sI 198 (ix 2) 0).sI 198 (ix 3) 0) C
def F318_2 (a1 : Int32) (C : TH → Prop) (X2 : Int32 × TH → Prop) : Int32 × TH → Prop := fun
  | (x2, h) =>
    if 12 ≤ x2 then (if a1 = (-1) then (B318_54 a1 (h.I 198 (ix 2)) (h.I 198 (ix 3)) 0 h C) else (B318_54 a1 (h.I 198 (ix 2)) (h.I 198 (ix 3)) 1 h C)) else (inb (112 + x2) 2200 ∧ inb x2 16 ∧ X2 ((x2 + 1), (h.sI 220 (ix x2) (h.I 198 (ix (112 + x2))))))
def B318_2 (a1 : Int32) (x2 : Int32) (h : TH) (C : TH → Prop) : Prop := LFP (F318_2 a1 C) (x2, h)
def W318 (a1 : Int32) (h : TH) (C : TH → Prop) : Prop :=
  B318_2 a1 0 h C

theorem R318_321 {d : Nat} {x5 : Int32} {h : TH} {C : TH → Prop} (hL : Lay h) (hW : B318_321 x5 h C) : xEk (d + 7) 318 (321, [(0, .ref 197), (5, .int x5)], [], h.X) (postV C) := by
  refine hW (fun s => Lay (s.2) → xEk (d + 7) 318 (321, [(0, .ref 197), (5, .int (s.1))], [], (TH.X (s.2))) (postV C)) ?_ hL
  rintro ⟨x5, h⟩ hW hL
  have k321 : ∀ s : Int32 × TH, (fun s => Lay (s.2) → xEk (d + 7) 318 (321, [(0, .ref 197), (5, .int (s.1))], [], (TH.X (s.2))) (postV C)) s → Lay (s.2) → xEk (d + 7) 318 (321, [(0, .ref 197), (5, .int (s.1))], [], (TH.X (s.2))) (postV C) := fun s hs => hs
  unfold F318_321 at hW
  dsimp only at hW
  iterate 2 (refine kst rfl rfl ?_)
  refine wcm_ge rfl hW (fun hW => ?_) (fun hW => ?_)
  · refine kre rfl rfl ?_
    exact ⟨_, rfl, hL, hW⟩
  · refine kst rfl rfl ?_
    refine wgetP (b := 198) rfl (oK12 hL rfl) rfl (oP12_0 hL) ?_
    iterate 4 (refine kst rfl rfl ?_)
    refine wgetP (b := 220) rfl (oK12 hL rfl) rfl (oP12_50 hL) ?_
    refine kst rfl rfl ?_
    obtain ⟨q2, hW⟩ := hW
    refine wald rfl (Or.inl (aK12_50 hL)) (aN12_50 hL) (by decide) q2 ?_
    obtain ⟨q3, hW⟩ := hW
    refine wast rfl (aK12_0 hL) (aN12_0 hL) (by decide) q3 ?_
    replace hL : Lay (h.sI 198 (ix (112 + x5)) (h.I 220 (ix x5))) := lsI hL
    iterate 2 (refine kst rfl rfl ?_)
    have z9 := k321 ((x5 + 1), (h.sI 198 (ix (112 + x5)) (h.I 220 (ix x5)))) hW hL
    refine wjp ?_ z9
    exact ⟨rfl, rfl, trivial⟩
theorem R318_284 {d : Nat} {x2 : Int32} {x3 : Int32} {h : TH} {C : TH → Prop} (hL : Lay h) (hW : B318_284 x2 x3 h C) : xEk (d + 7) 318 (284, [(0, .ref 197), (2, .int x2), (3, .int x3)], [], h.X) (postV C) := by
  unfold B318_284 at hW
  iterate 2 (refine kst rfl rfl ?_)
  refine wgetP (b := 198) rfl (oK12 hL rfl) rfl (oP12_0 hL) ?_
  refine kst rfl rfl ?_
  refine wald rfl (Or.inl (aK12_0 hL)) (aN12_0 hL) (by decide) ⟨by decide, by decide⟩ ?_
  refine wputI rfl (oK12 hL rfl) rfl ?_
  replace hL : Lay (h.sI 197 53 (h.I 198 (ix 2))) := lsI hL
  iterate 2 (refine kst rfl rfl ?_)
  refine wgetP (b := 198) rfl (oK12 hL rfl) rfl (oP12_0 hL) ?_
  refine kst rfl rfl ?_
  refine wald rfl (Or.inl (aK12_0 hL)) (aN12_0 hL) (by decide) ⟨by decide, by decide⟩ ?_
  refine wputI rfl (oK12 hL rfl) rfl ?_
  replace hL : Lay ((h.sI 197 53 (h.I 198 (ix 2))).sI 197 54 ((h.sI 197 53 (h.I 198 (ix 2))).I 198 (ix 3))) := lsI hL
  refine kst rfl rfl ?_
  refine wgetP (b := 198) rfl (oK12 hL rfl) rfl (oP12_0 hL) ?_
  iterate 2 (refine kst rfl rfl ?_)
  refine wast rfl (aK12_0 hL) (aN12_0 hL) (by decide) ⟨by decide, by decide⟩ ?_
  replace hL : Lay (((h.sI 197 53 (h.I 198 (ix 2))).sI 197 54 ((h.sI 197 53 (h.I 198 (ix 2))).I 198 (ix 3))).sI 198 (ix 2) x2) := lsI hL
  refine kst rfl rfl ?_
  refine whb (h := (((h.sI 197 53 (h.I 198 (ix 2))).sI 197 54 ((h.sI 197 53 (h.I 198 (ix 2))).I 198 (ix 3))).sI 198 (ix 2) x2)) (fun h2 eh2 => ?_)
  replace hW := hW h2 eh2
  replace hL : Lay h2 := by rw [eh2]; exact hL
  clear eh2
  refine wgetP (b := 198) rfl (oK12 hL rfl) rfl (oP12_0 hL) ?_
  iterate 2 (refine kst rfl rfl ?_)
  refine wast rfl (aK12_0 hL) (aN12_0 hL) (by decide) ⟨by decide, by decide⟩ ?_
  replace hL : Lay (h2.sI 198 (ix 3) x3) := lsI hL
  iterate 2 (refine kst rfl rfl ?_)
  refine wjp ?_ (R318_321 (h := (h2.sI 198 (ix 3) x3)) hL hW)
  exact ⟨rfl, rfl, trivial⟩
theorem R318_273 {d : Nat} {x2 : Int32} {x3 : Int32} {x5 : Int32} {s1 : Int32} {h : TH} {C : TH → Prop} {X117 : Int32 × Int32 × TH → Prop} (k117 : ∀ s : Int32 × Int32 × TH, X117 s → Lay (s.2.2) → xEk (d + 7) 318 (117, [(0, .ref 197), (2, .int x2), (3, .int x3), (4, .int (s.1)), (5, .int (s.2.1))], [], (TH.X (s.2.2))) (postV C)) (hL : Lay h) (hW : B318_273 x2 x3 x5 s1 h C X117) : xEk (d + 7) 318 (273, [(0, .ref 197), (2, .int x2), (3, .int x3), (5, .int x5)], [.int s1, .ref 197], h.X) (postV C) := by
  unfold B318_273 at hW
  refine wcvI rfl (oK12 hL rfl) rfl rfl (R317 (d := d + 6) (h := h) hL hW) (fun v2 h3 hL hW => ?_)
  iterate 3 (refine kst rfl rfl ?_)
  have z9 := k117 (v2, (x5 + 1), h3) hW hL
  refine wjp ?_ z9
  exact ⟨rfl, rfl, rfl, rfl, rfl, trivial⟩
theorem R318_269 {d : Nat} {x2 : Int32} {x3 : Int32} {x4 : Int32} {x5 : Int32} {h : TH} {C : TH → Prop} {X117 : Int32 × Int32 × TH → Prop} (k117 : ∀ s : Int32 × Int32 × TH, X117 s → Lay (s.2.2) → xEk (d + 7) 318 (117, [(0, .ref 197), (2, .int x2), (3, .int x3), (4, .int (s.1)), (5, .int (s.2.1))], [], (TH.X (s.2.2))) (postV C)) (hL : Lay h) (hW : B318_269 x2 x3 x4 x5 h C X117) : xEk (d + 7) 318 (269, [(0, .ref 197), (2, .int x2), (3, .int x3), (4, .int x4), (5, .int x5)], [.ref 197], h.X) (postV C) := by
  unfold B318_269 at hW
  iterate 3 (refine kst rfl rfl ?_)
  refine wjp ?_ (R318_273 (h := h) k117 hL hW)
  exact ⟨rfl, rfl, rfl, rfl, trivial⟩
theorem R318_237 {d : Nat} {x2 : Int32} {x3 : Int32} {x4 : Int32} {x5 : Int32} {x6 : Int32} {x7 : Int32} {h : TH} {C : TH → Prop} {X117 : Int32 × Int32 × TH → Prop} (k117 : ∀ s : Int32 × Int32 × TH, X117 s → Lay (s.2.2) → xEk (d + 7) 318 (117, [(0, .ref 197), (2, .int x2), (3, .int x3), (4, .int (s.1)), (5, .int (s.2.1))], [], (TH.X (s.2.2))) (postV C)) (hL : Lay h) (hW : B318_237 x2 x3 x4 x5 x6 x7 h C X117) : xEk (d + 7) 318 (237, [(0, .ref 197), (2, .int x2), (3, .int x3), (4, .int x4), (5, .int x5), (6, .int x6), (7, .int x7)], [], h.X) (postV C) := by
  unfold B318_237 at hW
  iterate 3 (refine kst rfl rfl ?_)
  refine wcm_lt rfl hW (fun hW => ?_) (fun hW => ?_)
  · refine wjp ?_ (R318_269 (h := h) k117 hL hW)
    exact ⟨rfl, rfl, rfl, rfl, rfl, trivial⟩
  · iterate 2 (refine kst rfl rfl ?_)
    refine qcvI rfl (oK12 hL rfl) rfl rfl (R316 (d := d + 5) (h := h) hL hW) (fun v2 hW => ?_)
    refine wif_ne rfl hW (fun hW => ?_) (fun hW => ?_)
    · refine wjp ?_ (R318_269 (h := h) k117 hL hW)
      exact ⟨rfl, rfl, rfl, rfl, rfl, trivial⟩
    · refine kst rfl rfl ?_
      refine wgetP (b := 198) rfl (oK12 hL rfl) rfl (oP12_0 hL) ?_
      iterate 3 (refine kst rfl rfl ?_)
      obtain ⟨q3, hW⟩ := hW
      refine wald rfl (Or.inl (aK12_0 hL)) (aN12_0 hL) (by decide) q3 ?_
      iterate 3 (refine kst rfl rfl ?_)
      refine wjp ?_ (R318_273 (h := h) k117 hL hW)
      exact ⟨rfl, rfl, rfl, rfl, trivial⟩
theorem R318_212 {d : Nat} {x2 : Int32} {x3 : Int32} {x4 : Int32} {x5 : Int32} {x6 : Int32} {x7 : Int32} {h : TH} {C : TH → Prop} {X117 : Int32 × Int32 × TH → Prop} (k117 : ∀ s : Int32 × Int32 × TH, X117 s → Lay (s.2.2) → xEk (d + 7) 318 (117, [(0, .ref 197), (2, .int x2), (3, .int x3), (4, .int (s.1)), (5, .int (s.2.1))], [], (TH.X (s.2.2))) (postV C)) (hL : Lay h) (hW : B318_212 x2 x3 x4 x5 x6 x7 h C X117) : xEk (d + 7) 318 (212, [(0, .ref 197), (2, .int x2), (3, .int x3), (4, .int x4), (5, .int x5), (6, .int x6), (7, .int x7)], [], h.X) (postV C) := by
  unfold B318_212 at hW
  iterate 2 (refine kst rfl rfl ?_)
  refine wcm_ne rfl hW (fun hW => ?_) (fun hW => ?_)
  · refine wjp ?_ (R318_237 (h := h) k117 hL hW)
    exact ⟨rfl, rfl, rfl, rfl, rfl, rfl, rfl, trivial⟩
  · refine kst rfl rfl ?_
    refine wgetP (b := 219) rfl (oK12 hL rfl) rfl (oP12_49 hL) ?_
    iterate 2 (refine kst rfl rfl ?_)
    refine wgetP (b := 198) rfl (oK12 hL rfl) rfl (oP12_0 hL) ?_
    iterate 3 (refine kst rfl rfl ?_)
    obtain ⟨q3, hW⟩ := hW
    refine wald rfl (Or.inl (aK12_0 hL)) (aN12_0 hL) (by decide) q3 ?_
    iterate 2 (refine kst rfl rfl ?_)
    obtain ⟨q4, hW⟩ := hW
    refine wast rfl (aK12_49 hL) (aN12_49 hL) (by decide) q4 ?_
    replace hL : Lay (h.sI 219 (ix x4) ((h.I 198 (ix (x6 + 1))) - 1)) := lsI hL
    refine wjp ?_ (R318_237 (h := (h.sI 219 (ix x4) ((h.I 198 (ix (x6 + 1))) - 1))) k117 hL hW)
    exact ⟨rfl, rfl, rfl, rfl, rfl, rfl, rfl, trivial⟩
theorem R318_201 {d : Nat} {x2 : Int32} {x3 : Int32} {x4 : Int32} {x5 : Int32} {x6 : Int32} {x7 : Int32} {x8 : Int32} {h : TH} {C : TH → Prop} {X117 : Int32 × Int32 × TH → Prop} (k117 : ∀ s : Int32 × Int32 × TH, X117 s → Lay (s.2.2) → xEk (d + 7) 318 (117, [(0, .ref 197), (2, .int x2), (3, .int x3), (4, .int (s.1)), (5, .int (s.2.1))], [], (TH.X (s.2.2))) (postV C)) (hL : Lay h) (hW : B318_201 x2 x3 x4 x5 x6 x7 x8 h C X117) : xEk (d + 7) 318 (201, [(0, .ref 197), (2, .int x2), (3, .int x3), (4, .int x4), (5, .int x5), (6, .int x6), (7, .int x7), (8, .int x8)], [], h.X) (postV C) := by
  unfold B318_201 at hW
  refine kst rfl rfl ?_
  refine wif_eq rfl hW (fun hW => ?_) (fun hW => ?_)
  · refine wjp ?_ (R318_212 (h := h) k117 hL hW)
    exact ⟨rfl, rfl, rfl, rfl, rfl, rfl, rfl, trivial⟩
  · iterate 2 (refine kst rfl rfl ?_)
    refine wcvV rfl (oK12 hL rfl) rfl rfl (R315 (d := d + 0) (h := h) hL hW) (fun h2 hL hW => ?_)
    refine wjp ?_ (R318_212 (h := h2) k117 hL hW)
    exact ⟨rfl, rfl, rfl, rfl, rfl, rfl, rfl, trivial⟩
theorem R318_174 {d : Nat} {x2 : Int32} {x3 : Int32} {x4 : Int32} {x5 : Int32} {x6 : Int32} {x7 : Int32} {s0 : Int32} {h : TH} {C : TH → Prop} {X117 : Int32 × Int32 × TH → Prop} (k117 : ∀ s : Int32 × Int32 × TH, X117 s → Lay (s.2.2) → xEk (d + 7) 318 (117, [(0, .ref 197), (2, .int x2), (3, .int x3), (4, .int (s.1)), (5, .int (s.2.1))], [], (TH.X (s.2.2))) (postV C)) (hL : Lay h) (hW : B318_174 x2 x3 x4 x5 x6 x7 s0 h C X117) : xEk (d + 7) 318 (174, [(0, .ref 197), (2, .int x2), (3, .int x3), (4, .int x4), (5, .int x5), (6, .int x6), (7, .int x7)], [.int s0], h.X) (postV C) := by
  unfold B318_174 at hW
  iterate 3 (refine kst rfl rfl ?_)
  refine wcm_eq rfl hW (fun hW => ?_) (fun hW => ?_)
  · refine wjp ?_ (R318_284 (h := h) hL hW)
    exact ⟨rfl, rfl, rfl, trivial⟩
  · refine kst rfl rfl ?_
    refine wif_eq rfl hW (fun hW => ?_) (fun hW => ?_)
    · refine wjp ?_ (R318_201 (h := h) k117 hL hW)
      exact ⟨rfl, rfl, rfl, rfl, rfl, rfl, rfl, rfl, trivial⟩
    · refine kst rfl rfl ?_
      refine wgetI rfl (oK12 hL rfl) rfl ?_
      refine kst rfl rfl ?_
      refine wcm_ne rfl hW (fun hW => ?_) (fun hW => ?_)
      · refine wjp ?_ (R318_201 (h := h) k117 hL hW)
        exact ⟨rfl, rfl, rfl, rfl, rfl, rfl, rfl, rfl, trivial⟩
      · refine kst rfl rfl ?_
        refine wjp ?_ (R318_284 (h := h) hL hW)
        exact ⟨rfl, rfl, rfl, trivial⟩
theorem R318_173 {d : Nat} {x2 : Int32} {x3 : Int32} {x4 : Int32} {x5 : Int32} {x6 : Int32} {x7 : Int32} {h : TH} {C : TH → Prop} {X117 : Int32 × Int32 × TH → Prop} (k117 : ∀ s : Int32 × Int32 × TH, X117 s → Lay (s.2.2) → xEk (d + 7) 318 (117, [(0, .ref 197), (2, .int x2), (3, .int x3), (4, .int (s.1)), (5, .int (s.2.1))], [], (TH.X (s.2.2))) (postV C)) (hL : Lay h) (hW : B318_173 x2 x3 x4 x5 x6 x7 h C X117) : xEk (d + 7) 318 (173, [(0, .ref 197), (2, .int x2), (3, .int x3), (4, .int x4), (5, .int x5), (6, .int x6), (7, .int x7)], [], h.X) (postV C) := by
  unfold B318_173 at hW
  refine kst rfl rfl ?_
  refine wjp ?_ (R318_174 (h := h) k117 hL hW)
  exact ⟨rfl, rfl, rfl, rfl, rfl, rfl, rfl, trivial⟩
theorem R318_117 {d : Nat} {x2 : Int32} {x3 : Int32} {x4 : Int32} {x5 : Int32} {h : TH} {C : TH → Prop} (hL : Lay h) (hW : B318_117 x2 x3 x4 x5 h C) : xEk (d + 7) 318 (117, [(0, .ref 197), (2, .int x2), (3, .int x3), (4, .int x4), (5, .int x5)], [], h.X) (postV C) := by
  refine hW (fun s => Lay (s.2.2) → xEk (d + 7) 318 (117, [(0, .ref 197), (2, .int x2), (3, .int x3), (4, .int (s.1)), (5, .int (s.2.1))], [], (TH.X (s.2.2))) (postV C)) ?_ hL
  rintro ⟨x4, x5, h⟩ hW hL
  have k117 : ∀ s : Int32 × Int32 × TH, (fun s => Lay (s.2.2) → xEk (d + 7) 318 (117, [(0, .ref 197), (2, .int x2), (3, .int x3), (4, .int (s.1)), (5, .int (s.2.1))], [], (TH.X (s.2.2))) (postV C)) s → Lay (s.2.2) → xEk (d + 7) 318 (117, [(0, .ref 197), (2, .int x2), (3, .int x3), (4, .int (s.1)), (5, .int (s.2.1))], [], (TH.X (s.2.2))) (postV C) := fun s hs => hs
  unfold F318_117 at hW
  dsimp only at hW
  iterate 2 (refine kst rfl rfl ?_)
  refine wcm_ge rfl hW (fun hW => ?_) (fun hW => ?_)
  · refine wjp ?_ (R318_284 (h := h) hL hW)
    exact ⟨rfl, rfl, rfl, trivial⟩
  · iterate 2 (refine kst rfl rfl ?_)
    refine wgetP (b := 198) rfl (oK12 hL rfl) rfl (oP12_0 hL) ?_
    refine kst rfl rfl ?_
    refine wald rfl (Or.inl (aK12_0 hL)) (aN12_0 hL) (by decide) ⟨by decide, by decide⟩ ?_
    refine wcm_ge rfl hW (fun hW => ?_) (fun hW => ?_)
    · refine wjp ?_ (R318_284 (h := h) hL hW)
      exact ⟨rfl, rfl, rfl, trivial⟩
    · iterate 7 (refine kst rfl rfl ?_)
      refine wgetP (b := 198) rfl (oK12 hL rfl) rfl (oP12_0 hL) ?_
      refine kst rfl rfl ?_
      obtain ⟨q2, hW⟩ := hW
      refine wald rfl (Or.inl (aK12_0 hL)) (aN12_0 hL) (by decide) q2 ?_
      iterate 3 (refine kst rfl rfl ?_)
      refine wcm_lt rfl hW (fun hW => ?_) (fun hW => ?_)
      · refine wjp ?_ (R318_173 (h := h) k117 hL hW)
        exact ⟨rfl, rfl, rfl, rfl, rfl, rfl, rfl, trivial⟩
      · iterate 2 (refine kst rfl rfl ?_)
        refine wcm_gt rfl hW (fun hW => ?_) (fun hW => ?_)
        · refine wjp ?_ (R318_173 (h := h) k117 hL hW)
          exact ⟨rfl, rfl, rfl, rfl, rfl, rfl, rfl, trivial⟩
        · iterate 2 (refine kst rfl rfl ?_)
          refine wjp ?_ (R318_174 (h := h) k117 hL hW)
          exact ⟨rfl, rfl, rfl, rfl, rfl, rfl, rfl, trivial⟩
theorem R318_54 {d : Nat} {a1 : Int32} {x2 : Int32} {x3 : Int32} {s1 : Int32} {h : TH} {C : TH → Prop} (hL : Lay h) (hW : B318_54 a1 x2 x3 s1 h C) : xEk (d + 7) 318 (54, [(0, .ref 197), (1, .int a1), (2, .int x2), (3, .int x3)], [.int s1, .ref 197], h.X) (postV C) := by
  unfold B318_54 at hW
  obtain ⟨q1, hW⟩ := hW
  refine wputZ rfl (oK12 hL rfl) rfl q1 ?_
  replace hL : Lay (h.sI 197 48 s1) := lsI hL
  iterate 2 (refine kst rfl rfl ?_)
  refine wputI rfl (oK12 hL rfl) rfl ?_
  replace hL : Lay ((h.sI 197 48 s1).sI 197 40 a1) := lsI hL
  iterate 2 (refine kst rfl rfl ?_)
  refine wputI rfl (oK12 hL rfl) rfl ?_
  replace hL : Lay (((h.sI 197 48 s1).sI 197 40 a1).sI 197 41 0) := lsI hL
  iterate 2 (refine kst rfl rfl ?_)
  refine wputI rfl (oK12 hL rfl) rfl ?_
  replace hL : Lay ((((h.sI 197 48 s1).sI 197 40 a1).sI 197 41 0).sI 197 42 0) := lsI hL
  iterate 2 (refine kst rfl rfl ?_)
  refine wputI rfl (oK12 hL rfl) rfl ?_
  replace hL : Lay (((((h.sI 197 48 s1).sI 197 40 a1).sI 197 41 0).sI 197 42 0).sI 197 43 0) := lsI hL
  iterate 2 (refine kst rfl rfl ?_)
  refine wputI rfl (oK12 hL rfl) rfl ?_
  replace hL : Lay ((((((h.sI 197 48 s1).sI 197 40 a1).sI 197 41 0).sI 197 42 0).sI 197 43 0).sI 197 44 0) := lsI hL
  iterate 2 (refine kst rfl rfl ?_)
  refine wputI rfl (oK12 hL rfl) rfl ?_
  replace hL : Lay (((((((h.sI 197 48 s1).sI 197 40 a1).sI 197 41 0).sI 197 42 0).sI 197 43 0).sI 197 44 0).sI 197 45 0) := lsI hL
  iterate 2 (refine kst rfl rfl ?_)
  refine whb (h := (((((((h.sI 197 48 s1).sI 197 40 a1).sI 197 41 0).sI 197 42 0).sI 197 43 0).sI 197 44 0).sI 197 45 0)) (fun h1 eh1 => ?_)
  replace hW := hW h1 eh1
  replace hL : Lay h1 := by rw [eh1]; exact hL
  clear eh1
  refine wputI rfl (oK12 hL rfl) rfl ?_
  replace hL : Lay (h1.sI 197 46 0) := lsI hL
  iterate 2 (refine kst rfl rfl ?_)
  refine wputI rfl (oK12 hL rfl) rfl ?_
  replace hL : Lay ((h1.sI 197 46 0).sI 197 47 (-1)) := lsI hL
  refine kst rfl rfl ?_
  refine wgetP (b := 198) rfl (oK12 hL rfl) rfl (oP12_0 hL) ?_
  iterate 2 (refine kst rfl rfl ?_)
  refine wast rfl (aK12_0 hL) (aN12_0 hL) (by decide) ⟨by decide, by decide⟩ ?_
  replace hL : Lay (((h1.sI 197 46 0).sI 197 47 (-1)).sI 198 (ix 2) 0) := lsI hL
  refine kst rfl rfl ?_
  refine wgetP (b := 198) rfl (oK12 hL rfl) rfl (oP12_0 hL) ?_
  iterate 2 (refine kst rfl rfl ?_)
  refine wast rfl (aK12_0 hL) (aN12_0 hL) (by decide) ⟨by decide, by decide⟩ ?_
  replace hL : Lay ((((h1.sI 197 46 0).sI 197 47 (-1)).sI 198 (ix 2) 0).sI 198 (ix 3) 0) := lsI hL
  iterate 4 (refine kst rfl rfl ?_)
  refine wjp ?_ (R318_117 (h := ((((h1.sI 197 46 0).sI 197 47 (-1)).sI 198 (ix 2) 0).sI 198 (ix 3) 0)) hL hW)
  exact ⟨rfl, rfl, rfl, rfl, rfl, trivial⟩
theorem R318_2 {d : Nat} {a1 : Int32} {x2 : Int32} {h : TH} {C : TH → Prop} (hL : Lay h) (hW : B318_2 a1 x2 h C) : xEk (d + 7) 318 (2, [(0, .ref 197), (1, .int a1), (2, .int x2)], [], h.X) (postV C) := by
  refine hW (fun s => Lay (s.2) → xEk (d + 7) 318 (2, [(0, .ref 197), (1, .int a1), (2, .int (s.1))], [], (TH.X (s.2))) (postV C)) ?_ hL
  rintro ⟨x2, h⟩ hW hL
  have k2 : ∀ s : Int32 × TH, (fun s => Lay (s.2) → xEk (d + 7) 318 (2, [(0, .ref 197), (1, .int a1), (2, .int (s.1))], [], (TH.X (s.2))) (postV C)) s → Lay (s.2) → xEk (d + 7) 318 (2, [(0, .ref 197), (1, .int a1), (2, .int (s.1))], [], (TH.X (s.2))) (postV C) := fun s hs => hs
  unfold F318_2 at hW
  dsimp only at hW
  iterate 2 (refine kst rfl rfl ?_)
  refine wcm_ge rfl hW (fun hW => ?_) (fun hW => ?_)
  · refine kst rfl rfl ?_
    refine wgetP (b := 198) rfl (oK12 hL rfl) rfl (oP12_0 hL) ?_
    refine kst rfl rfl ?_
    refine wald rfl (Or.inl (aK12_0 hL)) (aN12_0 hL) (by decide) ⟨by decide, by decide⟩ ?_
    iterate 2 (refine kst rfl rfl ?_)
    refine wgetP (b := 198) rfl (oK12 hL rfl) rfl (oP12_0 hL) ?_
    refine kst rfl rfl ?_
    refine wald rfl (Or.inl (aK12_0 hL)) (aN12_0 hL) (by decide) ⟨by decide, by decide⟩ ?_
    iterate 4 (refine kst rfl rfl ?_)
    refine wcm_eq rfl hW (fun hW => ?_) (fun hW => ?_)
    · refine kst rfl rfl ?_
      refine wjp ?_ (R318_54 (h := h) hL hW)
      exact ⟨rfl, rfl, rfl, rfl, trivial⟩
    · iterate 2 (refine kst rfl rfl ?_)
      refine wjp ?_ (R318_54 (h := h) hL hW)
      exact ⟨rfl, rfl, rfl, rfl, trivial⟩
  · refine kst rfl rfl ?_
    refine wgetP (b := 220) rfl (oK12 hL rfl) rfl (oP12_50 hL) ?_
    iterate 2 (refine kst rfl rfl ?_)
    refine wgetP (b := 198) rfl (oK12 hL rfl) rfl (oP12_0 hL) ?_
    iterate 3 (refine kst rfl rfl ?_)
    obtain ⟨q1, hW⟩ := hW
    refine wald rfl (Or.inl (aK12_0 hL)) (aN12_0 hL) (by decide) q1 ?_
    obtain ⟨q2, hW⟩ := hW
    refine wast rfl (aK12_50 hL) (aN12_50 hL) (by decide) q2 ?_
    replace hL : Lay (h.sI 220 (ix x2) (h.I 198 (ix (112 + x2)))) := lsI hL
    iterate 2 (refine kst rfl rfl ?_)
    have z9 := k2 ((x2 + 1), (h.sI 220 (ix x2) (h.I 198 (ix (112 + x2))))) hW hL
    refine wjp ?_ z9
    exact ⟨rfl, rfl, rfl, trivial⟩
theorem R318 {d : Nat} {a1 : Int32} {h : TH} {C : TH → Prop} (hL : Lay h) (hW : W318 a1 h C) : xPk (d + 7) 318 [.ref 197, .int a1] h.X (postV C) := by
  unfold W318 at hW
  refine kin (Nat.le_of_ble_eq_true rfl) ?_
  iterate 2 (refine kst rfl rfl ?_)
  refine wjp ?_ (R318_2 (h := h) hL hW)
  exact ⟨rfl, rfl, rfl, trivial⟩
/-- 319: FourPotsModel cook -/
def B319_23 (a1 : Int32) (h : TH) (C : Int32 → TH → Prop) : Prop :=
  if ¬ (h.I 198 (ix 6)) = (-1) then (W318 a1 h (fun h1 => ∀ h2, h2 = ((h1.sI 221 (ix 0) (h1.I 197 41)).sI 221 (ix 1) ((h1.sI 221 (ix 0) (h1.I 197 41)).I 197 42)) → ∀ h3, h3 = ((h2.sI 221 (ix 2) (h2.I 197 43)).sI 221 (ix 3) ((h2.sI 221 (ix 2) (h2.I 197 43)).I 197 44)) → ∀ h4, h4 = ((h3.sI 221 (ix 4) (h3.I 197 54)).sI 221 (ix 5) ((h3.sI 221 (ix 4) (h3.I 197 54)).I 197 45)) → W206 (((h4.sI 221 (ix 6) (h4.I 197 46)).sI 197 52 1).I 197 53) ((h4.sI 221 (ix 6) (h4.I 197 46)).sI 197 52 1) (fun v5 h6 => C v5 h6))) else (W205 6 h (fun v7 h8 => C v7 h8))
def W319 (a1 : Int32) (h : TH) (C : Int32 → TH → Prop) : Prop :=
  if a1 = (-1) then (B319_23 a1 h C) else (W215 ((a1).toInt64) (0 : Int64) (9999 : Int64) h (fun v1 => if ¬ v1 = 0 then (B319_23 a1 h C) else (W205 1 h (fun v2 h3 => C v2 h3))))

theorem R319_23 {d : Nat} {a1 : Int32} {h : TH} {C : Int32 → TH → Prop} (hL : Lay h) (hW : B319_23 a1 h C) : xEk (d + 8) 319 (23, [(0, .ref 197), (1, .int a1)], [], h.X) (postI C) := by
  unfold B319_23 at hW
  refine kst rfl rfl ?_
  refine wgetP (b := 198) rfl (oK12 hL rfl) rfl (oP12_0 hL) ?_
  refine kst rfl rfl ?_
  refine wald rfl (Or.inl (aK12_0 hL)) (aN12_0 hL) (by decide) ⟨by decide, by decide⟩ ?_
  refine kst rfl rfl ?_
  refine wcm_ne rfl hW (fun hW => ?_) (fun hW => ?_)
  · iterate 2 (refine kst rfl rfl ?_)
    refine wcvV rfl (oK12 hL rfl) rfl rfl (R318 (d := d + 0) (h := h) hL hW) (fun h1 hL hW => ?_)
    refine kst rfl rfl ?_
    refine wgetP (b := 221) rfl (oK12 hL rfl) rfl (oP12_51 hL) ?_
    iterate 2 (refine kst rfl rfl ?_)
    refine wgetI rfl (oK12 hL rfl) rfl ?_
    refine wast rfl (aK12_51 hL) (aN12_51 hL) (by decide) ⟨by decide, by decide⟩ ?_
    replace hL : Lay (h1.sI 221 (ix 0) (h1.I 197 41)) := lsI hL
    refine kst rfl rfl ?_
    refine wgetP (b := 221) rfl (oK12 hL rfl) rfl (oP12_51 hL) ?_
    iterate 2 (refine kst rfl rfl ?_)
    refine wgetI rfl (oK12 hL rfl) rfl ?_
    refine wast rfl (aK12_51 hL) (aN12_51 hL) (by decide) ⟨by decide, by decide⟩ ?_
    replace hL : Lay ((h1.sI 221 (ix 0) (h1.I 197 41)).sI 221 (ix 1) ((h1.sI 221 (ix 0) (h1.I 197 41)).I 197 42)) := lsI hL
    refine kst rfl rfl ?_
    refine whb (h := ((h1.sI 221 (ix 0) (h1.I 197 41)).sI 221 (ix 1) ((h1.sI 221 (ix 0) (h1.I 197 41)).I 197 42))) (fun h2 eh2 => ?_)
    replace hW := hW h2 eh2
    replace hL : Lay h2 := by rw [eh2]; exact hL
    clear eh2
    refine wgetP (b := 221) rfl (oK12 hL rfl) rfl (oP12_51 hL) ?_
    iterate 2 (refine kst rfl rfl ?_)
    refine wgetI rfl (oK12 hL rfl) rfl ?_
    refine wast rfl (aK12_51 hL) (aN12_51 hL) (by decide) ⟨by decide, by decide⟩ ?_
    replace hL : Lay (h2.sI 221 (ix 2) (h2.I 197 43)) := lsI hL
    refine kst rfl rfl ?_
    refine wgetP (b := 221) rfl (oK12 hL rfl) rfl (oP12_51 hL) ?_
    iterate 2 (refine kst rfl rfl ?_)
    refine wgetI rfl (oK12 hL rfl) rfl ?_
    refine wast rfl (aK12_51 hL) (aN12_51 hL) (by decide) ⟨by decide, by decide⟩ ?_
    replace hL : Lay ((h2.sI 221 (ix 2) (h2.I 197 43)).sI 221 (ix 3) ((h2.sI 221 (ix 2) (h2.I 197 43)).I 197 44)) := lsI hL
    refine kst rfl rfl ?_
    refine whb (h := ((h2.sI 221 (ix 2) (h2.I 197 43)).sI 221 (ix 3) ((h2.sI 221 (ix 2) (h2.I 197 43)).I 197 44))) (fun h3 eh3 => ?_)
    replace hW := hW h3 eh3
    replace hL : Lay h3 := by rw [eh3]; exact hL
    clear eh3
    refine wgetP (b := 221) rfl (oK12 hL rfl) rfl (oP12_51 hL) ?_
    iterate 2 (refine kst rfl rfl ?_)
    refine wgetI rfl (oK12 hL rfl) rfl ?_
    refine wast rfl (aK12_51 hL) (aN12_51 hL) (by decide) ⟨by decide, by decide⟩ ?_
    replace hL : Lay (h3.sI 221 (ix 4) (h3.I 197 54)) := lsI hL
    refine kst rfl rfl ?_
    refine wgetP (b := 221) rfl (oK12 hL rfl) rfl (oP12_51 hL) ?_
    iterate 2 (refine kst rfl rfl ?_)
    refine wgetI rfl (oK12 hL rfl) rfl ?_
    refine wast rfl (aK12_51 hL) (aN12_51 hL) (by decide) ⟨by decide, by decide⟩ ?_
    replace hL : Lay ((h3.sI 221 (ix 4) (h3.I 197 54)).sI 221 (ix 5) ((h3.sI 221 (ix 4) (h3.I 197 54)).I 197 45)) := lsI hL
    refine kst rfl rfl ?_
    refine whb (h := ((h3.sI 221 (ix 4) (h3.I 197 54)).sI 221 (ix 5) ((h3.sI 221 (ix 4) (h3.I 197 54)).I 197 45))) (fun h4 eh4 => ?_)
    replace hW := hW h4 eh4
    replace hL : Lay h4 := by rw [eh4]; exact hL
    clear eh4
    refine wgetP (b := 221) rfl (oK12 hL rfl) rfl (oP12_51 hL) ?_
    iterate 2 (refine kst rfl rfl ?_)
    refine wgetI rfl (oK12 hL rfl) rfl ?_
    refine wast rfl (aK12_51 hL) (aN12_51 hL) (by decide) ⟨by decide, by decide⟩ ?_
    replace hL : Lay (h4.sI 221 (ix 6) (h4.I 197 46)) := lsI hL
    iterate 2 (refine kst rfl rfl ?_)
    refine wputZ rfl (oK12 hL rfl) rfl (by decide) ?_
    replace hL : Lay ((h4.sI 221 (ix 6) (h4.I 197 46)).sI 197 52 1) := lsI hL
    iterate 2 (refine kst rfl rfl ?_)
    refine wgetI rfl (oK12 hL rfl) rfl ?_
    refine wcvI rfl (oK12 hL rfl) rfl rfl (R206 (d := d + 7) (h := ((h4.sI 221 (ix 6) (h4.I 197 46)).sI 197 52 1)) hL hW) (fun v5 h6 hL hW => ?_)
    refine kre rfl rfl ?_
    exact ⟨_, _, rfl, hL, hW⟩
  · iterate 2 (refine kst rfl rfl ?_)
    refine wcvI rfl (oK12 hL rfl) rfl rfl (R205 (d := d + 7) (h := h) hL hW) (fun v7 h8 hL hW => ?_)
    refine kre rfl rfl ?_
    exact ⟨_, _, rfl, hL, hW⟩
theorem R319 {d : Nat} {a1 : Int32} {h : TH} {C : Int32 → TH → Prop} (hL : Lay h) (hW : W319 a1 h C) : xPk (d + 8) 319 [.ref 197, .int a1] h.X (postI C) := by
  unfold W319 at hW
  refine kin (Nat.le_of_ble_eq_true rfl) ?_
  iterate 2 (refine kst rfl rfl ?_)
  refine wcm_eq rfl hW (fun hW => ?_) (fun hW => ?_)
  · refine wjp ?_ (R319_23 (h := h) hL hW)
    exact ⟨rfl, rfl, trivial⟩
  · iterate 4 (refine kst rfl rfl ?_)
    refine qcaI rfl rfl (R215 (d := d + 7) (h := h) hL hW) (fun v1 hW => ?_)
    refine wif_ne rfl hW (fun hW => ?_) (fun hW => ?_)
    · refine wjp ?_ (R319_23 (h := h) hL hW)
      exact ⟨rfl, rfl, trivial⟩
    · iterate 2 (refine kst rfl rfl ?_)
      refine wcvI rfl (oK12 hL rfl) rfl rfl (R205 (d := d + 7) (h := h) hL hW) (fun v2 h3 hL hW => ?_)
      refine kre rfl rfl ?_
      exact ⟨_, _, rfl, hL, hW⟩
/-- 320: FourPotsModel cooked -/
def W320 (a1 : Int32) (h : TH) (C : Int32 → TH → Prop) : Prop :=
  if a1 < 0 then (W205 1 h (fun v1 h2 => C v1 h2)) else (if a1 ≤ 6 then (if ¬ (h.I 197 52) = 0 then (inb a1 8 ∧ W206 (h.I 221 (ix a1)) h (fun v3 h4 => C v3 h4)) else (W205 6 h (fun v5 h6 => C v5 h6))) else (W205 1 h (fun v7 h8 => C v7 h8)))

theorem R320 {d : Nat} {a1 : Int32} {h : TH} {C : Int32 → TH → Prop} (hL : Lay h) (hW : W320 a1 h C) : xPk (d + 1) 320 [.ref 197, .int a1] h.X (postI C) := by
  unfold W320 at hW
  refine kin (Nat.le_of_ble_eq_true rfl) ?_
  refine kst rfl rfl ?_
  refine wif_lt rfl hW (fun hW => ?_) (fun hW => ?_)
  · iterate 2 (refine kst rfl rfl ?_)
    refine wcvI rfl (oK12 hL rfl) rfl rfl (R205 (d := d + 0) (h := h) hL hW) (fun v1 h2 hL hW => ?_)
    refine kst rfl rfl ?_
    refine kre rfl rfl ?_
    exact ⟨_, _, rfl, hL, hW⟩
  · iterate 2 (refine kst rfl rfl ?_)
    refine wcm_le rfl hW (fun hW => ?_) (fun hW => ?_)
    · refine kst rfl rfl ?_
      refine wgetI rfl (oK12 hL rfl) rfl ?_
      refine wif_ne rfl hW (fun hW => ?_) (fun hW => ?_)
      · iterate 2 (refine kst rfl rfl ?_)
        refine wgetP (b := 221) rfl (oK12 hL rfl) rfl (oP12_51 hL) ?_
        refine kst rfl rfl ?_
        obtain ⟨q1, hW⟩ := hW
        refine wald rfl (Or.inl (aK12_51 hL)) (aN12_51 hL) (by decide) q1 ?_
        refine wcvI rfl (oK12 hL rfl) rfl rfl (R206 (d := d + 0) (h := h) hL hW) (fun v3 h4 hL hW => ?_)
        refine kre rfl rfl ?_
        exact ⟨_, _, rfl, hL, hW⟩
      · iterate 2 (refine kst rfl rfl ?_)
        refine wcvI rfl (oK12 hL rfl) rfl rfl (R205 (d := d + 0) (h := h) hL hW) (fun v5 h6 hL hW => ?_)
        refine kst rfl rfl ?_
        refine kre rfl rfl ?_
        exact ⟨_, _, rfl, hL, hW⟩
    · iterate 2 (refine kst rfl rfl ?_)
      refine wcvI rfl (oK12 hL rfl) rfl rfl (R205 (d := d + 0) (h := h) hL hW) (fun v7 h8 hL hW => ?_)
      refine kst rfl rfl ?_
      refine kre rfl rfl ?_
      exact ⟨_, _, rfl, hL, hW⟩
