/-! WHAT EACH METHOD NEEDS: W: the condition; R: the small machine keeps it (printed by wgen.py) -/
/-- 321: FourPotsModel judged -/
def W321 (h : TH) (C : Int32 → TH → Prop) : Prop :=
  if ¬ (h.I 198 (ix 6)) = (-1) then (W318 (-1) h (fun h1 => W288 (h1.I 197 47) h1 (fun v2 h3 => C v2 h3))) else (W205 6 h (fun v4 h5 => C v4 h5))

theorem R321 {d : Nat} {h : TH} {C : Int32 → TH → Prop} (hL : Lay h) (hW : W321  h C) : xPk (d + 8) 321 [.ref 197] h.X (postI C) := by
  unfold W321 at hW
  refine kin (Nat.le_of_ble_eq_true rfl) ?_
  refine kst rfl rfl ?_
  refine wgetP (b := 198) rfl (oK12 hL rfl) rfl (oP12_0 hL) ?_
  refine kst rfl rfl ?_
  refine wald rfl (Or.inl (aK12_0 hL)) (aN12_0 hL) (by decide) ⟨by decide, by decide⟩ ?_
  refine kst rfl rfl ?_
  refine wcm_ne rfl hW (fun hW => ?_) (fun hW => ?_)
  · iterate 2 (refine kst rfl rfl ?_)
    refine wcvV rfl (oK12 hL rfl) rfl rfl (R318 (d := d + 0) (h := h) hL hW) (fun h1 hL hW => ?_)
    iterate 2 (refine kst rfl rfl ?_)
    refine wgetI rfl (oK12 hL rfl) rfl ?_
    refine wcvI rfl (oK12 hL rfl) rfl rfl (R288 (d := d + 6) (h := h1) hL hW) (fun v2 h3 hL hW => ?_)
    refine kre rfl rfl ?_
    exact ⟨_, _, rfl, hL, hW⟩
  · iterate 2 (refine kst rfl rfl ?_)
    refine wcvI rfl (oK12 hL rfl) rfl rfl (R205 (d := d + 7) (h := h) hL hW) (fun v4 h5 hL hW => ?_)
    refine kre rfl rfl ?_
    exact ⟨_, _, rfl, hL, hW⟩
/-- 322: FourPotsModel odds -/
def B322_112 (a1 : Int32) (a2 : Int32) (a3 : Int32) (x5 : Int32) (s0 : Int32) (s1 : Int32) (h : TH) (C : Int32 → TH → Prop) (X73 : Int32 × Int32 × TH → Prop) : Prop :=
  X73 ((s0 + s1), (x5 + 1), h)
def F322_73 (a1 : Int32) (a2 : Int32) (a3 : Int32) (C : Int32 → TH → Prop) (X73 : Int32 × Int32 × TH → Prop) : Int32 × Int32 × TH → Prop := fun
  | (x4, x5, h) =>
    if a3 ≤ x5 then (W207 ((x4).toInt64) ((a3).toInt64) h (fun v10 h11 => (v10 = 0 ∨ v10 = 1) ∧ C v10 h11)) else (W318 (a2 + x5) h (fun h12 => if ¬ (a1 &&& (((h12.I 197 53) &&& ((h12.I 197 54) ^^^ (-1))) ^^^ (-1))) = 0 then (B322_112 a1 a2 a3 x5 x4 0 h12 C X73) else (B322_112 a1 a2 a3 x5 x4 1 h12 C X73)))
def B322_73 (a1 : Int32) (a2 : Int32) (a3 : Int32) (x4 : Int32) (x5 : Int32) (h : TH) (C : Int32 → TH → Prop) : Prop := LFP (F322_73 a1 a2 a3 C) (x4, x5, h)
def W322 (a1 : Int32) (a2 : Int32) (a3 : Int32) (h : TH) (C : Int32 → TH → Prop) : Prop :=
  W249 a1 h (fun v1 => if v1 = 0 then (W204 1 h (fun v2 h3 => (v2 = 0 ∨ v2 = 1) ∧ C v2 h3)) else (W215 ((a2).toInt64) (0 : Int64) (9999 : Int64) h (fun v4 => if v4 = 0 then (W204 1 h (fun v5 h6 => (v5 = 0 ∨ v5 = 1) ∧ C v5 h6)) else (W215 ((a3).toInt64) (1 : Int64) (30 : Int64) h (fun v7 => if v7 = 0 then (W204 1 h (fun v8 h9 => (v8 = 0 ∨ v8 = 1) ∧ C v8 h9)) else (if ((a2 + a3) - 1) ≤ 9999 then (if ¬ (h.I 198 (ix 6)) = (-1) then (B322_73 a1 a2 a3 0 0 h C) else (W204 6 h (fun v10 h11 => (v10 = 0 ∨ v10 = 1) ∧ C v10 h11))) else (W204 1 h (fun v12 h13 => (v12 = 0 ∨ v12 = 1) ∧ C v12 h13))))))))

theorem R322_112 {d : Nat} {a1 : Int32} {a2 : Int32} {a3 : Int32} {x5 : Int32} {s0 : Int32} {s1 : Int32} {h : TH} {C : Int32 → TH → Prop} {X73 : Int32 × Int32 × TH → Prop} (k73 : ∀ s : Int32 × Int32 × TH, X73 s → Lay (s.2.2) → xEk (d + 8) 322 (73, [(0, .ref 197), (1, .int a1), (2, .int a2), (3, .int a3), (4, .int (s.1)), (5, .int (s.2.1))], [], (TH.X (s.2.2))) (postI C)) (hL : Lay h) (hW : B322_112 a1 a2 a3 x5 s0 s1 h C X73) : xEk (d + 8) 322 (112, [(0, .ref 197), (1, .int a1), (2, .int a2), (3, .int a3), (5, .int x5)], [.int s1, .int s0], h.X) (postI C) := by
  unfold B322_112 at hW
  iterate 4 (refine kst rfl rfl ?_)
  refine wjp ?_ (k73 ((s0 + s1), (x5 + 1), h) hW hL)
  exact ⟨rfl, rfl, rfl, rfl, rfl, rfl, trivial⟩
theorem R322_73 {d : Nat} {a1 : Int32} {a2 : Int32} {a3 : Int32} {x4 : Int32} {x5 : Int32} {h : TH} {C : Int32 → TH → Prop} (hL : Lay h) (hW : B322_73 a1 a2 a3 x4 x5 h C) : xEk (d + 8) 322 (73, [(0, .ref 197), (1, .int a1), (2, .int a2), (3, .int a3), (4, .int x4), (5, .int x5)], [], h.X) (postI C) := by
  refine hW (fun s => Lay (s.2.2) → xEk (d + 8) 322 (73, [(0, .ref 197), (1, .int a1), (2, .int a2), (3, .int a3), (4, .int (s.1)), (5, .int (s.2.1))], [], (TH.X (s.2.2))) (postI C)) ?_ hL
  rintro ⟨x4, x5, h⟩ hW hL
  have k73 : ∀ s : Int32 × Int32 × TH, (fun s => Lay (s.2.2) → xEk (d + 8) 322 (73, [(0, .ref 197), (1, .int a1), (2, .int a2), (3, .int a3), (4, .int (s.1)), (5, .int (s.2.1))], [], (TH.X (s.2.2))) (postI C)) s → Lay (s.2.2) → xEk (d + 8) 322 (73, [(0, .ref 197), (1, .int a1), (2, .int a2), (3, .int a3), (4, .int (s.1)), (5, .int (s.2.1))], [], (TH.X (s.2.2))) (postI C) := fun s hs => hs
  unfold F322_73 at hW
  dsimp only at hW
  iterate 2 (refine kst rfl rfl ?_)
  refine wcm_ge rfl hW (fun hW => ?_) (fun hW => ?_)
  · iterate 5 (refine kst rfl rfl ?_)
    refine wcvI rfl (oK12 hL rfl) rfl rfl (R207 (d := d + 6) (h := h) hL hW) (fun v10 h11 hL hW => ?_)
    obtain ⟨q1, hW⟩ := hW
    refine wrZ rfl q1 ?_
    exact ⟨_, _, rfl, hL, hW⟩
  · iterate 4 (refine kst rfl rfl ?_)
    refine wcvV rfl (oK12 hL rfl) rfl rfl (R318 (d := d + 0) (h := h) hL hW) (fun h12 hL hW => ?_)
    iterate 3 (refine kst rfl rfl ?_)
    refine wgetI rfl (oK12 hL rfl) rfl ?_
    refine kst rfl rfl ?_
    refine wgetI rfl (oK12 hL rfl) rfl ?_
    iterate 6 (refine kst rfl rfl ?_)
    refine wif_ne rfl hW (fun hW => ?_) (fun hW => ?_)
    · refine kst rfl rfl ?_
      refine wjp ?_ (R322_112 (h := h12) k73 hL hW)
      exact ⟨rfl, rfl, rfl, rfl, rfl, trivial⟩
    · iterate 2 (refine kst rfl rfl ?_)
      refine wjp ?_ (R322_112 (h := h12) k73 hL hW)
      exact ⟨rfl, rfl, rfl, rfl, rfl, trivial⟩
theorem R322 {d : Nat} {a1 : Int32} {a2 : Int32} {a3 : Int32} {h : TH} {C : Int32 → TH → Prop} (hL : Lay h) (hW : W322 a1 a2 a3 h C) : xPk (d + 8) 322 [.ref 197, .int a1, .int a2, .int a3] h.X (postI C) := by
  unfold W322 at hW
  refine kin (Nat.le_of_ble_eq_true rfl) ?_
  iterate 2 (refine kst rfl rfl ?_)
  refine qcvI rfl (oK12 hL rfl) rfl rfl (R249 (d := d + 6) (h := h) hL hW) (fun v1 hW => ?_)
  refine wif_eq rfl hW (fun hW => ?_) (fun hW => ?_)
  · iterate 2 (refine kst rfl rfl ?_)
    refine wcvI rfl (oK12 hL rfl) rfl rfl (R204 (d := d + 7) (h := h) hL hW) (fun v2 h3 hL hW => ?_)
    obtain ⟨q1, hW⟩ := hW
    refine wrZ rfl q1 ?_
    exact ⟨_, _, rfl, hL, hW⟩
  · iterate 4 (refine kst rfl rfl ?_)
    refine qcaI rfl rfl (R215 (d := d + 7) (h := h) hL hW) (fun v4 hW => ?_)
    refine wif_eq rfl hW (fun hW => ?_) (fun hW => ?_)
    · iterate 2 (refine kst rfl rfl ?_)
      refine wcvI rfl (oK12 hL rfl) rfl rfl (R204 (d := d + 7) (h := h) hL hW) (fun v5 h6 hL hW => ?_)
      obtain ⟨q1, hW⟩ := hW
      refine wrZ rfl q1 ?_
      exact ⟨_, _, rfl, hL, hW⟩
    · iterate 4 (refine kst rfl rfl ?_)
      refine qcaI rfl rfl (R215 (d := d + 7) (h := h) hL hW) (fun v7 hW => ?_)
      refine wif_eq rfl hW (fun hW => ?_) (fun hW => ?_)
      · iterate 2 (refine kst rfl rfl ?_)
        refine wcvI rfl (oK12 hL rfl) rfl rfl (R204 (d := d + 7) (h := h) hL hW) (fun v8 h9 hL hW => ?_)
        obtain ⟨q1, hW⟩ := hW
        refine wrZ rfl q1 ?_
        exact ⟨_, _, rfl, hL, hW⟩
      · iterate 6 (refine kst rfl rfl ?_)
        refine wcm_le rfl hW (fun hW => ?_) (fun hW => ?_)
        · refine kst rfl rfl ?_
          refine wgetP (b := 198) rfl (oK12 hL rfl) rfl (oP12_0 hL) ?_
          refine kst rfl rfl ?_
          refine wald rfl (Or.inl (aK12_0 hL)) (aN12_0 hL) (by decide) ⟨by decide, by decide⟩ ?_
          refine kst rfl rfl ?_
          refine wcm_ne rfl hW (fun hW => ?_) (fun hW => ?_)
          · iterate 4 (refine kst rfl rfl ?_)
            refine wjp ?_ (R322_73 (h := h) hL hW)
            exact ⟨rfl, rfl, rfl, rfl, rfl, rfl, trivial⟩
          · iterate 2 (refine kst rfl rfl ?_)
            refine wcvI rfl (oK12 hL rfl) rfl rfl (R204 (d := d + 7) (h := h) hL hW) (fun v10 h11 hL hW => ?_)
            obtain ⟨q1, hW⟩ := hW
            refine wrZ rfl q1 ?_
            exact ⟨_, _, rfl, hL, hW⟩
        · iterate 2 (refine kst rfl rfl ?_)
          refine wcvI rfl (oK12 hL rfl) rfl rfl (R204 (d := d + 7) (h := h) hL hW) (fun v12 h13 hL hW => ?_)
          obtain ⟨q1, hW⟩ := hW
          refine wrZ rfl q1 ?_
          exact ⟨_, _, rfl, hL, hW⟩
/-- 323: FourPotsModel copies -/
def F323_41 (a1 : Int32) (a2 : Int32) (C : TH → Prop) (X41 : Int32 × TH → Prop) : Int32 × TH → Prop := fun
  | (x3, h) =>
    if 12 ≤ x3 then (C h) else (inb ((12 * a1) + x3) 60 ∧ inb ((12 * a2) + x3) 60 ∧ X41 ((x3 + 1), (h.sJ 199 (ix ((12 * a2) + x3)) (h.J 199 (ix ((12 * a1) + x3))))))
def B323_41 (a1 : Int32) (a2 : Int32) (x3 : Int32) (h : TH) (C : TH → Prop) : Prop := LFP (F323_41 a1 a2 C) (x3, h)
def F323_2 (a1 : Int32) (a2 : Int32) (C : TH → Prop) (X2 : Int32 × TH → Prop) : Int32 × TH → Prop := fun
  | (x3, h) =>
    if 440 ≤ x3 then (B323_41 a1 a2 0 h C) else (inb ((440 * a1) + x3) 2200 ∧ inb ((440 * a2) + x3) 2200 ∧ X2 ((x3 + 1), (h.sI 198 (ix ((440 * a2) + x3)) (h.I 198 (ix ((440 * a1) + x3))))))
def B323_2 (a1 : Int32) (a2 : Int32) (x3 : Int32) (h : TH) (C : TH → Prop) : Prop := LFP (F323_2 a1 a2 C) (x3, h)
def W323 (a1 : Int32) (a2 : Int32) (h : TH) (C : TH → Prop) : Prop :=
  B323_2 a1 a2 0 h C

theorem R323_41 {d : Nat} {a1 : Int32} {a2 : Int32} {x3 : Int32} {h : TH} {C : TH → Prop} (hL : Lay h) (hW : B323_41 a1 a2 x3 h C) : xEk d 323 (41, [(0, .ref 197), (1, .int a1), (2, .int a2), (3, .int x3)], [], h.X) (postV C) := by
  refine hW (fun s => Lay (s.2) → xEk d 323 (41, [(0, .ref 197), (1, .int a1), (2, .int a2), (3, .int (s.1))], [], (TH.X (s.2))) (postV C)) ?_ hL
  rintro ⟨x3, h⟩ hW hL
  have k41 : ∀ s : Int32 × TH, (fun s => Lay (s.2) → xEk d 323 (41, [(0, .ref 197), (1, .int a1), (2, .int a2), (3, .int (s.1))], [], (TH.X (s.2))) (postV C)) s → Lay (s.2) → xEk d 323 (41, [(0, .ref 197), (1, .int a1), (2, .int a2), (3, .int (s.1))], [], (TH.X (s.2))) (postV C) := fun s hs => hs
  unfold F323_41 at hW
  dsimp only at hW
  iterate 2 (refine kst rfl rfl ?_)
  refine wcm_ge rfl hW (fun hW => ?_) (fun hW => ?_)
  · refine kre rfl rfl ?_
    exact ⟨_, rfl, hL, hW⟩
  · refine kst rfl rfl ?_
    refine wgetP (b := 199) rfl (oK12 hL rfl) rfl (oP12_1 hL) ?_
    iterate 6 (refine kst rfl rfl ?_)
    refine wgetP (b := 199) rfl (oK12 hL rfl) rfl (oP12_1 hL) ?_
    iterate 5 (refine kst rfl rfl ?_)
    obtain ⟨q1, hW⟩ := hW
    refine wlald rfl (aK12_1 hL) (aN12_1 hL) (by decide) q1 ?_
    obtain ⟨q2, hW⟩ := hW
    refine wlast rfl (aK12_1 hL) (aN12_1 hL) (by decide) q2 ?_
    replace hL : Lay (h.sJ 199 (ix ((12 * a2) + x3)) (h.J 199 (ix ((12 * a1) + x3)))) := lsJ hL
    iterate 2 (refine kst rfl rfl ?_)
    refine wjp ?_ (k41 ((x3 + 1), (h.sJ 199 (ix ((12 * a2) + x3)) (h.J 199 (ix ((12 * a1) + x3))))) hW hL)
    exact ⟨rfl, rfl, rfl, rfl, trivial⟩
theorem R323_2 {d : Nat} {a1 : Int32} {a2 : Int32} {x3 : Int32} {h : TH} {C : TH → Prop} (hL : Lay h) (hW : B323_2 a1 a2 x3 h C) : xEk d 323 (2, [(0, .ref 197), (1, .int a1), (2, .int a2), (3, .int x3)], [], h.X) (postV C) := by
  refine hW (fun s => Lay (s.2) → xEk d 323 (2, [(0, .ref 197), (1, .int a1), (2, .int a2), (3, .int (s.1))], [], (TH.X (s.2))) (postV C)) ?_ hL
  rintro ⟨x3, h⟩ hW hL
  have k2 : ∀ s : Int32 × TH, (fun s => Lay (s.2) → xEk d 323 (2, [(0, .ref 197), (1, .int a1), (2, .int a2), (3, .int (s.1))], [], (TH.X (s.2))) (postV C)) s → Lay (s.2) → xEk d 323 (2, [(0, .ref 197), (1, .int a1), (2, .int a2), (3, .int (s.1))], [], (TH.X (s.2))) (postV C) := fun s hs => hs
  unfold F323_2 at hW
  dsimp only at hW
  iterate 2 (refine kst rfl rfl ?_)
  refine wcm_ge rfl hW (fun hW => ?_) (fun hW => ?_)
  · iterate 2 (refine kst rfl rfl ?_)
    refine wjp ?_ (R323_41 (h := h) hL hW)
    exact ⟨rfl, rfl, rfl, rfl, trivial⟩
  · refine kst rfl rfl ?_
    refine wgetP (b := 198) rfl (oK12 hL rfl) rfl (oP12_0 hL) ?_
    iterate 6 (refine kst rfl rfl ?_)
    refine wgetP (b := 198) rfl (oK12 hL rfl) rfl (oP12_0 hL) ?_
    iterate 5 (refine kst rfl rfl ?_)
    obtain ⟨q1, hW⟩ := hW
    refine wald rfl (Or.inl (aK12_0 hL)) (aN12_0 hL) (by decide) q1 ?_
    obtain ⟨q2, hW⟩ := hW
    refine wast rfl (aK12_0 hL) (aN12_0 hL) (by decide) q2 ?_
    replace hL : Lay (h.sI 198 (ix ((440 * a2) + x3)) (h.I 198 (ix ((440 * a1) + x3)))) := lsI hL
    iterate 2 (refine kst rfl rfl ?_)
    refine wjp ?_ (k2 ((x3 + 1), (h.sI 198 (ix ((440 * a2) + x3)) (h.I 198 (ix ((440 * a1) + x3))))) hW hL)
    exact ⟨rfl, rfl, rfl, rfl, trivial⟩
theorem R323 {d : Nat} {a1 : Int32} {a2 : Int32} {h : TH} {C : TH → Prop} (hL : Lay h) (hW : W323 a1 a2 h C) : xPk d 323 [.ref 197, .int a1, .int a2] h.X (postV C) := by
  unfold W323 at hW
  refine kin (Nat.le_of_ble_eq_true rfl) ?_
  iterate 2 (refine kst rfl rfl ?_)
  refine wjp ?_ (R323_2 (h := h) hL hW)
  exact ⟨rfl, rfl, rfl, rfl, trivial⟩
/-- 324: FourPotsModel mark -/
def W324 (h : TH) (C : Int32 → TH → Prop) : Prop :=
  if ¬ (h.I 197 55) = 3 then (W323 0 ((h.sI 197 55 ((h.I 197 55) + 1)).I 197 55) (h.sI 197 55 ((h.I 197 55) + 1)) (fun h1 => W206 (h1.I 197 55) h1 (fun v2 h3 => C v2 h3))) else (W205 4 h (fun v4 h5 => C v4 h5))

theorem R324 {d : Nat} {h : TH} {C : Int32 → TH → Prop} (hL : Lay h) (hW : W324  h C) : xPk (d + 1) 324 [.ref 197] h.X (postI C) := by
  unfold W324 at hW
  refine kin (Nat.le_of_ble_eq_true rfl) ?_
  refine kst rfl rfl ?_
  refine wgetI rfl (oK12 hL rfl) rfl ?_
  refine kst rfl rfl ?_
  refine wcm_ne rfl hW (fun hW => ?_) (fun hW => ?_)
  · iterate 2 (refine kst rfl rfl ?_)
    refine wgetI rfl (oK12 hL rfl) rfl ?_
    iterate 2 (refine kst rfl rfl ?_)
    refine wputI rfl (oK12 hL rfl) rfl ?_
    replace hL : Lay (h.sI 197 55 ((h.I 197 55) + 1)) := lsI hL
    iterate 3 (refine kst rfl rfl ?_)
    refine wgetI rfl (oK12 hL rfl) rfl ?_
    refine wcvV rfl (oK12 hL rfl) rfl rfl (R323 (d := d + 0) (h := (h.sI 197 55 ((h.I 197 55) + 1))) hL hW) (fun h1 hL hW => ?_)
    iterate 2 (refine kst rfl rfl ?_)
    refine wgetI rfl (oK12 hL rfl) rfl ?_
    refine wcvI rfl (oK12 hL rfl) rfl rfl (R206 (d := d + 0) (h := h1) hL hW) (fun v2 h3 hL hW => ?_)
    refine kre rfl rfl ?_
    exact ⟨_, _, rfl, hL, hW⟩
  · iterate 2 (refine kst rfl rfl ?_)
    refine wcvI rfl (oK12 hL rfl) rfl rfl (R205 (d := d + 0) (h := h) hL hW) (fun v4 h5 hL hW => ?_)
    refine kre rfl rfl ?_
    exact ⟨_, _, rfl, hL, hW⟩
/-- 325: FourPotsModel back -/
def W325 (h : TH) (C : Int32 → TH → Prop) : Prop :=
  if ¬ (h.I 197 55) = 0 then (W323 (h.I 197 55) 0 h (fun h1 => W206 ((h1.sI 197 55 ((h1.I 197 55) - 1)).I 197 55) (h1.sI 197 55 ((h1.I 197 55) - 1)) (fun v2 h3 => C v2 h3))) else (W205 6 h (fun v4 h5 => C v4 h5))

theorem R325 {d : Nat} {h : TH} {C : Int32 → TH → Prop} (hL : Lay h) (hW : W325  h C) : xPk (d + 1) 325 [.ref 197] h.X (postI C) := by
  unfold W325 at hW
  refine kin (Nat.le_of_ble_eq_true rfl) ?_
  refine kst rfl rfl ?_
  refine wgetI rfl (oK12 hL rfl) rfl ?_
  refine wif_ne rfl hW (fun hW => ?_) (fun hW => ?_)
  · iterate 2 (refine kst rfl rfl ?_)
    refine wgetI rfl (oK12 hL rfl) rfl ?_
    refine kst rfl rfl ?_
    refine wcvV rfl (oK12 hL rfl) rfl rfl (R323 (d := d + 0) (h := h) hL hW) (fun h1 hL hW => ?_)
    iterate 2 (refine kst rfl rfl ?_)
    refine wgetI rfl (oK12 hL rfl) rfl ?_
    iterate 2 (refine kst rfl rfl ?_)
    refine wputI rfl (oK12 hL rfl) rfl ?_
    replace hL : Lay (h1.sI 197 55 ((h1.I 197 55) - 1)) := lsI hL
    iterate 2 (refine kst rfl rfl ?_)
    refine wgetI rfl (oK12 hL rfl) rfl ?_
    refine wcvI rfl (oK12 hL rfl) rfl rfl (R206 (d := d + 0) (h := (h1.sI 197 55 ((h1.I 197 55) - 1))) hL hW) (fun v2 h3 hL hW => ?_)
    refine kre rfl rfl ?_
    exact ⟨_, _, rfl, hL, hW⟩
  · iterate 2 (refine kst rfl rfl ?_)
    refine wcvI rfl (oK12 hL rfl) rfl rfl (R205 (d := d + 0) (h := h) hL hW) (fun v4 h5 hL hW => ?_)
    refine kre rfl rfl ?_
    exact ⟨_, _, rfl, hL, hW⟩
/-- 330: FourPotsLaw law -/
def F330_18 (C : Int32 → TH → Prop) (X18 : Int32 × TH → Prop) : Int32 × TH → Prop := fun
  | (x3, h) =>
    if ((nI (h.N 1000000)) - 6) < x3 then (C 1 h) else (inb x3 (h.N 1000000) ∧ if ((h.I 1000000 (ix x3)) &&& 63) = 0 then (W151  h (fun v1 => W201  h (fun v2 => if v1 = v2 then (X18 ((x3 + 6), h)) else (C 0 h)))) else if ((h.I 1000000 (ix x3)) &&& 63) = 1 then (W152  h (fun v3 => W202  h (fun v4 => if (lg_cmp v3 v4) = 0 then (X18 ((x3 + 6), h)) else (C 0 h)))) else if ((h.I 1000000 (ix x3)) &&& 63) = 2 then (W153  h (fun v5 => W203  h (fun v6 => if (lg_cmp v5 v6) = 0 then (X18 ((x3 + 6), h)) else (C 0 h)))) else if ((h.I 1000000 (ix x3)) &&& 63) = 3 then (inb (x3 + 1) (h.N 1000000) ∧ inb (x3 + 2) (h.N 1000000) ∧ inb (x3 + 3) (h.N 1000000) ∧ W154 (h.I 1000000 (ix (x3 + 1))) (h.I 1000000 (ix (x3 + 2))) (h.I 1000000 (ix (x3 + 3))) h (fun v7 h8 => inb (x3 + 1) (h8.N 1000000) ∧ inb (x3 + 2) (h8.N 1000000) ∧ inb (x3 + 3) (h8.N 1000000) ∧ W210 (h8.I 1000000 (ix (x3 + 1))) (h8.I 1000000 (ix (x3 + 2))) (h8.I 1000000 (ix (x3 + 3))) h8 (fun v9 h10 => if v7 = v9 then (X18 ((x3 + 6), h10)) else (C 0 h10)))) else if ((h.I 1000000 (ix x3)) &&& 63) = 4 then (inb (x3 + 1) (h.N 1000000) ∧ inb (x3 + 2) (h.N 1000000) ∧ inb (x3 + 3) (h.N 1000000) ∧ inb (x3 + 4) (h.N 1000000) ∧ W155 (h.I 1000000 (ix (x3 + 1))) (h.I 1000000 (ix (x3 + 2))) ((lshl (((h.I 1000000 (ix (x3 + 3)))).toInt64) 32) ||| (((h.I 1000000 (ix (x3 + 4)))).toInt64 &&& 4294967295)) h (fun v11 h12 => inb (x3 + 1) (h12.N 1000000) ∧ inb (x3 + 2) (h12.N 1000000) ∧ inb (x3 + 3) (h12.N 1000000) ∧ inb (x3 + 4) (h12.N 1000000) ∧ W212 (h12.I 1000000 (ix (x3 + 1))) (h12.I 1000000 (ix (x3 + 2))) ((lshl (((h12.I 1000000 (ix (x3 + 3)))).toInt64) 32) ||| (((h12.I 1000000 (ix (x3 + 4)))).toInt64 &&& 4294967295)) h12 (fun v13 h14 => if v11 = v13 then (X18 ((x3 + 6), h14)) else (C 0 h14)))) else if ((h.I 1000000 (ix x3)) &&& 63) = 5 then (inb (x3 + 1) (h.N 1000000) ∧ inb (x3 + 2) (h.N 1000000) ∧ W156 (h.I 1000000 (ix (x3 + 1))) (h.I 1000000 (ix (x3 + 2))) h (fun v15 h16 => inb (x3 + 1) (h16.N 1000000) ∧ inb (x3 + 2) (h16.N 1000000) ∧ W213 (h16.I 1000000 (ix (x3 + 1))) (h16.I 1000000 (ix (x3 + 2))) h16 (fun v17 h18 => if (lg_cmp v15 v17) = 0 then (X18 ((x3 + 6), h18)) else (C 0 h18)))) else if ((h.I 1000000 (ix x3)) &&& 63) = 6 then (inb (x3 + 1) (h.N 1000000) ∧ inb (x3 + 2) (h.N 1000000) ∧ inb (x3 + 3) (h.N 1000000) ∧ inb (x3 + 4) (h.N 1000000) ∧ inb (x3 + 5) (h.N 1000000) ∧ W157 (h.I 1000000 (ix (x3 + 1))) (h.I 1000000 (ix (x3 + 2))) (h.I 1000000 (ix (x3 + 3))) (h.I 1000000 (ix (x3 + 4))) (h.I 1000000 (ix (x3 + 5))) h (fun v19 h20 => inb (x3 + 1) (h20.N 1000000) ∧ inb (x3 + 2) (h20.N 1000000) ∧ inb (x3 + 3) (h20.N 1000000) ∧ inb (x3 + 4) (h20.N 1000000) ∧ inb (x3 + 5) (h20.N 1000000) ∧ W214 (h20.I 1000000 (ix (x3 + 1))) (h20.I 1000000 (ix (x3 + 2))) (h20.I 1000000 (ix (x3 + 3))) (h20.I 1000000 (ix (x3 + 4))) (h20.I 1000000 (ix (x3 + 5))) h20 (fun v21 h22 => if v19 = v21 then (X18 ((x3 + 6), h22)) else (C 0 h22)))) else if ((h.I 1000000 (ix x3)) &&& 63) = 7 then (inb (x3 + 1) (h.N 1000000) ∧ inb (x3 + 2) (h.N 1000000) ∧ inb (x3 + 3) (h.N 1000000) ∧ inb (x3 + 4) (h.N 1000000) ∧ inb (x3 + 5) (h.N 1000000) ∧ W158 (h.I 1000000 (ix (x3 + 1))) (h.I 1000000 (ix (x3 + 2))) (h.I 1000000 (ix (x3 + 3))) (h.I 1000000 (ix (x3 + 4))) (h.I 1000000 (ix (x3 + 5))) h (fun v23 h24 => inb (x3 + 1) (h24.N 1000000) ∧ inb (x3 + 2) (h24.N 1000000) ∧ inb (x3 + 3) (h24.N 1000000) ∧ inb (x3 + 4) (h24.N 1000000) ∧ inb (x3 + 5) (h24.N 1000000) ∧ W216 (h24.I 1000000 (ix (x3 + 1))) (h24.I 1000000 (ix (x3 + 2))) (h24.I 1000000 (ix (x3 + 3))) (h24.I 1000000 (ix (x3 + 4))) (h24.I 1000000 (ix (x3 + 5))) h24 (fun v25 h26 => if v23 = v25 then (X18 ((x3 + 6), h26)) else (C 0 h26)))) else if ((h.I 1000000 (ix x3)) &&& 63) = 8 then (inb (x3 + 1) (h.N 1000000) ∧ W159 (h.I 1000000 (ix (x3 + 1))) h (fun v27 h28 => inb (x3 + 1) (h28.N 1000000) ∧ W242 (h28.I 1000000 (ix (x3 + 1))) h28 (fun v29 h30 => if v27 = v29 then (X18 ((x3 + 6), h30)) else (C 0 h30)))) else if ((h.I 1000000 (ix x3)) &&& 63) = 9 then (inb (x3 + 1) (h.N 1000000) ∧ W160 (h.I 1000000 (ix (x3 + 1))) h (fun v31 h32 => inb (x3 + 1) (h32.N 1000000) ∧ W246 (h32.I 1000000 (ix (x3 + 1))) h32 (fun v33 h34 => if v31 = v33 then (X18 ((x3 + 6), h34)) else (C 0 h34)))) else if ((h.I 1000000 (ix x3)) &&& 63) = 10 then (inb (x3 + 1) (h.N 1000000) ∧ W161 (h.I 1000000 (ix (x3 + 1))) h (fun v35 => inb (x3 + 1) (h.N 1000000) ∧ W232 (h.I 1000000 (ix (x3 + 1))) h (fun v36 => if v35 = v36 then (X18 ((x3 + 6), h)) else (C 0 h)))) else if ((h.I 1000000 (ix x3)) &&& 63) = 11 then (inb (x3 + 1) (h.N 1000000) ∧ W162 (h.I 1000000 (ix (x3 + 1))) h (fun v37 h38 => inb (x3 + 1) (h38.N 1000000) ∧ W258 (h38.I 1000000 (ix (x3 + 1))) h38 (fun v39 h40 => if v37 = v39 then (X18 ((x3 + 6), h40)) else (C 0 h40)))) else if ((h.I 1000000 (ix x3)) &&& 63) = 12 then (inb (x3 + 1) (h.N 1000000) ∧ inb (x3 + 2) (h.N 1000000) ∧ W163 (h.I 1000000 (ix (x3 + 1))) (h.I 1000000 (ix (x3 + 2))) h (fun v41 h42 => inb (x3 + 1) (h42.N 1000000) ∧ inb (x3 + 2) (h42.N 1000000) ∧ W259 (h42.I 1000000 (ix (x3 + 1))) (h42.I 1000000 (ix (x3 + 2))) h42 (fun v43 h44 => if v41 = v43 then (X18 ((x3 + 6), h44)) else (C 0 h44)))) else if ((h.I 1000000 (ix x3)) &&& 63) = 13 then (inb (x3 + 1) (h.N 1000000) ∧ W164 (h.I 1000000 (ix (x3 + 1))) h (fun v45 h46 => inb (x3 + 1) (h46.N 1000000) ∧ W260 (h46.I 1000000 (ix (x3 + 1))) h46 (fun v47 h48 => if v45 = v47 then (X18 ((x3 + 6), h48)) else (C 0 h48)))) else if ((h.I 1000000 (ix x3)) &&& 63) = 14 then (inb (x3 + 1) (h.N 1000000) ∧ W165 (h.I 1000000 (ix (x3 + 1))) h (fun v49 h50 => inb (x3 + 1) (h50.N 1000000) ∧ W264 (h50.I 1000000 (ix (x3 + 1))) h50 (fun v51 h52 => if v49 = v51 then (X18 ((x3 + 6), h52)) else (C 0 h52)))) else if ((h.I 1000000 (ix x3)) &&& 63) = 15 then (inb (x3 + 1) (h.N 1000000) ∧ W166 (h.I 1000000 (ix (x3 + 1))) h (fun v53 h54 => inb (x3 + 1) (h54.N 1000000) ∧ W266 (h54.I 1000000 (ix (x3 + 1))) h54 (fun v55 h56 => if v53 = v55 then (X18 ((x3 + 6), h56)) else (C 0 h56)))) else if ((h.I 1000000 (ix x3)) &&& 63) = 16 then (inb (x3 + 1) (h.N 1000000) ∧ W167 (h.I 1000000 (ix (x3 + 1))) h (fun v57 h58 => inb (x3 + 1) (h58.N 1000000) ∧ W277 (h58.I 1000000 (ix (x3 + 1))) h58 (fun v59 h60 => if v57 = v59 then (X18 ((x3 + 6), h60)) else (C 0 h60)))) else if ((h.I 1000000 (ix x3)) &&& 63) = 17 then (inb (x3 + 1) (h.N 1000000) ∧ inb (x3 + 2) (h.N 1000000) ∧ W168 (h.I 1000000 (ix (x3 + 1))) (h.I 1000000 (ix (x3 + 2))) h (fun v61 h62 => inb (x3 + 1) (h62.N 1000000) ∧ inb (x3 + 2) (h62.N 1000000) ∧ W278 (h62.I 1000000 (ix (x3 + 1))) (h62.I 1000000 (ix (x3 + 2))) h62 (fun v63 h64 => if v61 = v63 then (X18 ((x3 + 6), h64)) else (C 0 h64)))) else if ((h.I 1000000 (ix x3)) &&& 63) = 18 then (inb (x3 + 1) (h.N 1000000) ∧ W169 (h.I 1000000 (ix (x3 + 1))) h (fun v65 h66 => inb (x3 + 1) (h66.N 1000000) ∧ W279 (h66.I 1000000 (ix (x3 + 1))) h66 (fun v67 h68 => if v65 = v67 then (X18 ((x3 + 6), h68)) else (C 0 h68)))) else if ((h.I 1000000 (ix x3)) &&& 63) = 19 then (inb (x3 + 1) (h.N 1000000) ∧ W170 (h.I 1000000 (ix (x3 + 1))) h (fun v69 h70 => inb (x3 + 1) (h70.N 1000000) ∧ W280 (h70.I 1000000 (ix (x3 + 1))) h70 (fun v71 h72 => if v69 = v71 then (X18 ((x3 + 6), h72)) else (C 0 h72)))) else if ((h.I 1000000 (ix x3)) &&& 63) = 20 then (inb (x3 + 1) (h.N 1000000) ∧ W171 (h.I 1000000 (ix (x3 + 1))) h (fun v73 h74 => inb (x3 + 1) (h74.N 1000000) ∧ W281 (h74.I 1000000 (ix (x3 + 1))) h74 (fun v75 h76 => if v73 = v75 then (X18 ((x3 + 6), h76)) else (C 0 h76)))) else if ((h.I 1000000 (ix x3)) &&& 63) = 21 then (inb (x3 + 1) (h.N 1000000) ∧ W172 (h.I 1000000 (ix (x3 + 1))) h (fun v77 h78 => inb (x3 + 1) (h78.N 1000000) ∧ W282 (h78.I 1000000 (ix (x3 + 1))) h78 (fun v79 h80 => if v77 = v79 then (X18 ((x3 + 6), h80)) else (C 0 h80)))) else if ((h.I 1000000 (ix x3)) &&& 63) = 22 then (W173  h (fun v81 h82 => W283  h82 (fun v83 h84 => if v81 = v83 then (X18 ((x3 + 6), h84)) else (C 0 h84)))) else if ((h.I 1000000 (ix x3)) &&& 63) = 23 then (inb (x3 + 1) (h.N 1000000) ∧ W174 (h.I 1000000 (ix (x3 + 1))) h (fun v85 h86 => inb (x3 + 1) (h86.N 1000000) ∧ W289 (h86.I 1000000 (ix (x3 + 1))) h86 (fun v87 h88 => if v85 = v87 then (X18 ((x3 + 6), h88)) else (C 0 h88)))) else if ((h.I 1000000 (ix x3)) &&& 63) = 24 then (inb (x3 + 1) (h.N 1000000) ∧ W175 (h.I 1000000 (ix (x3 + 1))) h (fun v89 h90 => inb (x3 + 1) (h90.N 1000000) ∧ W290 (h90.I 1000000 (ix (x3 + 1))) h90 (fun v91 h92 => if v89 = v91 then (X18 ((x3 + 6), h92)) else (C 0 h92)))) else if ((h.I 1000000 (ix x3)) &&& 63) = 25 then (inb (x3 + 1) (h.N 1000000) ∧ W176 (h.I 1000000 (ix (x3 + 1))) h (fun v93 h94 => inb (x3 + 1) (h94.N 1000000) ∧ W293 (h94.I 1000000 (ix (x3 + 1))) h94 (fun v95 h96 => if v93 = v95 then (X18 ((x3 + 6), h96)) else (C 0 h96)))) else if ((h.I 1000000 (ix x3)) &&& 63) = 26 then (inb (x3 + 1) (h.N 1000000) ∧ inb (x3 + 2) (h.N 1000000) ∧ W177 (h.I 1000000 (ix (x3 + 1))) (h.I 1000000 (ix (x3 + 2))) h (fun v97 h98 => inb (x3 + 1) (h98.N 1000000) ∧ inb (x3 + 2) (h98.N 1000000) ∧ W294 (h98.I 1000000 (ix (x3 + 1))) (h98.I 1000000 (ix (x3 + 2))) h98 (fun v99 h100 => if v97 = v99 then (X18 ((x3 + 6), h100)) else (C 0 h100)))) else if ((h.I 1000000 (ix x3)) &&& 63) = 27 then (inb (x3 + 1) (h.N 1000000) ∧ W178 (h.I 1000000 (ix (x3 + 1))) h (fun v101 h102 => inb (x3 + 1) (h102.N 1000000) ∧ W297 (h102.I 1000000 (ix (x3 + 1))) h102 (fun v103 h104 => if v101 = v103 then (X18 ((x3 + 6), h104)) else (C 0 h104)))) else if ((h.I 1000000 (ix x3)) &&& 63) = 28 then (inb (x3 + 1) (h.N 1000000) ∧ inb (x3 + 2) (h.N 1000000) ∧ W179 (h.I 1000000 (ix (x3 + 1))) (h.I 1000000 (ix (x3 + 2))) h (fun v105 h106 => inb (x3 + 1) (h106.N 1000000) ∧ inb (x3 + 2) (h106.N 1000000) ∧ W298 (h106.I 1000000 (ix (x3 + 1))) (h106.I 1000000 (ix (x3 + 2))) h106 (fun v107 h108 => if v105 = v107 then (X18 ((x3 + 6), h108)) else (C 0 h108)))) else if ((h.I 1000000 (ix x3)) &&& 63) = 29 then (inb (x3 + 1) (h.N 1000000) ∧ W180 (h.I 1000000 (ix (x3 + 1))) h (fun v109 h110 => inb (x3 + 1) (h110.N 1000000) ∧ W303 (h110.I 1000000 (ix (x3 + 1))) h110 (fun v111 h112 => if v109 = v111 then (X18 ((x3 + 6), h112)) else (C 0 h112)))) else if ((h.I 1000000 (ix x3)) &&& 63) = 30 then (inb (x3 + 1) (h.N 1000000) ∧ W181 (h.I 1000000 (ix (x3 + 1))) h (fun v113 h114 => inb (x3 + 1) (h114.N 1000000) ∧ W305 (h114.I 1000000 (ix (x3 + 1))) h114 (fun v115 h116 => if v113 = v115 then (X18 ((x3 + 6), h116)) else (C 0 h116)))) else if ((h.I 1000000 (ix x3)) &&& 63) = 31 then (inb (x3 + 1) (h.N 1000000) ∧ W182 (h.I 1000000 (ix (x3 + 1))) h (fun v117 h118 => inb (x3 + 1) (h118.N 1000000) ∧ W307 (h118.I 1000000 (ix (x3 + 1))) h118 (fun v119 h120 => if v117 = v119 then (X18 ((x3 + 6), h120)) else (C 0 h120)))) else if ((h.I 1000000 (ix x3)) &&& 63) = 32 then (inb (x3 + 1) (h.N 1000000) ∧ inb (x3 + 2) (h.N 1000000) ∧ W183 (h.I 1000000 (ix (x3 + 1))) (h.I 1000000 (ix (x3 + 2))) h (fun v121 h122 => inb (x3 + 1) (h122.N 1000000) ∧ inb (x3 + 2) (h122.N 1000000) ∧ W309 (h122.I 1000000 (ix (x3 + 1))) (h122.I 1000000 (ix (x3 + 2))) h122 (fun v123 h124 => if v121 = v123 then (X18 ((x3 + 6), h124)) else (C 0 h124)))) else if ((h.I 1000000 (ix x3)) &&& 63) = 33 then (inb (x3 + 1) (h.N 1000000) ∧ inb (x3 + 2) (h.N 1000000) ∧ W184 (h.I 1000000 (ix (x3 + 1))) (h.I 1000000 (ix (x3 + 2))) h (fun v125 h126 => inb (x3 + 1) (h126.N 1000000) ∧ inb (x3 + 2) (h126.N 1000000) ∧ W310 (h126.I 1000000 (ix (x3 + 1))) (h126.I 1000000 (ix (x3 + 2))) h126 (fun v127 h128 => if v125 = v127 then (X18 ((x3 + 6), h128)) else (C 0 h128)))) else if ((h.I 1000000 (ix x3)) &&& 63) = 34 then (inb (x3 + 1) (h.N 1000000) ∧ W185 (h.I 1000000 (ix (x3 + 1))) h (fun v129 h130 => inb (x3 + 1) (h130.N 1000000) ∧ W311 (h130.I 1000000 (ix (x3 + 1))) h130 (fun v131 h132 => if v129 = v131 then (X18 ((x3 + 6), h132)) else (C 0 h132)))) else if ((h.I 1000000 (ix x3)) &&& 63) = 35 then (inb (x3 + 1) (h.N 1000000) ∧ W186 (h.I 1000000 (ix (x3 + 1))) h (fun v133 h134 => inb (x3 + 1) (h134.N 1000000) ∧ W319 (h134.I 1000000 (ix (x3 + 1))) h134 (fun v135 h136 => if v133 = v135 then (X18 ((x3 + 6), h136)) else (C 0 h136)))) else if ((h.I 1000000 (ix x3)) &&& 63) = 36 then (inb (x3 + 1) (h.N 1000000) ∧ W187 (h.I 1000000 (ix (x3 + 1))) h (fun v137 h138 => inb (x3 + 1) (h138.N 1000000) ∧ W320 (h138.I 1000000 (ix (x3 + 1))) h138 (fun v139 h140 => if v137 = v139 then (X18 ((x3 + 6), h140)) else (C 0 h140)))) else if ((h.I 1000000 (ix x3)) &&& 63) = 37 then (W188  h (fun v141 h142 => W321  h142 (fun v143 h144 => if v141 = v143 then (X18 ((x3 + 6), h144)) else (C 0 h144)))) else if ((h.I 1000000 (ix x3)) &&& 63) = 38 then (inb (x3 + 1) (h.N 1000000) ∧ inb (x3 + 2) (h.N 1000000) ∧ inb (x3 + 3) (h.N 1000000) ∧ W189 (h.I 1000000 (ix (x3 + 1))) (h.I 1000000 (ix (x3 + 2))) (h.I 1000000 (ix (x3 + 3))) h (fun v145 h146 => inb (x3 + 1) (h146.N 1000000) ∧ inb (x3 + 2) (h146.N 1000000) ∧ inb (x3 + 3) (h146.N 1000000) ∧ W322 (h146.I 1000000 (ix (x3 + 1))) (h146.I 1000000 (ix (x3 + 2))) (h146.I 1000000 (ix (x3 + 3))) h146 (fun v147 h148 => if v145 = v147 then (X18 ((x3 + 6), h148)) else (C 0 h148)))) else if ((h.I 1000000 (ix x3)) &&& 63) = 39 then (W190  h (fun v149 h150 => W324  h150 (fun v151 h152 => if v149 = v151 then (X18 ((x3 + 6), h152)) else (C 0 h152)))) else if ((h.I 1000000 (ix x3)) &&& 63) = 40 then (W191  h (fun v153 h154 => W325  h154 (fun v155 h156 => if v153 = v155 then (X18 ((x3 + 6), h156)) else (C 0 h156)))) else (X18 ((x3 + 6), h)))
def B330_18 (x3 : Int32) (h : TH) (C : Int32 → TH → Prop) : Prop := LFP (F330_18 C) (x3, h)

theorem R330_18 {d : Nat} {x3 : Int32} {h : TH} {C : Int32 → TH → Prop} (hL : Lay h) (hW : B330_18 x3 h C) : xEk (d + 9) 330 (18, [(0, .ref 1000000), (1, .ref 0), (2, .ref 197), (3, .int x3)], [], h.X) (postI C) := by
  refine hW (fun s => Lay (s.2) → xEk (d + 9) 330 (18, [(0, .ref 1000000), (1, .ref 0), (2, .ref 197), (3, .int (s.1))], [], (TH.X (s.2))) (postI C)) ?_ hL
  rintro ⟨x3, h⟩ hW hL
  have k18 : ∀ s : Int32 × TH, (fun s => Lay (s.2) → xEk (d + 9) 330 (18, [(0, .ref 1000000), (1, .ref 0), (2, .ref 197), (3, .int (s.1))], [], (TH.X (s.2))) (postI C)) s → Lay (s.2) → xEk (d + 9) 330 (18, [(0, .ref 1000000), (1, .ref 0), (2, .ref 197), (3, .int (s.1))], [], (TH.X (s.2))) (postI C) := fun s hs => hs
  unfold F330_18 at hW
  dsimp only at hW
  iterate 2 (refine kst rfl rfl ?_)
  refine walen (kd := 8) rfl (sK hL) (by decide) rfl ?_
  iterate 2 (refine kst rfl rfl ?_)
  refine wcm_gt rfl hW (fun hW => ?_) (fun hW => ?_)
  · refine kst rfl rfl ?_
    refine kre rfl rfl ?_
    exact ⟨_, _, rfl, hL, hW⟩
  · iterate 2 (refine kst rfl rfl ?_)
    obtain ⟨q1, hW⟩ := hW
    refine wald rfl (Or.inr (sK hL)) rfl (sN hL) q1 ?_
    iterate 2 (refine kst rfl rfl ?_)
    refine wsw hW (fun c0 hW => ?_) (fun c0 hW => ?_)
    · refine wswi (t := 212) rfl (fun _ => rfl) (by rw [c0]; rfl) ?_
      refine kst rfl rfl ?_
      refine qcvI rfl (oK11 hL rfl) rfl rfl (R151 (d := d + 8) (h := h) hL hW) (fun v1 hW => ?_)
      refine kst rfl rfl ?_
      refine qcvI rfl (oK12 hL rfl) rfl rfl (R201 (d := d + 8) (h := h) hL hW) (fun v2 hW => ?_)
      refine wcm_eq rfl hW (fun hW => ?_) (fun hW => ?_)
      · iterate 2 (refine kst rfl rfl ?_)
        refine wjp ?_ (k18 ((x3 + 6), h) hW hL)
        exact ⟨rfl, rfl, rfl, rfl, trivial⟩
      · refine kst rfl rfl ?_
        refine kre rfl rfl ?_
        exact ⟨_, _, rfl, hL, hW⟩
    refine wsw hW (fun c1 hW => ?_) (fun c1 hW => ?_)
    · refine wswi (t := 225) rfl (fun _ => rfl) (by rw [c1]; rfl) ?_
      refine kst rfl rfl ?_
      refine qcvL rfl (oK11 hL rfl) rfl rfl (R152 (d := d + 8) (h := h) hL hW) (fun v3 hW => ?_)
      refine kst rfl rfl ?_
      refine qcvL rfl (oK12 hL rfl) rfl rfl (R202 (d := d + 8) (h := h) hL hW) (fun v4 hW => ?_)
      refine kst rfl rfl ?_
      refine wif_eq rfl hW (fun hW => ?_) (fun hW => ?_)
      · iterate 2 (refine kst rfl rfl ?_)
        refine wjp ?_ (k18 ((x3 + 6), h) hW hL)
        exact ⟨rfl, rfl, rfl, rfl, trivial⟩
      · refine kst rfl rfl ?_
        refine kre rfl rfl ?_
        exact ⟨_, _, rfl, hL, hW⟩
    refine wsw hW (fun c2 hW => ?_) (fun c2 hW => ?_)
    · refine wswi (t := 239) rfl (fun _ => rfl) (by rw [c2]; rfl) ?_
      refine kst rfl rfl ?_
      refine qcvL rfl (oK11 hL rfl) rfl rfl (R153 (d := d + 8) (h := h) hL hW) (fun v5 hW => ?_)
      refine kst rfl rfl ?_
      refine qcvL rfl (oK12 hL rfl) rfl rfl (R203 (d := d + 8) (h := h) hL hW) (fun v6 hW => ?_)
      refine kst rfl rfl ?_
      refine wif_eq rfl hW (fun hW => ?_) (fun hW => ?_)
      · iterate 2 (refine kst rfl rfl ?_)
        refine wjp ?_ (k18 ((x3 + 6), h) hW hL)
        exact ⟨rfl, rfl, rfl, rfl, trivial⟩
      · refine kst rfl rfl ?_
        refine kre rfl rfl ?_
        exact ⟨_, _, rfl, hL, hW⟩
    refine wsw hW (fun c3 hW => ?_) (fun c3 hW => ?_)
    · refine wswi (t := 253) rfl (fun _ => rfl) (by rw [c3]; rfl) ?_
      iterate 5 (refine kst rfl rfl ?_)
      obtain ⟨q2, hW⟩ := hW
      refine wald rfl (Or.inr (sK hL)) rfl (sN hL) q2 ?_
      iterate 4 (refine kst rfl rfl ?_)
      obtain ⟨q3, hW⟩ := hW
      refine wald rfl (Or.inr (sK hL)) rfl (sN hL) q3 ?_
      iterate 4 (refine kst rfl rfl ?_)
      obtain ⟨q4, hW⟩ := hW
      refine wald rfl (Or.inr (sK hL)) rfl (sN hL) q4 ?_
      refine wcvI rfl (oK11 hL rfl) rfl rfl (R154 (d := d + 6) (h := h) hL hW) (fun v7 h8 hL hW => ?_)
      iterate 5 (refine kst rfl rfl ?_)
      obtain ⟨q5, hW⟩ := hW
      refine wald rfl (Or.inr (sK hL)) rfl (sN hL) q5 ?_
      iterate 4 (refine kst rfl rfl ?_)
      obtain ⟨q6, hW⟩ := hW
      refine wald rfl (Or.inr (sK hL)) rfl (sN hL) q6 ?_
      iterate 4 (refine kst rfl rfl ?_)
      obtain ⟨q7, hW⟩ := hW
      refine wald rfl (Or.inr (sK hL)) rfl (sN hL) q7 ?_
      refine wcvI rfl (oK12 hL rfl) rfl rfl (R210 (d := d + 7) (h := h8) hL hW) (fun v9 h10 hL hW => ?_)
      refine wcm_eq rfl hW (fun hW => ?_) (fun hW => ?_)
      · iterate 2 (refine kst rfl rfl ?_)
        refine wjp ?_ (k18 ((x3 + 6), h10) hW hL)
        exact ⟨rfl, rfl, rfl, rfl, trivial⟩
      · refine kst rfl rfl ?_
        refine kre rfl rfl ?_
        exact ⟨_, _, rfl, hL, hW⟩
    refine wsw hW (fun c4 hW => ?_) (fun c4 hW => ?_)
    · refine wswi (t := 296) rfl (fun _ => rfl) (by rw [c4]; rfl) ?_
      iterate 5 (refine kst rfl rfl ?_)
      obtain ⟨q8, hW⟩ := hW
      refine wald rfl (Or.inr (sK hL)) rfl (sN hL) q8 ?_
      iterate 4 (refine kst rfl rfl ?_)
      obtain ⟨q9, hW⟩ := hW
      refine wald rfl (Or.inr (sK hL)) rfl (sN hL) q9 ?_
      iterate 4 (refine kst rfl rfl ?_)
      obtain ⟨q10, hW⟩ := hW
      refine wald rfl (Or.inr (sK hL)) rfl (sN hL) q10 ?_
      iterate 7 (refine kst rfl rfl ?_)
      obtain ⟨q11, hW⟩ := hW
      refine wald rfl (Or.inr (sK hL)) rfl (sN hL) q11 ?_
      iterate 4 (refine kst rfl rfl ?_)
      refine wcvI rfl (oK11 hL rfl) rfl rfl (R155 (d := d + 6) (h := h) hL hW) (fun v11 h12 hL hW => ?_)
      iterate 5 (refine kst rfl rfl ?_)
      obtain ⟨q12, hW⟩ := hW
      refine wald rfl (Or.inr (sK hL)) rfl (sN hL) q12 ?_
      iterate 4 (refine kst rfl rfl ?_)
      obtain ⟨q13, hW⟩ := hW
      refine wald rfl (Or.inr (sK hL)) rfl (sN hL) q13 ?_
      iterate 4 (refine kst rfl rfl ?_)
      obtain ⟨q14, hW⟩ := hW
      refine wald rfl (Or.inr (sK hL)) rfl (sN hL) q14 ?_
      iterate 7 (refine kst rfl rfl ?_)
      obtain ⟨q15, hW⟩ := hW
      refine wald rfl (Or.inr (sK hL)) rfl (sN hL) q15 ?_
      iterate 4 (refine kst rfl rfl ?_)
      refine wcvI rfl (oK12 hL rfl) rfl rfl (R212 (d := d + 6) (h := h12) hL hW) (fun v13 h14 hL hW => ?_)
      refine wcm_eq rfl hW (fun hW => ?_) (fun hW => ?_)
      · iterate 2 (refine kst rfl rfl ?_)
        refine wjp ?_ (k18 ((x3 + 6), h14) hW hL)
        exact ⟨rfl, rfl, rfl, rfl, trivial⟩
      · refine kst rfl rfl ?_
        refine kre rfl rfl ?_
        exact ⟨_, _, rfl, hL, hW⟩
    refine wsw hW (fun c5 hW => ?_) (fun c5 hW => ?_)
    · refine wswi (t := 369) rfl (fun _ => rfl) (by rw [c5]; rfl) ?_
      iterate 5 (refine kst rfl rfl ?_)
      obtain ⟨q16, hW⟩ := hW
      refine wald rfl (Or.inr (sK hL)) rfl (sN hL) q16 ?_
      iterate 4 (refine kst rfl rfl ?_)
      obtain ⟨q17, hW⟩ := hW
      refine wald rfl (Or.inr (sK hL)) rfl (sN hL) q17 ?_
      refine wcvL rfl (oK11 hL rfl) rfl rfl (R156 (d := d + 6) (h := h) hL hW) (fun v15 h16 hL hW => ?_)
      iterate 5 (refine kst rfl rfl ?_)
      obtain ⟨q18, hW⟩ := hW
      refine wald rfl (Or.inr (sK hL)) rfl (sN hL) q18 ?_
      iterate 4 (refine kst rfl rfl ?_)
      obtain ⟨q19, hW⟩ := hW
      refine wald rfl (Or.inr (sK hL)) rfl (sN hL) q19 ?_
      refine wcvL rfl (oK12 hL rfl) rfl rfl (R213 (d := d + 6) (h := h16) hL hW) (fun v17 h18 hL hW => ?_)
      refine kst rfl rfl ?_
      refine wif_eq rfl hW (fun hW => ?_) (fun hW => ?_)
      · iterate 2 (refine kst rfl rfl ?_)
        refine wjp ?_ (k18 ((x3 + 6), h18) hW hL)
        exact ⟨rfl, rfl, rfl, rfl, trivial⟩
      · refine kst rfl rfl ?_
        refine kre rfl rfl ?_
        exact ⟨_, _, rfl, hL, hW⟩
    refine wsw hW (fun c6 hW => ?_) (fun c6 hW => ?_)
    · refine wswi (t := 403) rfl (fun _ => rfl) (by rw [c6]; rfl) ?_
      iterate 5 (refine kst rfl rfl ?_)
      obtain ⟨q20, hW⟩ := hW
      refine wald rfl (Or.inr (sK hL)) rfl (sN hL) q20 ?_
      iterate 4 (refine kst rfl rfl ?_)
      obtain ⟨q21, hW⟩ := hW
      refine wald rfl (Or.inr (sK hL)) rfl (sN hL) q21 ?_
      iterate 4 (refine kst rfl rfl ?_)
      obtain ⟨q22, hW⟩ := hW
      refine wald rfl (Or.inr (sK hL)) rfl (sN hL) q22 ?_
      iterate 4 (refine kst rfl rfl ?_)
      obtain ⟨q23, hW⟩ := hW
      refine wald rfl (Or.inr (sK hL)) rfl (sN hL) q23 ?_
      iterate 4 (refine kst rfl rfl ?_)
      obtain ⟨q24, hW⟩ := hW
      refine wald rfl (Or.inr (sK hL)) rfl (sN hL) q24 ?_
      refine wcvI rfl (oK11 hL rfl) rfl rfl (R157 (d := d + 7) (h := h) hL hW) (fun v19 h20 hL hW => ?_)
      iterate 5 (refine kst rfl rfl ?_)
      obtain ⟨q25, hW⟩ := hW
      refine wald rfl (Or.inr (sK hL)) rfl (sN hL) q25 ?_
      iterate 4 (refine kst rfl rfl ?_)
      obtain ⟨q26, hW⟩ := hW
      refine wald rfl (Or.inr (sK hL)) rfl (sN hL) q26 ?_
      iterate 4 (refine kst rfl rfl ?_)
      obtain ⟨q27, hW⟩ := hW
      refine wald rfl (Or.inr (sK hL)) rfl (sN hL) q27 ?_
      iterate 4 (refine kst rfl rfl ?_)
      obtain ⟨q28, hW⟩ := hW
      refine wald rfl (Or.inr (sK hL)) rfl (sN hL) q28 ?_
      iterate 4 (refine kst rfl rfl ?_)
      obtain ⟨q29, hW⟩ := hW
      refine wald rfl (Or.inr (sK hL)) rfl (sN hL) q29 ?_
      refine wcvI rfl (oK12 hL rfl) rfl rfl (R214 (d := d + 7) (h := h20) hL hW) (fun v21 h22 hL hW => ?_)
      refine wcm_eq rfl hW (fun hW => ?_) (fun hW => ?_)
      · iterate 2 (refine kst rfl rfl ?_)
        refine wjp ?_ (k18 ((x3 + 6), h22) hW hL)
        exact ⟨rfl, rfl, rfl, rfl, trivial⟩
      · refine kst rfl rfl ?_
        refine kre rfl rfl ?_
        exact ⟨_, _, rfl, hL, hW⟩
    refine wsw hW (fun c7 hW => ?_) (fun c7 hW => ?_)
    · refine wswi (t := 466) rfl (fun _ => rfl) (by rw [c7]; rfl) ?_
      iterate 5 (refine kst rfl rfl ?_)
      obtain ⟨q30, hW⟩ := hW
      refine wald rfl (Or.inr (sK hL)) rfl (sN hL) q30 ?_
      iterate 4 (refine kst rfl rfl ?_)
      obtain ⟨q31, hW⟩ := hW
      refine wald rfl (Or.inr (sK hL)) rfl (sN hL) q31 ?_
      iterate 4 (refine kst rfl rfl ?_)
      obtain ⟨q32, hW⟩ := hW
      refine wald rfl (Or.inr (sK hL)) rfl (sN hL) q32 ?_
      iterate 4 (refine kst rfl rfl ?_)
      obtain ⟨q33, hW⟩ := hW
      refine wald rfl (Or.inr (sK hL)) rfl (sN hL) q33 ?_
      iterate 4 (refine kst rfl rfl ?_)
      obtain ⟨q34, hW⟩ := hW
      refine wald rfl (Or.inr (sK hL)) rfl (sN hL) q34 ?_
      refine wcvI rfl (oK11 hL rfl) rfl rfl (R158 (d := d + 7) (h := h) hL hW) (fun v23 h24 hL hW => ?_)
      iterate 5 (refine kst rfl rfl ?_)
      obtain ⟨q35, hW⟩ := hW
      refine wald rfl (Or.inr (sK hL)) rfl (sN hL) q35 ?_
      iterate 4 (refine kst rfl rfl ?_)
      obtain ⟨q36, hW⟩ := hW
      refine wald rfl (Or.inr (sK hL)) rfl (sN hL) q36 ?_
      iterate 4 (refine kst rfl rfl ?_)
      obtain ⟨q37, hW⟩ := hW
      refine wald rfl (Or.inr (sK hL)) rfl (sN hL) q37 ?_
      iterate 4 (refine kst rfl rfl ?_)
      obtain ⟨q38, hW⟩ := hW
      refine wald rfl (Or.inr (sK hL)) rfl (sN hL) q38 ?_
      iterate 4 (refine kst rfl rfl ?_)
      obtain ⟨q39, hW⟩ := hW
      refine wald rfl (Or.inr (sK hL)) rfl (sN hL) q39 ?_
      refine wcvI rfl (oK12 hL rfl) rfl rfl (R216 (d := d + 7) (h := h24) hL hW) (fun v25 h26 hL hW => ?_)
      refine wcm_eq rfl hW (fun hW => ?_) (fun hW => ?_)
      · iterate 2 (refine kst rfl rfl ?_)
        refine wjp ?_ (k18 ((x3 + 6), h26) hW hL)
        exact ⟨rfl, rfl, rfl, rfl, trivial⟩
      · refine kst rfl rfl ?_
        refine kre rfl rfl ?_
        exact ⟨_, _, rfl, hL, hW⟩
    refine wsw hW (fun c8 hW => ?_) (fun c8 hW => ?_)
    · refine wswi (t := 529) rfl (fun _ => rfl) (by rw [c8]; rfl) ?_
      iterate 5 (refine kst rfl rfl ?_)
      obtain ⟨q40, hW⟩ := hW
      refine wald rfl (Or.inr (sK hL)) rfl (sN hL) q40 ?_
      refine wcvI rfl (oK11 hL rfl) rfl rfl (R159 (d := d + 1) (h := h) hL hW) (fun v27 h28 hL hW => ?_)
      iterate 5 (refine kst rfl rfl ?_)
      obtain ⟨q41, hW⟩ := hW
      refine wald rfl (Or.inr (sK hL)) rfl (sN hL) q41 ?_
      refine wcvI rfl (oK12 hL rfl) rfl rfl (R242 (d := d + 2) (h := h28) hL hW) (fun v29 h30 hL hW => ?_)
      refine wcm_eq rfl hW (fun hW => ?_) (fun hW => ?_)
      · iterate 2 (refine kst rfl rfl ?_)
        refine wjp ?_ (k18 ((x3 + 6), h30) hW hL)
        exact ⟨rfl, rfl, rfl, rfl, trivial⟩
      · refine kst rfl rfl ?_
        refine kre rfl rfl ?_
        exact ⟨_, _, rfl, hL, hW⟩
    refine wsw hW (fun c9 hW => ?_) (fun c9 hW => ?_)
    · refine wswi (t := 552) rfl (fun _ => rfl) (by rw [c9]; rfl) ?_
      iterate 5 (refine kst rfl rfl ?_)
      obtain ⟨q42, hW⟩ := hW
      refine wald rfl (Or.inr (sK hL)) rfl (sN hL) q42 ?_
      refine wcvI rfl (oK11 hL rfl) rfl rfl (R160 (d := d + 1) (h := h) hL hW) (fun v31 h32 hL hW => ?_)
      iterate 5 (refine kst rfl rfl ?_)
      obtain ⟨q43, hW⟩ := hW
      refine wald rfl (Or.inr (sK hL)) rfl (sN hL) q43 ?_
      refine wcvI rfl (oK12 hL rfl) rfl rfl (R246 (d := d + 1) (h := h32) hL hW) (fun v33 h34 hL hW => ?_)
      refine wcm_eq rfl hW (fun hW => ?_) (fun hW => ?_)
      · iterate 2 (refine kst rfl rfl ?_)
        refine wjp ?_ (k18 ((x3 + 6), h34) hW hL)
        exact ⟨rfl, rfl, rfl, rfl, trivial⟩
      · refine kst rfl rfl ?_
        refine kre rfl rfl ?_
        exact ⟨_, _, rfl, hL, hW⟩
    refine wsw hW (fun c10 hW => ?_) (fun c10 hW => ?_)
    · refine wswi (t := 575) rfl (fun _ => rfl) (by rw [c10]; rfl) ?_
      iterate 5 (refine kst rfl rfl ?_)
      obtain ⟨q44, hW⟩ := hW
      refine wald rfl (Or.inr (sK hL)) rfl (sN hL) q44 ?_
      refine qcvI rfl (oK11 hL rfl) rfl rfl (R161 (d := d + 8) (h := h) hL hW) (fun v35 hW => ?_)
      iterate 5 (refine kst rfl rfl ?_)
      obtain ⟨q45, hW⟩ := hW
      refine wald rfl (Or.inr (sK hL)) rfl (sN hL) q45 ?_
      refine qcvI rfl (oK12 hL rfl) rfl rfl (R232 (d := d + 8) (h := h) hL hW) (fun v36 hW => ?_)
      refine wcm_eq rfl hW (fun hW => ?_) (fun hW => ?_)
      · iterate 2 (refine kst rfl rfl ?_)
        refine wjp ?_ (k18 ((x3 + 6), h) hW hL)
        exact ⟨rfl, rfl, rfl, rfl, trivial⟩
      · refine kst rfl rfl ?_
        refine kre rfl rfl ?_
        exact ⟨_, _, rfl, hL, hW⟩
    refine wsw hW (fun c11 hW => ?_) (fun c11 hW => ?_)
    · refine wswi (t := 598) rfl (fun _ => rfl) (by rw [c11]; rfl) ?_
      iterate 5 (refine kst rfl rfl ?_)
      obtain ⟨q46, hW⟩ := hW
      refine wald rfl (Or.inr (sK hL)) rfl (sN hL) q46 ?_
      refine wcvI rfl (oK11 hL rfl) rfl rfl (R162 (d := d + 7) (h := h) hL hW) (fun v37 h38 hL hW => ?_)
      iterate 5 (refine kst rfl rfl ?_)
      obtain ⟨q47, hW⟩ := hW
      refine wald rfl (Or.inr (sK hL)) rfl (sN hL) q47 ?_
      refine wcvI rfl (oK12 hL rfl) rfl rfl (R258 (d := d + 7) (h := h38) hL hW) (fun v39 h40 hL hW => ?_)
      refine wcm_eq rfl hW (fun hW => ?_) (fun hW => ?_)
      · iterate 2 (refine kst rfl rfl ?_)
        refine wjp ?_ (k18 ((x3 + 6), h40) hW hL)
        exact ⟨rfl, rfl, rfl, rfl, trivial⟩
      · refine kst rfl rfl ?_
        refine kre rfl rfl ?_
        exact ⟨_, _, rfl, hL, hW⟩
    refine wsw hW (fun c12 hW => ?_) (fun c12 hW => ?_)
    · refine wswi (t := 621) rfl (fun _ => rfl) (by rw [c12]; rfl) ?_
      iterate 5 (refine kst rfl rfl ?_)
      obtain ⟨q48, hW⟩ := hW
      refine wald rfl (Or.inr (sK hL)) rfl (sN hL) q48 ?_
      iterate 4 (refine kst rfl rfl ?_)
      obtain ⟨q49, hW⟩ := hW
      refine wald rfl (Or.inr (sK hL)) rfl (sN hL) q49 ?_
      refine wcvI rfl (oK11 hL rfl) rfl rfl (R163 (d := d + 6) (h := h) hL hW) (fun v41 h42 hL hW => ?_)
      iterate 5 (refine kst rfl rfl ?_)
      obtain ⟨q50, hW⟩ := hW
      refine wald rfl (Or.inr (sK hL)) rfl (sN hL) q50 ?_
      iterate 4 (refine kst rfl rfl ?_)
      obtain ⟨q51, hW⟩ := hW
      refine wald rfl (Or.inr (sK hL)) rfl (sN hL) q51 ?_
      refine wcvI rfl (oK12 hL rfl) rfl rfl (R259 (d := d + 6) (h := h42) hL hW) (fun v43 h44 hL hW => ?_)
      refine wcm_eq rfl hW (fun hW => ?_) (fun hW => ?_)
      · iterate 2 (refine kst rfl rfl ?_)
        refine wjp ?_ (k18 ((x3 + 6), h44) hW hL)
        exact ⟨rfl, rfl, rfl, rfl, trivial⟩
      · refine kst rfl rfl ?_
        refine kre rfl rfl ?_
        exact ⟨_, _, rfl, hL, hW⟩
    refine wsw hW (fun c13 hW => ?_) (fun c13 hW => ?_)
    · refine wswi (t := 654) rfl (fun _ => rfl) (by rw [c13]; rfl) ?_
      iterate 5 (refine kst rfl rfl ?_)
      obtain ⟨q52, hW⟩ := hW
      refine wald rfl (Or.inr (sK hL)) rfl (sN hL) q52 ?_
      refine wcvI rfl (oK11 hL rfl) rfl rfl (R164 (d := d + 7) (h := h) hL hW) (fun v45 h46 hL hW => ?_)
      iterate 5 (refine kst rfl rfl ?_)
      obtain ⟨q53, hW⟩ := hW
      refine wald rfl (Or.inr (sK hL)) rfl (sN hL) q53 ?_
      refine wcvI rfl (oK12 hL rfl) rfl rfl (R260 (d := d + 7) (h := h46) hL hW) (fun v47 h48 hL hW => ?_)
      refine wcm_eq rfl hW (fun hW => ?_) (fun hW => ?_)
      · iterate 2 (refine kst rfl rfl ?_)
        refine wjp ?_ (k18 ((x3 + 6), h48) hW hL)
        exact ⟨rfl, rfl, rfl, rfl, trivial⟩
      · refine kst rfl rfl ?_
        refine kre rfl rfl ?_
        exact ⟨_, _, rfl, hL, hW⟩
    refine wsw hW (fun c14 hW => ?_) (fun c14 hW => ?_)
    · refine wswi (t := 677) rfl (fun _ => rfl) (by rw [c14]; rfl) ?_
      iterate 5 (refine kst rfl rfl ?_)
      obtain ⟨q54, hW⟩ := hW
      refine wald rfl (Or.inr (sK hL)) rfl (sN hL) q54 ?_
      refine wcvI rfl (oK11 hL rfl) rfl rfl (R165 (d := d + 6) (h := h) hL hW) (fun v49 h50 hL hW => ?_)
      iterate 5 (refine kst rfl rfl ?_)
      obtain ⟨q55, hW⟩ := hW
      refine wald rfl (Or.inr (sK hL)) rfl (sN hL) q55 ?_
      refine wcvI rfl (oK12 hL rfl) rfl rfl (R264 (d := d + 6) (h := h50) hL hW) (fun v51 h52 hL hW => ?_)
      refine wcm_eq rfl hW (fun hW => ?_) (fun hW => ?_)
      · iterate 2 (refine kst rfl rfl ?_)
        refine wjp ?_ (k18 ((x3 + 6), h52) hW hL)
        exact ⟨rfl, rfl, rfl, rfl, trivial⟩
      · refine kst rfl rfl ?_
        refine kre rfl rfl ?_
        exact ⟨_, _, rfl, hL, hW⟩
    refine wsw hW (fun c15 hW => ?_) (fun c15 hW => ?_)
    · refine wswi (t := 700) rfl (fun _ => rfl) (by rw [c15]; rfl) ?_
      iterate 5 (refine kst rfl rfl ?_)
      obtain ⟨q56, hW⟩ := hW
      refine wald rfl (Or.inr (sK hL)) rfl (sN hL) q56 ?_
      refine wcvI rfl (oK11 hL rfl) rfl rfl (R166 (d := d + 7) (h := h) hL hW) (fun v53 h54 hL hW => ?_)
      iterate 5 (refine kst rfl rfl ?_)
      obtain ⟨q57, hW⟩ := hW
      refine wald rfl (Or.inr (sK hL)) rfl (sN hL) q57 ?_
      refine wcvI rfl (oK12 hL rfl) rfl rfl (R266 (d := d + 4) (h := h54) hL hW) (fun v55 h56 hL hW => ?_)
      refine wcm_eq rfl hW (fun hW => ?_) (fun hW => ?_)
      · iterate 2 (refine kst rfl rfl ?_)
        refine wjp ?_ (k18 ((x3 + 6), h56) hW hL)
        exact ⟨rfl, rfl, rfl, rfl, trivial⟩
      · refine kst rfl rfl ?_
        refine kre rfl rfl ?_
        exact ⟨_, _, rfl, hL, hW⟩
    refine wsw hW (fun c16 hW => ?_) (fun c16 hW => ?_)
    · refine wswi (t := 723) rfl (fun _ => rfl) (by rw [c16]; rfl) ?_
      iterate 5 (refine kst rfl rfl ?_)
      obtain ⟨q58, hW⟩ := hW
      refine wald rfl (Or.inr (sK hL)) rfl (sN hL) q58 ?_
      refine wcvI rfl (oK11 hL rfl) rfl rfl (R167 (d := d + 5) (h := h) hL hW) (fun v57 h58 hL hW => ?_)
      iterate 5 (refine kst rfl rfl ?_)
      obtain ⟨q59, hW⟩ := hW
      refine wald rfl (Or.inr (sK hL)) rfl (sN hL) q59 ?_
      refine wcvI rfl (oK12 hL rfl) rfl rfl (R277 (d := d + 3) (h := h58) hL hW) (fun v59 h60 hL hW => ?_)
      refine wcm_eq rfl hW (fun hW => ?_) (fun hW => ?_)
      · iterate 2 (refine kst rfl rfl ?_)
        refine wjp ?_ (k18 ((x3 + 6), h60) hW hL)
        exact ⟨rfl, rfl, rfl, rfl, trivial⟩
      · refine kst rfl rfl ?_
        refine kre rfl rfl ?_
        exact ⟨_, _, rfl, hL, hW⟩
    refine wsw hW (fun c17 hW => ?_) (fun c17 hW => ?_)
    · refine wswi (t := 746) rfl (fun _ => rfl) (by rw [c17]; rfl) ?_
      iterate 5 (refine kst rfl rfl ?_)
      obtain ⟨q60, hW⟩ := hW
      refine wald rfl (Or.inr (sK hL)) rfl (sN hL) q60 ?_
      iterate 4 (refine kst rfl rfl ?_)
      obtain ⟨q61, hW⟩ := hW
      refine wald rfl (Or.inr (sK hL)) rfl (sN hL) q61 ?_
      refine wcvI rfl (oK11 hL rfl) rfl rfl (R168 (d := d + 5) (h := h) hL hW) (fun v61 h62 hL hW => ?_)
      iterate 5 (refine kst rfl rfl ?_)
      obtain ⟨q62, hW⟩ := hW
      refine wald rfl (Or.inr (sK hL)) rfl (sN hL) q62 ?_
      iterate 4 (refine kst rfl rfl ?_)
      obtain ⟨q63, hW⟩ := hW
      refine wald rfl (Or.inr (sK hL)) rfl (sN hL) q63 ?_
      refine wcvI rfl (oK12 hL rfl) rfl rfl (R278 (d := d + 4) (h := h62) hL hW) (fun v63 h64 hL hW => ?_)
      refine wcm_eq rfl hW (fun hW => ?_) (fun hW => ?_)
      · iterate 2 (refine kst rfl rfl ?_)
        refine wjp ?_ (k18 ((x3 + 6), h64) hW hL)
        exact ⟨rfl, rfl, rfl, rfl, trivial⟩
      · refine kst rfl rfl ?_
        refine kre rfl rfl ?_
        exact ⟨_, _, rfl, hL, hW⟩
    refine wsw hW (fun c18 hW => ?_) (fun c18 hW => ?_)
    · refine wswi (t := 779) rfl (fun _ => rfl) (by rw [c18]; rfl) ?_
      iterate 5 (refine kst rfl rfl ?_)
      obtain ⟨q64, hW⟩ := hW
      refine wald rfl (Or.inr (sK hL)) rfl (sN hL) q64 ?_
      refine wcvI rfl (oK11 hL rfl) rfl rfl (R169 (d := d + 5) (h := h) hL hW) (fun v65 h66 hL hW => ?_)
      iterate 5 (refine kst rfl rfl ?_)
      obtain ⟨q65, hW⟩ := hW
      refine wald rfl (Or.inr (sK hL)) rfl (sN hL) q65 ?_
      refine wcvI rfl (oK12 hL rfl) rfl rfl (R279 (d := d + 5) (h := h66) hL hW) (fun v67 h68 hL hW => ?_)
      refine wcm_eq rfl hW (fun hW => ?_) (fun hW => ?_)
      · iterate 2 (refine kst rfl rfl ?_)
        refine wjp ?_ (k18 ((x3 + 6), h68) hW hL)
        exact ⟨rfl, rfl, rfl, rfl, trivial⟩
      · refine kst rfl rfl ?_
        refine kre rfl rfl ?_
        exact ⟨_, _, rfl, hL, hW⟩
    refine wsw hW (fun c19 hW => ?_) (fun c19 hW => ?_)
    · refine wswi (t := 802) rfl (fun _ => rfl) (by rw [c19]; rfl) ?_
      iterate 5 (refine kst rfl rfl ?_)
      obtain ⟨q66, hW⟩ := hW
      refine wald rfl (Or.inr (sK hL)) rfl (sN hL) q66 ?_
      refine wcvI rfl (oK11 hL rfl) rfl rfl (R170 (d := d + 5) (h := h) hL hW) (fun v69 h70 hL hW => ?_)
      iterate 5 (refine kst rfl rfl ?_)
      obtain ⟨q67, hW⟩ := hW
      refine wald rfl (Or.inr (sK hL)) rfl (sN hL) q67 ?_
      refine wcvI rfl (oK12 hL rfl) rfl rfl (R280 (d := d + 5) (h := h70) hL hW) (fun v71 h72 hL hW => ?_)
      refine wcm_eq rfl hW (fun hW => ?_) (fun hW => ?_)
      · iterate 2 (refine kst rfl rfl ?_)
        refine wjp ?_ (k18 ((x3 + 6), h72) hW hL)
        exact ⟨rfl, rfl, rfl, rfl, trivial⟩
      · refine kst rfl rfl ?_
        refine kre rfl rfl ?_
        exact ⟨_, _, rfl, hL, hW⟩
    refine wsw hW (fun c20 hW => ?_) (fun c20 hW => ?_)
    · refine wswi (t := 825) rfl (fun _ => rfl) (by rw [c20]; rfl) ?_
      iterate 5 (refine kst rfl rfl ?_)
      obtain ⟨q68, hW⟩ := hW
      refine wald rfl (Or.inr (sK hL)) rfl (sN hL) q68 ?_
      refine wcvI rfl (oK11 hL rfl) rfl rfl (R171 (d := d + 5) (h := h) hL hW) (fun v73 h74 hL hW => ?_)
      iterate 5 (refine kst rfl rfl ?_)
      obtain ⟨q69, hW⟩ := hW
      refine wald rfl (Or.inr (sK hL)) rfl (sN hL) q69 ?_
      refine wcvI rfl (oK12 hL rfl) rfl rfl (R281 (d := d + 5) (h := h74) hL hW) (fun v75 h76 hL hW => ?_)
      refine wcm_eq rfl hW (fun hW => ?_) (fun hW => ?_)
      · iterate 2 (refine kst rfl rfl ?_)
        refine wjp ?_ (k18 ((x3 + 6), h76) hW hL)
        exact ⟨rfl, rfl, rfl, rfl, trivial⟩
      · refine kst rfl rfl ?_
        refine kre rfl rfl ?_
        exact ⟨_, _, rfl, hL, hW⟩
    refine wsw hW (fun c21 hW => ?_) (fun c21 hW => ?_)
    · refine wswi (t := 848) rfl (fun _ => rfl) (by rw [c21]; rfl) ?_
      iterate 5 (refine kst rfl rfl ?_)
      obtain ⟨q70, hW⟩ := hW
      refine wald rfl (Or.inr (sK hL)) rfl (sN hL) q70 ?_
      refine wcvI rfl (oK11 hL rfl) rfl rfl (R172 (d := d + 7) (h := h) hL hW) (fun v77 h78 hL hW => ?_)
      iterate 5 (refine kst rfl rfl ?_)
      obtain ⟨q71, hW⟩ := hW
      refine wald rfl (Or.inr (sK hL)) rfl (sN hL) q71 ?_
      refine wcvI rfl (oK12 hL rfl) rfl rfl (R282 (d := d + 7) (h := h78) hL hW) (fun v79 h80 hL hW => ?_)
      refine wcm_eq rfl hW (fun hW => ?_) (fun hW => ?_)
      · iterate 2 (refine kst rfl rfl ?_)
        refine wjp ?_ (k18 ((x3 + 6), h80) hW hL)
        exact ⟨rfl, rfl, rfl, rfl, trivial⟩
      · refine kst rfl rfl ?_
        refine kre rfl rfl ?_
        exact ⟨_, _, rfl, hL, hW⟩
    refine wsw hW (fun c22 hW => ?_) (fun c22 hW => ?_)
    · refine wswi (t := 871) rfl (fun _ => rfl) (by rw [c22]; rfl) ?_
      refine kst rfl rfl ?_
      refine wcvI rfl (oK11 hL rfl) rfl rfl (R173 (d := d + 7) (h := h) hL hW) (fun v81 h82 hL hW => ?_)
      refine kst rfl rfl ?_
      refine wcvI rfl (oK12 hL rfl) rfl rfl (R283 (d := d + 7) (h := h82) hL hW) (fun v83 h84 hL hW => ?_)
      refine wcm_eq rfl hW (fun hW => ?_) (fun hW => ?_)
      · iterate 2 (refine kst rfl rfl ?_)
        refine wjp ?_ (k18 ((x3 + 6), h84) hW hL)
        exact ⟨rfl, rfl, rfl, rfl, trivial⟩
      · refine kst rfl rfl ?_
        refine kre rfl rfl ?_
        exact ⟨_, _, rfl, hL, hW⟩
    refine wsw hW (fun c23 hW => ?_) (fun c23 hW => ?_)
    · refine wswi (t := 884) rfl (fun _ => rfl) (by rw [c23]; rfl) ?_
      iterate 5 (refine kst rfl rfl ?_)
      obtain ⟨q72, hW⟩ := hW
      refine wald rfl (Or.inr (sK hL)) rfl (sN hL) q72 ?_
      refine wcvI rfl (oK11 hL rfl) rfl rfl (R174 (d := d + 1) (h := h) hL hW) (fun v85 h86 hL hW => ?_)
      iterate 5 (refine kst rfl rfl ?_)
      obtain ⟨q73, hW⟩ := hW
      refine wald rfl (Or.inr (sK hL)) rfl (sN hL) q73 ?_
      refine wcvI rfl (oK12 hL rfl) rfl rfl (R289 (d := d + 1) (h := h86) hL hW) (fun v87 h88 hL hW => ?_)
      refine wcm_eq rfl hW (fun hW => ?_) (fun hW => ?_)
      · iterate 2 (refine kst rfl rfl ?_)
        refine wjp ?_ (k18 ((x3 + 6), h88) hW hL)
        exact ⟨rfl, rfl, rfl, rfl, trivial⟩
      · refine kst rfl rfl ?_
        refine kre rfl rfl ?_
        exact ⟨_, _, rfl, hL, hW⟩
    refine wsw hW (fun c24 hW => ?_) (fun c24 hW => ?_)
    · refine wswi (t := 907) rfl (fun _ => rfl) (by rw [c24]; rfl) ?_
      iterate 5 (refine kst rfl rfl ?_)
      obtain ⟨q74, hW⟩ := hW
      refine wald rfl (Or.inr (sK hL)) rfl (sN hL) q74 ?_
      refine wcvI rfl (oK11 hL rfl) rfl rfl (R175 (d := d + 2) (h := h) hL hW) (fun v89 h90 hL hW => ?_)
      iterate 5 (refine kst rfl rfl ?_)
      obtain ⟨q75, hW⟩ := hW
      refine wald rfl (Or.inr (sK hL)) rfl (sN hL) q75 ?_
      refine wcvI rfl (oK12 hL rfl) rfl rfl (R290 (d := d + 2) (h := h90) hL hW) (fun v91 h92 hL hW => ?_)
      refine wcm_eq rfl hW (fun hW => ?_) (fun hW => ?_)
      · iterate 2 (refine kst rfl rfl ?_)
        refine wjp ?_ (k18 ((x3 + 6), h92) hW hL)
        exact ⟨rfl, rfl, rfl, rfl, trivial⟩
      · refine kst rfl rfl ?_
        refine kre rfl rfl ?_
        exact ⟨_, _, rfl, hL, hW⟩
    refine wsw hW (fun c25 hW => ?_) (fun c25 hW => ?_)
    · refine wswi (t := 930) rfl (fun _ => rfl) (by rw [c25]; rfl) ?_
      iterate 5 (refine kst rfl rfl ?_)
      obtain ⟨q76, hW⟩ := hW
      refine wald rfl (Or.inr (sK hL)) rfl (sN hL) q76 ?_
      refine wcvI rfl (oK11 hL rfl) rfl rfl (R176 (d := d + 1) (h := h) hL hW) (fun v93 h94 hL hW => ?_)
      iterate 5 (refine kst rfl rfl ?_)
      obtain ⟨q77, hW⟩ := hW
      refine wald rfl (Or.inr (sK hL)) rfl (sN hL) q77 ?_
      refine wcvI rfl (oK12 hL rfl) rfl rfl (R293 (d := d + 1) (h := h94) hL hW) (fun v95 h96 hL hW => ?_)
      refine wcm_eq rfl hW (fun hW => ?_) (fun hW => ?_)
      · iterate 2 (refine kst rfl rfl ?_)
        refine wjp ?_ (k18 ((x3 + 6), h96) hW hL)
        exact ⟨rfl, rfl, rfl, rfl, trivial⟩
      · refine kst rfl rfl ?_
        refine kre rfl rfl ?_
        exact ⟨_, _, rfl, hL, hW⟩
    refine wsw hW (fun c26 hW => ?_) (fun c26 hW => ?_)
    · refine wswi (t := 953) rfl (fun _ => rfl) (by rw [c26]; rfl) ?_
      iterate 5 (refine kst rfl rfl ?_)
      obtain ⟨q78, hW⟩ := hW
      refine wald rfl (Or.inr (sK hL)) rfl (sN hL) q78 ?_
      iterate 4 (refine kst rfl rfl ?_)
      obtain ⟨q79, hW⟩ := hW
      refine wald rfl (Or.inr (sK hL)) rfl (sN hL) q79 ?_
      refine wcvI rfl (oK11 hL rfl) rfl rfl (R177 (d := d + 6) (h := h) hL hW) (fun v97 h98 hL hW => ?_)
      iterate 5 (refine kst rfl rfl ?_)
      obtain ⟨q80, hW⟩ := hW
      refine wald rfl (Or.inr (sK hL)) rfl (sN hL) q80 ?_
      iterate 4 (refine kst rfl rfl ?_)
      obtain ⟨q81, hW⟩ := hW
      refine wald rfl (Or.inr (sK hL)) rfl (sN hL) q81 ?_
      refine wcvI rfl (oK12 hL rfl) rfl rfl (R294 (d := d + 6) (h := h98) hL hW) (fun v99 h100 hL hW => ?_)
      refine wcm_eq rfl hW (fun hW => ?_) (fun hW => ?_)
      · iterate 2 (refine kst rfl rfl ?_)
        refine wjp ?_ (k18 ((x3 + 6), h100) hW hL)
        exact ⟨rfl, rfl, rfl, rfl, trivial⟩
      · refine kst rfl rfl ?_
        refine kre rfl rfl ?_
        exact ⟨_, _, rfl, hL, hW⟩
    refine wsw hW (fun c27 hW => ?_) (fun c27 hW => ?_)
    · refine wswi (t := 986) rfl (fun _ => rfl) (by rw [c27]; rfl) ?_
      iterate 5 (refine kst rfl rfl ?_)
      obtain ⟨q82, hW⟩ := hW
      refine wald rfl (Or.inr (sK hL)) rfl (sN hL) q82 ?_
      refine wcvI rfl (oK11 hL rfl) rfl rfl (R178 (d := d + 2) (h := h) hL hW) (fun v101 h102 hL hW => ?_)
      iterate 5 (refine kst rfl rfl ?_)
      obtain ⟨q83, hW⟩ := hW
      refine wald rfl (Or.inr (sK hL)) rfl (sN hL) q83 ?_
      refine wcvI rfl (oK12 hL rfl) rfl rfl (R297 (d := d + 3) (h := h102) hL hW) (fun v103 h104 hL hW => ?_)
      refine wcm_eq rfl hW (fun hW => ?_) (fun hW => ?_)
      · iterate 2 (refine kst rfl rfl ?_)
        refine wjp ?_ (k18 ((x3 + 6), h104) hW hL)
        exact ⟨rfl, rfl, rfl, rfl, trivial⟩
      · refine kst rfl rfl ?_
        refine kre rfl rfl ?_
        exact ⟨_, _, rfl, hL, hW⟩
    refine wsw hW (fun c28 hW => ?_) (fun c28 hW => ?_)
    · refine wswi (t := 1009) rfl (fun _ => rfl) (by rw [c28]; rfl) ?_
      iterate 5 (refine kst rfl rfl ?_)
      obtain ⟨q84, hW⟩ := hW
      refine wald rfl (Or.inr (sK hL)) rfl (sN hL) q84 ?_
      iterate 4 (refine kst rfl rfl ?_)
      obtain ⟨q85, hW⟩ := hW
      refine wald rfl (Or.inr (sK hL)) rfl (sN hL) q85 ?_
      refine wcvI rfl (oK11 hL rfl) rfl rfl (R179 (d := d + 1) (h := h) hL hW) (fun v105 h106 hL hW => ?_)
      iterate 5 (refine kst rfl rfl ?_)
      obtain ⟨q86, hW⟩ := hW
      refine wald rfl (Or.inr (sK hL)) rfl (sN hL) q86 ?_
      iterate 4 (refine kst rfl rfl ?_)
      obtain ⟨q87, hW⟩ := hW
      refine wald rfl (Or.inr (sK hL)) rfl (sN hL) q87 ?_
      refine wcvI rfl (oK12 hL rfl) rfl rfl (R298 (d := d + 1) (h := h106) hL hW) (fun v107 h108 hL hW => ?_)
      refine wcm_eq rfl hW (fun hW => ?_) (fun hW => ?_)
      · iterate 2 (refine kst rfl rfl ?_)
        refine wjp ?_ (k18 ((x3 + 6), h108) hW hL)
        exact ⟨rfl, rfl, rfl, rfl, trivial⟩
      · refine kst rfl rfl ?_
        refine kre rfl rfl ?_
        exact ⟨_, _, rfl, hL, hW⟩
    refine wsw hW (fun c29 hW => ?_) (fun c29 hW => ?_)
    · refine wswi (t := 1042) rfl (fun _ => rfl) (by rw [c29]; rfl) ?_
      iterate 5 (refine kst rfl rfl ?_)
      obtain ⟨q88, hW⟩ := hW
      refine wald rfl (Or.inr (sK hL)) rfl (sN hL) q88 ?_
      refine wcvI rfl (oK11 hL rfl) rfl rfl (R180 (d := d + 2) (h := h) hL hW) (fun v109 h110 hL hW => ?_)
      iterate 5 (refine kst rfl rfl ?_)
      obtain ⟨q89, hW⟩ := hW
      refine wald rfl (Or.inr (sK hL)) rfl (sN hL) q89 ?_
      refine wcvI rfl (oK12 hL rfl) rfl rfl (R303 (d := d + 3) (h := h110) hL hW) (fun v111 h112 hL hW => ?_)
      refine wcm_eq rfl hW (fun hW => ?_) (fun hW => ?_)
      · iterate 2 (refine kst rfl rfl ?_)
        refine wjp ?_ (k18 ((x3 + 6), h112) hW hL)
        exact ⟨rfl, rfl, rfl, rfl, trivial⟩
      · refine kst rfl rfl ?_
        refine kre rfl rfl ?_
        exact ⟨_, _, rfl, hL, hW⟩
    refine wsw hW (fun c30 hW => ?_) (fun c30 hW => ?_)
    · refine wswi (t := 1065) rfl (fun _ => rfl) (by rw [c30]; rfl) ?_
      iterate 5 (refine kst rfl rfl ?_)
      obtain ⟨q90, hW⟩ := hW
      refine wald rfl (Or.inr (sK hL)) rfl (sN hL) q90 ?_
      refine wcvI rfl (oK11 hL rfl) rfl rfl (R181 (d := d + 5) (h := h) hL hW) (fun v113 h114 hL hW => ?_)
      iterate 5 (refine kst rfl rfl ?_)
      obtain ⟨q91, hW⟩ := hW
      refine wald rfl (Or.inr (sK hL)) rfl (sN hL) q91 ?_
      refine wcvI rfl (oK12 hL rfl) rfl rfl (R305 (d := d + 4) (h := h114) hL hW) (fun v115 h116 hL hW => ?_)
      refine wcm_eq rfl hW (fun hW => ?_) (fun hW => ?_)
      · iterate 2 (refine kst rfl rfl ?_)
        refine wjp ?_ (k18 ((x3 + 6), h116) hW hL)
        exact ⟨rfl, rfl, rfl, rfl, trivial⟩
      · refine kst rfl rfl ?_
        refine kre rfl rfl ?_
        exact ⟨_, _, rfl, hL, hW⟩
    refine wsw hW (fun c31 hW => ?_) (fun c31 hW => ?_)
    · refine wswi (t := 1088) rfl (fun _ => rfl) (by rw [c31]; rfl) ?_
      iterate 5 (refine kst rfl rfl ?_)
      obtain ⟨q92, hW⟩ := hW
      refine wald rfl (Or.inr (sK hL)) rfl (sN hL) q92 ?_
      refine wcvI rfl (oK11 hL rfl) rfl rfl (R182 (d := d + 4) (h := h) hL hW) (fun v117 h118 hL hW => ?_)
      iterate 5 (refine kst rfl rfl ?_)
      obtain ⟨q93, hW⟩ := hW
      refine wald rfl (Or.inr (sK hL)) rfl (sN hL) q93 ?_
      refine wcvI rfl (oK12 hL rfl) rfl rfl (R307 (d := d + 4) (h := h118) hL hW) (fun v119 h120 hL hW => ?_)
      refine wcm_eq rfl hW (fun hW => ?_) (fun hW => ?_)
      · iterate 2 (refine kst rfl rfl ?_)
        refine wjp ?_ (k18 ((x3 + 6), h120) hW hL)
        exact ⟨rfl, rfl, rfl, rfl, trivial⟩
      · refine kst rfl rfl ?_
        refine kre rfl rfl ?_
        exact ⟨_, _, rfl, hL, hW⟩
    refine wsw hW (fun c32 hW => ?_) (fun c32 hW => ?_)
    · refine wswi (t := 1111) rfl (fun _ => rfl) (by rw [c32]; rfl) ?_
      iterate 5 (refine kst rfl rfl ?_)
      obtain ⟨q94, hW⟩ := hW
      refine wald rfl (Or.inr (sK hL)) rfl (sN hL) q94 ?_
      iterate 4 (refine kst rfl rfl ?_)
      obtain ⟨q95, hW⟩ := hW
      refine wald rfl (Or.inr (sK hL)) rfl (sN hL) q95 ?_
      refine wcvI rfl (oK11 hL rfl) rfl rfl (R183 (d := d + 0) (h := h) hL hW) (fun v121 h122 hL hW => ?_)
      iterate 5 (refine kst rfl rfl ?_)
      obtain ⟨q96, hW⟩ := hW
      refine wald rfl (Or.inr (sK hL)) rfl (sN hL) q96 ?_
      iterate 4 (refine kst rfl rfl ?_)
      obtain ⟨q97, hW⟩ := hW
      refine wald rfl (Or.inr (sK hL)) rfl (sN hL) q97 ?_
      refine wcvI rfl (oK12 hL rfl) rfl rfl (R309 (d := d + 5) (h := h122) hL hW) (fun v123 h124 hL hW => ?_)
      refine wcm_eq rfl hW (fun hW => ?_) (fun hW => ?_)
      · iterate 2 (refine kst rfl rfl ?_)
        refine wjp ?_ (k18 ((x3 + 6), h124) hW hL)
        exact ⟨rfl, rfl, rfl, rfl, trivial⟩
      · refine kst rfl rfl ?_
        refine kre rfl rfl ?_
        exact ⟨_, _, rfl, hL, hW⟩
    refine wsw hW (fun c33 hW => ?_) (fun c33 hW => ?_)
    · refine wswi (t := 1144) rfl (fun _ => rfl) (by rw [c33]; rfl) ?_
      iterate 5 (refine kst rfl rfl ?_)
      obtain ⟨q98, hW⟩ := hW
      refine wald rfl (Or.inr (sK hL)) rfl (sN hL) q98 ?_
      iterate 4 (refine kst rfl rfl ?_)
      obtain ⟨q99, hW⟩ := hW
      refine wald rfl (Or.inr (sK hL)) rfl (sN hL) q99 ?_
      refine wcvI rfl (oK11 hL rfl) rfl rfl (R184 (d := d + 1) (h := h) hL hW) (fun v125 h126 hL hW => ?_)
      iterate 5 (refine kst rfl rfl ?_)
      obtain ⟨q100, hW⟩ := hW
      refine wald rfl (Or.inr (sK hL)) rfl (sN hL) q100 ?_
      iterate 4 (refine kst rfl rfl ?_)
      obtain ⟨q101, hW⟩ := hW
      refine wald rfl (Or.inr (sK hL)) rfl (sN hL) q101 ?_
      refine wcvI rfl (oK12 hL rfl) rfl rfl (R310 (d := d + 1) (h := h126) hL hW) (fun v127 h128 hL hW => ?_)
      refine wcm_eq rfl hW (fun hW => ?_) (fun hW => ?_)
      · iterate 2 (refine kst rfl rfl ?_)
        refine wjp ?_ (k18 ((x3 + 6), h128) hW hL)
        exact ⟨rfl, rfl, rfl, rfl, trivial⟩
      · refine kst rfl rfl ?_
        refine kre rfl rfl ?_
        exact ⟨_, _, rfl, hL, hW⟩
    refine wsw hW (fun c34 hW => ?_) (fun c34 hW => ?_)
    · refine wswi (t := 1177) rfl (fun _ => rfl) (by rw [c34]; rfl) ?_
      iterate 5 (refine kst rfl rfl ?_)
      obtain ⟨q102, hW⟩ := hW
      refine wald rfl (Or.inr (sK hL)) rfl (sN hL) q102 ?_
      refine wcvI rfl (oK11 hL rfl) rfl rfl (R185 (d := d + 1) (h := h) hL hW) (fun v129 h130 hL hW => ?_)
      iterate 5 (refine kst rfl rfl ?_)
      obtain ⟨q103, hW⟩ := hW
      refine wald rfl (Or.inr (sK hL)) rfl (sN hL) q103 ?_
      refine wcvI rfl (oK12 hL rfl) rfl rfl (R311 (d := d + 1) (h := h130) hL hW) (fun v131 h132 hL hW => ?_)
      refine wcm_eq rfl hW (fun hW => ?_) (fun hW => ?_)
      · iterate 2 (refine kst rfl rfl ?_)
        refine wjp ?_ (k18 ((x3 + 6), h132) hW hL)
        exact ⟨rfl, rfl, rfl, rfl, trivial⟩
      · refine kst rfl rfl ?_
        refine kre rfl rfl ?_
        exact ⟨_, _, rfl, hL, hW⟩
    refine wsw hW (fun c35 hW => ?_) (fun c35 hW => ?_)
    · refine wswi (t := 1200) rfl (fun _ => rfl) (by rw [c35]; rfl) ?_
      iterate 5 (refine kst rfl rfl ?_)
      obtain ⟨q104, hW⟩ := hW
      refine wald rfl (Or.inr (sK hL)) rfl (sN hL) q104 ?_
      refine wcvI rfl (oK11 hL rfl) rfl rfl (R186 (d := d + 2) (h := h) hL hW) (fun v133 h134 hL hW => ?_)
      iterate 5 (refine kst rfl rfl ?_)
      obtain ⟨q105, hW⟩ := hW
      refine wald rfl (Or.inr (sK hL)) rfl (sN hL) q105 ?_
      refine wcvI rfl (oK12 hL rfl) rfl rfl (R319 (d := d + 0) (h := h134) hL hW) (fun v135 h136 hL hW => ?_)
      refine wcm_eq rfl hW (fun hW => ?_) (fun hW => ?_)
      · iterate 2 (refine kst rfl rfl ?_)
        refine wjp ?_ (k18 ((x3 + 6), h136) hW hL)
        exact ⟨rfl, rfl, rfl, rfl, trivial⟩
      · refine kst rfl rfl ?_
        refine kre rfl rfl ?_
        exact ⟨_, _, rfl, hL, hW⟩
    refine wsw hW (fun c36 hW => ?_) (fun c36 hW => ?_)
    · refine wswi (t := 1223) rfl (fun _ => rfl) (by rw [c36]; rfl) ?_
      iterate 5 (refine kst rfl rfl ?_)
      obtain ⟨q106, hW⟩ := hW
      refine wald rfl (Or.inr (sK hL)) rfl (sN hL) q106 ?_
      refine wcvI rfl (oK11 hL rfl) rfl rfl (R187 (d := d + 7) (h := h) hL hW) (fun v137 h138 hL hW => ?_)
      iterate 5 (refine kst rfl rfl ?_)
      obtain ⟨q107, hW⟩ := hW
      refine wald rfl (Or.inr (sK hL)) rfl (sN hL) q107 ?_
      refine wcvI rfl (oK12 hL rfl) rfl rfl (R320 (d := d + 7) (h := h138) hL hW) (fun v139 h140 hL hW => ?_)
      refine wcm_eq rfl hW (fun hW => ?_) (fun hW => ?_)
      · iterate 2 (refine kst rfl rfl ?_)
        refine wjp ?_ (k18 ((x3 + 6), h140) hW hL)
        exact ⟨rfl, rfl, rfl, rfl, trivial⟩
      · refine kst rfl rfl ?_
        refine kre rfl rfl ?_
        exact ⟨_, _, rfl, hL, hW⟩
    refine wsw hW (fun c37 hW => ?_) (fun c37 hW => ?_)
    · refine wswi (t := 1246) rfl (fun _ => rfl) (by rw [c37]; rfl) ?_
      refine kst rfl rfl ?_
      refine wcvI rfl (oK11 hL rfl) rfl rfl (R188 (d := d + 2) (h := h) hL hW) (fun v141 h142 hL hW => ?_)
      refine kst rfl rfl ?_
      refine wcvI rfl (oK12 hL rfl) rfl rfl (R321 (d := d + 0) (h := h142) hL hW) (fun v143 h144 hL hW => ?_)
      refine wcm_eq rfl hW (fun hW => ?_) (fun hW => ?_)
      · iterate 2 (refine kst rfl rfl ?_)
        refine wjp ?_ (k18 ((x3 + 6), h144) hW hL)
        exact ⟨rfl, rfl, rfl, rfl, trivial⟩
      · refine kst rfl rfl ?_
        refine kre rfl rfl ?_
        exact ⟨_, _, rfl, hL, hW⟩
    refine wsw hW (fun c38 hW => ?_) (fun c38 hW => ?_)
    · refine wswi (t := 1259) rfl (fun _ => rfl) (by rw [c38]; rfl) ?_
      iterate 5 (refine kst rfl rfl ?_)
      obtain ⟨q108, hW⟩ := hW
      refine wald rfl (Or.inr (sK hL)) rfl (sN hL) q108 ?_
      iterate 4 (refine kst rfl rfl ?_)
      obtain ⟨q109, hW⟩ := hW
      refine wald rfl (Or.inr (sK hL)) rfl (sN hL) q109 ?_
      iterate 4 (refine kst rfl rfl ?_)
      obtain ⟨q110, hW⟩ := hW
      refine wald rfl (Or.inr (sK hL)) rfl (sN hL) q110 ?_
      refine wcvI rfl (oK11 hL rfl) rfl rfl (R189 (d := d + 2) (h := h) hL hW) (fun v145 h146 hL hW => ?_)
      iterate 5 (refine kst rfl rfl ?_)
      obtain ⟨q111, hW⟩ := hW
      refine wald rfl (Or.inr (sK hL)) rfl (sN hL) q111 ?_
      iterate 4 (refine kst rfl rfl ?_)
      obtain ⟨q112, hW⟩ := hW
      refine wald rfl (Or.inr (sK hL)) rfl (sN hL) q112 ?_
      iterate 4 (refine kst rfl rfl ?_)
      obtain ⟨q113, hW⟩ := hW
      refine wald rfl (Or.inr (sK hL)) rfl (sN hL) q113 ?_
      refine wcvI rfl (oK12 hL rfl) rfl rfl (R322 (d := d + 0) (h := h146) hL hW) (fun v147 h148 hL hW => ?_)
      refine wcm_eq rfl hW (fun hW => ?_) (fun hW => ?_)
      · iterate 2 (refine kst rfl rfl ?_)
        refine wjp ?_ (k18 ((x3 + 6), h148) hW hL)
        exact ⟨rfl, rfl, rfl, rfl, trivial⟩
      · refine kst rfl rfl ?_
        refine kre rfl rfl ?_
        exact ⟨_, _, rfl, hL, hW⟩
    refine wsw hW (fun c39 hW => ?_) (fun c39 hW => ?_)
    · refine wswi (t := 1302) rfl (fun _ => rfl) (by rw [c39]; rfl) ?_
      refine kst rfl rfl ?_
      refine wcvI rfl (oK11 hL rfl) rfl rfl (R190 (d := d + 6) (h := h) hL hW) (fun v149 h150 hL hW => ?_)
      refine kst rfl rfl ?_
      refine wcvI rfl (oK12 hL rfl) rfl rfl (R324 (d := d + 7) (h := h150) hL hW) (fun v151 h152 hL hW => ?_)
      refine wcm_eq rfl hW (fun hW => ?_) (fun hW => ?_)
      · iterate 2 (refine kst rfl rfl ?_)
        refine wjp ?_ (k18 ((x3 + 6), h152) hW hL)
        exact ⟨rfl, rfl, rfl, rfl, trivial⟩
      · refine kst rfl rfl ?_
        refine kre rfl rfl ?_
        exact ⟨_, _, rfl, hL, hW⟩
    refine wsw hW (fun c40 hW => ?_) (fun c40 hW => ?_)
    · refine wswi (t := 1315) rfl (fun _ => rfl) (by rw [c40]; rfl) ?_
      refine kst rfl rfl ?_
      refine wcvI rfl (oK11 hL rfl) rfl rfl (R191 (d := d + 7) (h := h) hL hW) (fun v153 h154 hL hW => ?_)
      refine kst rfl rfl ?_
      refine wcvI rfl (oK12 hL rfl) rfl rfl (R325 (d := d + 7) (h := h154) hL hW) (fun v155 h156 hL hW => ?_)
      refine wcm_eq rfl hW (fun hW => ?_) (fun hW => ?_)
      · iterate 2 (refine kst rfl rfl ?_)
        refine wjp ?_ (k18 ((x3 + 6), h156) hW hL)
        exact ⟨rfl, rfl, rfl, rfl, trivial⟩
      · refine kst rfl rfl ?_
        refine kre rfl rfl ?_
        exact ⟨_, _, rfl, hL, hW⟩
    refine wswi (t := 1328) rfl (fun _ => rfl) (tswD (by have z0 := i32ne (k := 0) c0 rfl; have z1 := i32ne (k := 1) c1 rfl; have z2 := i32ne (k := 2) c2 rfl; have z3 := i32ne (k := 3) c3 rfl; have z4 := i32ne (k := 4) c4 rfl; have z5 := i32ne (k := 5) c5 rfl; have z6 := i32ne (k := 6) c6 rfl; have z7 := i32ne (k := 7) c7 rfl; have z8 := i32ne (k := 8) c8 rfl; have z9 := i32ne (k := 9) c9 rfl; have z10 := i32ne (k := 10) c10 rfl; have z11 := i32ne (k := 11) c11 rfl; have z12 := i32ne (k := 12) c12 rfl; have z13 := i32ne (k := 13) c13 rfl; have z14 := i32ne (k := 14) c14 rfl; have z15 := i32ne (k := 15) c15 rfl; have z16 := i32ne (k := 16) c16 rfl; have z17 := i32ne (k := 17) c17 rfl; have z18 := i32ne (k := 18) c18 rfl; have z19 := i32ne (k := 19) c19 rfl; have z20 := i32ne (k := 20) c20 rfl; have z21 := i32ne (k := 21) c21 rfl; have z22 := i32ne (k := 22) c22 rfl; have z23 := i32ne (k := 23) c23 rfl; have z24 := i32ne (k := 24) c24 rfl; have z25 := i32ne (k := 25) c25 rfl; have z26 := i32ne (k := 26) c26 rfl; have z27 := i32ne (k := 27) c27 rfl; have z28 := i32ne (k := 28) c28 rfl; have z29 := i32ne (k := 29) c29 rfl; have z30 := i32ne (k := 30) c30 rfl; have z31 := i32ne (k := 31) c31 rfl; have z32 := i32ne (k := 32) c32 rfl; have z33 := i32ne (k := 33) c33 rfl; have z34 := i32ne (k := 34) c34 rfl; have z35 := i32ne (k := 35) c35 rfl; have z36 := i32ne (k := 36) c36 rfl; have z37 := i32ne (k := 37) c37 rfl; have z38 := i32ne (k := 38) c38 rfl; have z39 := i32ne (k := 39) c39 rfl; have z40 := i32ne (k := 40) c40 rfl; first | omega | (have z9 := i32ne c0 rfl; omega)) rfl) ?_
    iterate 2 (refine kst rfl rfl ?_)
    refine wjp ?_ (k18 ((x3 + 6), h) hW hL)
    exact ⟨rfl, rfl, rfl, rfl, trivial⟩
