/-! WHAT EACH METHOD NEEDS: W: the condition; R: the small machine keeps it (printed by wgen.py) -/
/-- 321: FourPotsModel judged -/
def W321 (h : TH) (C : Int32 → TH → Prop) : Prop :=
  if ¬ (h.I 198 (ix 6)) = (-1) then (W318 (-1) h (fun h1 => W288 (h1.I 197 47) h1 (fun v2 h3 => C v2 h3))) else (W205 6 h (fun v4 h5 => C v4 h5))

theorem R321 {d : Nat} {h : TH} {C : Int32 → TH → Prop} (hL : Lay h) (hW : W321  h C) : xPk (d + 8) 321 [.ref 197] h.X (postI C) := by
  unfold W321 at hW
  refine kin (Nat.le_of_ble_eq_true rfl) ?_
  refine kst rfl rfl ?_
  refine wgetP (b := 198) rfl (oK12 hL rfl) rfl (oP12_0 hL) ?_
  refine kst rfl rfl ?_
  refine wald rfl (Or.inl (aK12_0 hL)) (aN12_0 hL) (by decide) ⟨by decide, by decide⟩ ?_
  refine kst rfl rfl ?_
  refine wcm_ne rfl hW (fun hW => ?_) (fun hW => ?_)
  · iterate 2 (refine kst rfl rfl ?_)
    refine wcvV rfl (oK12 hL rfl) rfl rfl (R318 (d := d + 0) (h := h) hL hW) (fun h1 hL hW => ?_)
    iterate 2 (refine kst rfl rfl ?_)
    refine wgetI rfl (oK12 hL rfl) rfl ?_
    refine wcvI rfl (oK12 hL rfl) rfl rfl (R288 (d := d + 6) (h := h1) hL hW) (fun v2 h3 hL hW => ?_)
    refine kre rfl rfl ?_
    exact ⟨_, _, rfl, hL, hW⟩
  · iterate 2 (refine kst rfl rfl ?_)
    refine wcvI rfl (oK12 hL rfl) rfl rfl (R205 (d := d + 7) (h := h) hL hW) (fun v4 h5 hL hW => ?_)
    refine kre rfl rfl ?_
    exact ⟨_, _, rfl, hL, hW⟩
/-- 322: FourPotsModel odds -/
def B322_112 (a1 : Int32) (a2 : Int32) (a3 : Int32) (x5 : Int32) (s0 : Int32) (s1 : Int32) (h : TH) (C : Int32 → TH → Prop) (X73 : Int32 × Int32 × TH → Prop) : Prop :=
  X73 ((s0 + s1), (x5 + 1), h)
def F322_73 (a1 : Int32) (a2 : Int32) (a3 : Int32) (C : Int32 → TH → Prop) (X73 : Int32 × Int32 × TH → Prop) : Int32 × Int32 × TH → Prop := fun
  | (x4, x5, h) =>
    if a3 ≤ x5 then (W207 ((x4).toInt64) ((a3).toInt64) h (fun v10 h11 => (v10 = 0 ∨ v10 = 1) ∧ C v10 h11)) else (W318 (a2 + x5) h (fun h12 => if ¬ (a1 &&& (((h12.I 197 53) &&& ((h12.I 197 54) ^^^ (-1))) ^^^ (-1))) = 0 then (B322_112 a1 a2 a3 x5 x4 0 h12 C X73) else (B322_112 a1 a2 a3 x5 x4 1 h12 C X73)))
def B322_73 (a1 : Int32) (a2 : Int32) (a3 : Int32) (x4 : Int32) (x5 : Int32) (h : TH) (C : Int32 → TH → Prop) : Prop := LFP (F322_73 a1 a2 a3 C) (x4, x5, h)
def W322 (a1 : Int32) (a2 : Int32) (a3 : Int32) (h : TH) (C : Int32 → TH → Prop) : Prop :=
  W249 a1 h (fun v1 => if v1 = 0 then (W204 1 h (fun v2 h3 => (v2 = 0 ∨ v2 = 1) ∧ C v2 h3)) else (W215 ((a2).toInt64) (0 : Int64) (9999 : Int64) h (fun v4 => if v4 = 0 then (W204 1 h (fun v5 h6 => (v5 = 0 ∨ v5 = 1) ∧ C v5 h6)) else (W215 ((a3).toInt64) (1 : Int64) (30 : Int64) h (fun v7 => if v7 = 0 then (W204 1 h (fun v8 h9 => (v8 = 0 ∨ v8 = 1) ∧ C v8 h9)) else (if ((a2 + a3) - 1) ≤ 9999 then (if ¬ (h.I 198 (ix 6)) = (-1) then (B322_73 a1 a2 a3 0 0 h C) else (W204 6 h (fun v10 h11 => (v10 = 0 ∨ v10 = 1) ∧ C v10 h11))) else (W204 1 h (fun v12 h13 => (v12 = 0 ∨ v12 = 1) ∧ C v12 h13))))))))

theorem R322_112 {d : Nat} {a1 : Int32} {a2 : Int32} {a3 : Int32} {x5 : Int32} {s0 : Int32} {s1 : Int32} {h : TH} {C : Int32 → TH → Prop} {X73 : Int32 × Int32 × TH → Prop} (k73 : ∀ s : Int32 × Int32 × TH, X73 s → Lay (s.2.2) → xEk (d + 8) 322 (73, [(0, .ref 197), (1, .int a1), (2, .int a2), (3, .int a3), (4, .int (s.1)), (5, .int (s.2.1))], [], (TH.X (s.2.2))) (postI C)) (hL : Lay h) (hW : B322_112 a1 a2 a3 x5 s0 s1 h C X73) : xEk (d + 8) 322 (112, [(0, .ref 197), (1, .int a1), (2, .int a2), (3, .int a3), (5, .int x5)], [.int s1, .int s0], h.X) (postI C) := by
  unfold B322_112 at hW
  iterate 4 (refine kst rfl rfl ?_)
  have z9 := k73 ((s0 + s1), (x5 + 1), h) hW hL
  refine wjp ?_ z9
  exact ⟨rfl, rfl, rfl, rfl, rfl, rfl, trivial⟩
theorem R322_73 {d : Nat} {a1 : Int32} {a2 : Int32} {a3 : Int32} {x4 : Int32} {x5 : Int32} {h : TH} {C : Int32 → TH → Prop} (hL : Lay h) (hW : B322_73 a1 a2 a3 x4 x5 h C) : xEk (d + 8) 322 (73, [(0, .ref 197), (1, .int a1), (2, .int a2), (3, .int a3), (4, .int x4), (5, .int x5)], [], h.X) (postI C) := by
  refine hW (fun s => Lay (s.2.2) → xEk (d + 8) 322 (73, [(0, .ref 197), (1, .int a1), (2, .int a2), (3, .int a3), (4, .int (s.1)), (5, .int (s.2.1))], [], (TH.X (s.2.2))) (postI C)) ?_ hL
  rintro ⟨x4, x5, h⟩ hW hL
  have k73 : ∀ s : Int32 × Int32 × TH, (fun s => Lay (s.2.2) → xEk (d + 8) 322 (73, [(0, .ref 197), (1, .int a1), (2, .int a2), (3, .int a3), (4, .int (s.1)), (5, .int (s.2.1))], [], (TH.X (s.2.2))) (postI C)) s → Lay (s.2.2) → xEk (d + 8) 322 (73, [(0, .ref 197), (1, .int a1), (2, .int a2), (3, .int a3), (4, .int (s.1)), (5, .int (s.2.1))], [], (TH.X (s.2.2))) (postI C) := fun s hs => hs
  unfold F322_73 at hW
  dsimp only at hW
  iterate 2 (refine kst rfl rfl ?_)
  refine wcm_ge rfl hW (fun hW => ?_) (fun hW => ?_)
  · iterate 5 (refine kst rfl rfl ?_)
    refine wcvI rfl (oK12 hL rfl) rfl rfl (R207 (d := d + 6) (h := h) hL hW) (fun v10 h11 hL hW => ?_)
    obtain ⟨q1, hW⟩ := hW
    refine wrZ rfl q1 ?_
    exact ⟨_, _, rfl, hL, hW⟩
  · iterate 4 (refine kst rfl rfl ?_)
    refine wcvV rfl (oK12 hL rfl) rfl rfl (R318 (d := d + 0) (h := h) hL hW) (fun h12 hL hW => ?_)
    iterate 3 (refine kst rfl rfl ?_)
    refine wgetI rfl (oK12 hL rfl) rfl ?_
    refine kst rfl rfl ?_
    refine wgetI rfl (oK12 hL rfl) rfl ?_
    iterate 6 (refine kst rfl rfl ?_)
    refine wif_ne rfl hW (fun hW => ?_) (fun hW => ?_)
    · refine kst rfl rfl ?_
      refine wjp ?_ (R322_112 (h := h12) k73 hL hW)
      exact ⟨rfl, rfl, rfl, rfl, rfl, trivial⟩
    · iterate 2 (refine kst rfl rfl ?_)
      refine wjp ?_ (R322_112 (h := h12) k73 hL hW)
      exact ⟨rfl, rfl, rfl, rfl, rfl, trivial⟩
theorem R322 {d : Nat} {a1 : Int32} {a2 : Int32} {a3 : Int32} {h : TH} {C : Int32 → TH → Prop} (hL : Lay h) (hW : W322 a1 a2 a3 h C) : xPk (d + 8) 322 [.ref 197, .int a1, .int a2, .int a3] h.X (postI C) := by
  unfold W322 at hW
  refine kin (Nat.le_of_ble_eq_true rfl) ?_
  iterate 2 (refine kst rfl rfl ?_)
  refine qcvI rfl (oK12 hL rfl) rfl rfl (R249 (d := d + 6) (h := h) hL hW) (fun v1 hW => ?_)
  refine wif_eq rfl hW (fun hW => ?_) (fun hW => ?_)
  · iterate 2 (refine kst rfl rfl ?_)
    refine wcvI rfl (oK12 hL rfl) rfl rfl (R204 (d := d + 7) (h := h) hL hW) (fun v2 h3 hL hW => ?_)
    obtain ⟨q1, hW⟩ := hW
    refine wrZ rfl q1 ?_
    exact ⟨_, _, rfl, hL, hW⟩
  · iterate 4 (refine kst rfl rfl ?_)
    refine qcaI rfl rfl (R215 (d := d + 7) (h := h) hL hW) (fun v4 hW => ?_)
    refine wif_eq rfl hW (fun hW => ?_) (fun hW => ?_)
    · iterate 2 (refine kst rfl rfl ?_)
      refine wcvI rfl (oK12 hL rfl) rfl rfl (R204 (d := d + 7) (h := h) hL hW) (fun v5 h6 hL hW => ?_)
      obtain ⟨q1, hW⟩ := hW
      refine wrZ rfl q1 ?_
      exact ⟨_, _, rfl, hL, hW⟩
    · iterate 4 (refine kst rfl rfl ?_)
      refine qcaI rfl rfl (R215 (d := d + 7) (h := h) hL hW) (fun v7 hW => ?_)
      refine wif_eq rfl hW (fun hW => ?_) (fun hW => ?_)
      · iterate 2 (refine kst rfl rfl ?_)
        refine wcvI rfl (oK12 hL rfl) rfl rfl (R204 (d := d + 7) (h := h) hL hW) (fun v8 h9 hL hW => ?_)
        obtain ⟨q1, hW⟩ := hW
        refine wrZ rfl q1 ?_
        exact ⟨_, _, rfl, hL, hW⟩
      · iterate 6 (refine kst rfl rfl ?_)
        refine wcm_le rfl hW (fun hW => ?_) (fun hW => ?_)
        · refine kst rfl rfl ?_
          refine wgetP (b := 198) rfl (oK12 hL rfl) rfl (oP12_0 hL) ?_
          refine kst rfl rfl ?_
          refine wald rfl (Or.inl (aK12_0 hL)) (aN12_0 hL) (by decide) ⟨by decide, by decide⟩ ?_
          refine kst rfl rfl ?_
          refine wcm_ne rfl hW (fun hW => ?_) (fun hW => ?_)
          · iterate 4 (refine kst rfl rfl ?_)
            refine wjp ?_ (R322_73 (h := h) hL hW)
            exact ⟨rfl, rfl, rfl, rfl, rfl, rfl, trivial⟩
          · iterate 2 (refine kst rfl rfl ?_)
            refine wcvI rfl (oK12 hL rfl) rfl rfl (R204 (d := d + 7) (h := h) hL hW) (fun v10 h11 hL hW => ?_)
            obtain ⟨q1, hW⟩ := hW
            refine wrZ rfl q1 ?_
            exact ⟨_, _, rfl, hL, hW⟩
        · iterate 2 (refine kst rfl rfl ?_)
          refine wcvI rfl (oK12 hL rfl) rfl rfl (R204 (d := d + 7) (h := h) hL hW) (fun v12 h13 hL hW => ?_)
          obtain ⟨q1, hW⟩ := hW
          refine wrZ rfl q1 ?_
          exact ⟨_, _, rfl, hL, hW⟩
/-- 323: FourPotsModel copies -/
def F323_41 (a1 : Int32) (a2 : Int32) (C : TH → Prop) (X41 : Int32 × TH → Prop) : Int32 × TH → Prop := fun
  | (x3, h) =>
    if 12 ≤ x3 then (C h) else (inb ((12 * a1) + x3) 60 ∧ inb ((12 * a2) + x3) 60 ∧ X41 ((x3 + 1), (h.sJ 199 (ix ((12 * a2) + x3)) (h.J 199 (ix ((12 * a1) + x3))))))
def B323_41 (a1 : Int32) (a2 : Int32) (x3 : Int32) (h : TH) (C : TH → Prop) : Prop := LFP (F323_41 a1 a2 C) (x3, h)
def F323_2 (a1 : Int32) (a2 : Int32) (C : TH → Prop) (X2 : Int32 × TH → Prop) : Int32 × TH → Prop := fun
  | (x3, h) =>
    if 440 ≤ x3 then (B323_41 a1 a2 0 h C) else (inb ((440 * a1) + x3) 2200 ∧ inb ((440 * a2) + x3) 2200 ∧ X2 ((x3 + 1), (h.sI 198 (ix ((440 * a2) + x3)) (h.I 198 (ix ((440 * a1) + x3))))))
def B323_2 (a1 : Int32) (a2 : Int32) (x3 : Int32) (h : TH) (C : TH → Prop) : Prop := LFP (F323_2 a1 a2 C) (x3, h)
def W323 (a1 : Int32) (a2 : Int32) (h : TH) (C : TH → Prop) : Prop :=
  B323_2 a1 a2 0 h C

theorem R323_41 {d : Nat} {a1 : Int32} {a2 : Int32} {x3 : Int32} {h : TH} {C : TH → Prop} (hL : Lay h) (hW : B323_41 a1 a2 x3 h C) : xEk d 323 (41, [(0, .ref 197), (1, .int a1), (2, .int a2), (3, .int x3)], [], h.X) (postV C) := by
  refine hW (fun s => Lay (s.2) → xEk d 323 (41, [(0, .ref 197), (1, .int a1), (2, .int a2), (3, .int (s.1))], [], (TH.X (s.2))) (postV C)) ?_ hL
  rintro ⟨x3, h⟩ hW hL
  have k41 : ∀ s : Int32 × TH, (fun s => Lay (s.2) → xEk d 323 (41, [(0, .ref 197), (1, .int a1), (2, .int a2), (3, .int (s.1))], [], (TH.X (s.2))) (postV C)) s → Lay (s.2) → xEk d 323 (41, [(0, .ref 197), (1, .int a1), (2, .int a2), (3, .int (s.1))], [], (TH.X (s.2))) (postV C) := fun s hs => hs
  unfold F323_41 at hW
  dsimp only at hW
  iterate 2 (refine kst rfl rfl ?_)
  refine wcm_ge rfl hW (fun hW => ?_) (fun hW => ?_)
  · refine kre rfl rfl ?_
    exact ⟨_, rfl, hL, hW⟩
  · refine kst rfl rfl ?_
    refine wgetP (b := 199) rfl (oK12 hL rfl) rfl (oP12_1 hL) ?_
    iterate 6 (refine kst rfl rfl ?_)
    refine wgetP (b := 199) rfl (oK12 hL rfl) rfl (oP12_1 hL) ?_
    iterate 5 (refine kst rfl rfl ?_)
    obtain ⟨q1, hW⟩ := hW
    refine wlald rfl (aK12_1 hL) (aN12_1 hL) (by decide) q1 ?_
    obtain ⟨q2, hW⟩ := hW
    refine wlast rfl (aK12_1 hL) (aN12_1 hL) (by decide) q2 ?_
    replace hL : Lay (h.sJ 199 (ix ((12 * a2) + x3)) (h.J 199 (ix ((12 * a1) + x3)))) := lsJ hL
    iterate 2 (refine kst rfl rfl ?_)
    have z9 := k41 ((x3 + 1), (h.sJ 199 (ix ((12 * a2) + x3)) (h.J 199 (ix ((12 * a1) + x3))))) hW hL
    refine wjp ?_ z9
    exact ⟨rfl, rfl, rfl, rfl, trivial⟩
theorem R323_2 {d : Nat} {a1 : Int32} {a2 : Int32} {x3 : Int32} {h : TH} {C : TH → Prop} (hL : Lay h) (hW : B323_2 a1 a2 x3 h C) : xEk d 323 (2, [(0, .ref 197), (1, .int a1), (2, .int a2), (3, .int x3)], [], h.X) (postV C) := by
  refine hW (fun s => Lay (s.2) → xEk d 323 (2, [(0, .ref 197), (1, .int a1), (2, .int a2), (3, .int (s.1))], [], (TH.X (s.2))) (postV C)) ?_ hL
  rintro ⟨x3, h⟩ hW hL
  have k2 : ∀ s : Int32 × TH, (fun s => Lay (s.2) → xEk d 323 (2, [(0, .ref 197), (1, .int a1), (2, .int a2), (3, .int (s.1))], [], (TH.X (s.2))) (postV C)) s → Lay (s.2) → xEk d 323 (2, [(0, .ref 197), (1, .int a1), (2, .int a2), (3, .int (s.1))], [], (TH.X (s.2))) (postV C) := fun s hs => hs
  unfold F323_2 at hW
  dsimp only at hW
  iterate 2 (refine kst rfl rfl ?_)
  refine wcm_ge rfl hW (fun hW => ?_) (fun hW => ?_)
  · iterate 2 (refine kst rfl rfl ?_)
    refine wjp ?_ (R323_41 (h := h) hL hW)
    exact ⟨rfl, rfl, rfl, rfl, trivial⟩
  · refine kst rfl rfl ?_
    refine wgetP (b := 198) rfl (oK12 hL rfl) rfl (oP12_0 hL) ?_
    iterate 6 (refine kst rfl rfl ?_)
    refine wgetP (b := 198) rfl (oK12 hL rfl) rfl (oP12_0 hL) ?_
    iterate 5 (refine kst rfl rfl ?_)
    obtain ⟨q1, hW⟩ := hW
    refine wald rfl (Or.inl (aK12_0 hL)) (aN12_0 hL) (by decide) q1 ?_
    obtain ⟨q2, hW⟩ := hW
    refine wast rfl (aK12_0 hL) (aN12_0 hL) (by decide) q2 ?_
    replace hL : Lay (h.sI 198 (ix ((440 * a2) + x3)) (h.I 198 (ix ((440 * a1) + x3)))) := lsI hL
    iterate 2 (refine kst rfl rfl ?_)
    have z9 := k2 ((x3 + 1), (h.sI 198 (ix ((440 * a2) + x3)) (h.I 198 (ix ((440 * a1) + x3))))) hW hL
    refine wjp ?_ z9
    exact ⟨rfl, rfl, rfl, rfl, trivial⟩
theorem R323 {d : Nat} {a1 : Int32} {a2 : Int32} {h : TH} {C : TH → Prop} (hL : Lay h) (hW : W323 a1 a2 h C) : xPk d 323 [.ref 197, .int a1, .int a2] h.X (postV C) := by
  unfold W323 at hW
  refine kin (Nat.le_of_ble_eq_true rfl) ?_
  iterate 2 (refine kst rfl rfl ?_)
  refine wjp ?_ (R323_2 (h := h) hL hW)
  exact ⟨rfl, rfl, rfl, rfl, trivial⟩
/-- 324: FourPotsModel mark -/
def W324 (h : TH) (C : Int32 → TH → Prop) : Prop :=
  if ¬ (h.I 197 55) = 3 then (W323 0 ((h.sI 197 55 ((h.I 197 55) + 1)).I 197 55) (h.sI 197 55 ((h.I 197 55) + 1)) (fun h1 => W206 (h1.I 197 55) h1 (fun v2 h3 => C v2 h3))) else (W205 4 h (fun v4 h5 => C v4 h5))

theorem R324 {d : Nat} {h : TH} {C : Int32 → TH → Prop} (hL : Lay h) (hW : W324  h C) : xPk (d + 1) 324 [.ref 197] h.X (postI C) := by
  unfold W324 at hW
  refine kin (Nat.le_of_ble_eq_true rfl) ?_
  refine kst rfl rfl ?_
  refine wgetI rfl (oK12 hL rfl) rfl ?_
  refine kst rfl rfl ?_
  refine wcm_ne rfl hW (fun hW => ?_) (fun hW => ?_)
  · iterate 2 (refine kst rfl rfl ?_)
    refine wgetI rfl (oK12 hL rfl) rfl ?_
    iterate 2 (refine kst rfl rfl ?_)
    refine wputI rfl (oK12 hL rfl) rfl ?_
    replace hL : Lay (h.sI 197 55 ((h.I 197 55) + 1)) := lsI hL
    iterate 3 (refine kst rfl rfl ?_)
    refine wgetI rfl (oK12 hL rfl) rfl ?_
    refine wcvV rfl (oK12 hL rfl) rfl rfl (R323 (d := d + 0) (h := (h.sI 197 55 ((h.I 197 55) + 1))) hL hW) (fun h1 hL hW => ?_)
    iterate 2 (refine kst rfl rfl ?_)
    refine wgetI rfl (oK12 hL rfl) rfl ?_
    refine wcvI rfl (oK12 hL rfl) rfl rfl (R206 (d := d + 0) (h := h1) hL hW) (fun v2 h3 hL hW => ?_)
    refine kre rfl rfl ?_
    exact ⟨_, _, rfl, hL, hW⟩
  · iterate 2 (refine kst rfl rfl ?_)
    refine wcvI rfl (oK12 hL rfl) rfl rfl (R205 (d := d + 0) (h := h) hL hW) (fun v4 h5 hL hW => ?_)
    refine kre rfl rfl ?_
    exact ⟨_, _, rfl, hL, hW⟩
/-- 325: FourPotsModel back -/
def W325 (h : TH) (C : Int32 → TH → Prop) : Prop :=
  if ¬ (h.I 197 55) = 0 then (W323 (h.I 197 55) 0 h (fun h1 => W206 ((h1.sI 197 55 ((h1.I 197 55) - 1)).I 197 55) (h1.sI 197 55 ((h1.I 197 55) - 1)) (fun v2 h3 => C v2 h3))) else (W205 6 h (fun v4 h5 => C v4 h5))

theorem R325 {d : Nat} {h : TH} {C : Int32 → TH → Prop} (hL : Lay h) (hW : W325  h C) : xPk (d + 1) 325 [.ref 197] h.X (postI C) := by
  unfold W325 at hW
  refine kin (Nat.le_of_ble_eq_true rfl) ?_
  refine kst rfl rfl ?_
  refine wgetI rfl (oK12 hL rfl) rfl ?_
  refine wif_ne rfl hW (fun hW => ?_) (fun hW => ?_)
  · iterate 2 (refine kst rfl rfl ?_)
    refine wgetI rfl (oK12 hL rfl) rfl ?_
    refine kst rfl rfl ?_
    refine wcvV rfl (oK12 hL rfl) rfl rfl (R323 (d := d + 0) (h := h) hL hW) (fun h1 hL hW => ?_)
    iterate 2 (refine kst rfl rfl ?_)
    refine wgetI rfl (oK12 hL rfl) rfl ?_
    iterate 2 (refine kst rfl rfl ?_)
    refine wputI rfl (oK12 hL rfl) rfl ?_
    replace hL : Lay (h1.sI 197 55 ((h1.I 197 55) - 1)) := lsI hL
    iterate 2 (refine kst rfl rfl ?_)
    refine wgetI rfl (oK12 hL rfl) rfl ?_
    refine wcvI rfl (oK12 hL rfl) rfl rfl (R206 (d := d + 0) (h := (h1.sI 197 55 ((h1.I 197 55) - 1))) hL hW) (fun v2 h3 hL hW => ?_)
    refine kre rfl rfl ?_
    exact ⟨_, _, rfl, hL, hW⟩
  · iterate 2 (refine kst rfl rfl ?_)
    refine wcvI rfl (oK12 hL rfl) rfl rfl (R205 (d := d + 0) (h := h) hL hW) (fun v4 h5 hL hW => ?_)
    refine kre rfl rfl ?_
    exact ⟨_, _, rfl, hL, hW⟩
