/-! WHAT EACH METHOD NEEDS: W: the condition; R: the small machine keeps it (printed by wgen.py) -/
/-- 82: MenuReader readKinds -/
def B82_56 (a1 : Int32) (h : TH) (C : Int32 → TH → Prop) : Prop :=
  if ¬ (h.I 9 9) = 7 then (C 1 h) else (W133  (h.sI 16 4 ((h.I 16 4) ||| (ishl 1 a1))) (fun h1 => C 1 h1))
def W82 (a1 : Int32) (h : TH) (C : Int32 → TH → Prop) : Prop :=
  if ¬ (h.I 9 9) = 6 then (B82_56 a1 h C) else (inb a1 12 ∧ if ¬ (h.I (16 + 6) (ix a1)) = 0 then (W133  (h.sI 16 3 ((h.I 16 3) ||| (ishl 1 a1))) (fun h1 => B82_56 a1 h1 C)) else (W135 7 h (fun v2 h3 => (v2 = 0 ∨ v2 = 1) ∧ C v2 h3)))

theorem R82_56 {d : Nat} {a1 : Int32} {h : TH} {C : Int32 → TH → Prop} (hL : Lay h) (hW : B82_56 a1 h C) : xEk (d + 1) 82 (56, [(0, .ref 15), (1, .int a1)], [], h.X) (postI C) := by
  unfold B82_56 at hW
  refine kst rfl rfl ?_
  refine wgetP (b := 9) rfl (oK4 hL rfl) rfl (oP4_0 hL) ?_
  refine wgetI rfl (oK9 hL rfl) rfl ?_
  refine kst rfl rfl ?_
  refine wcm_ne rfl hW (fun hW => ?_) (fun hW => ?_)
  · refine kst rfl rfl ?_
    refine kre rfl rfl ?_
    exact ⟨_, _, rfl, hL, hW⟩
  · refine kst rfl rfl ?_
    refine wgetP (b := 16) rfl (oK4 hL rfl) rfl (oP4_1 hL) ?_
    refine kst rfl rfl ?_
    refine wgetI rfl (oK3 hL is_4_1) rfl ?_
    iterate 4 (refine kst rfl rfl ?_)
    refine wputI rfl (oK3 hL is_4_1) rfl ?_
    replace hL : Lay (h.sI 16 4 ((h.I 16 4) ||| (ishl 1 a1))) := lsI hL
    refine kst rfl rfl ?_
    refine wgetP (b := 9) rfl (oK4 hL rfl) rfl (oP4_0 hL) ?_
    refine wcvV rfl (oK9 hL rfl) rfl rfl (R133 (d := d + 0) (h := (h.sI 16 4 ((h.I 16 4) ||| (ishl 1 a1)))) hL hW) (fun h1 hL hW => ?_)
    refine kst rfl rfl ?_
    refine kre rfl rfl ?_
    exact ⟨_, _, rfl, hL, hW⟩
theorem R82 {d : Nat} {a1 : Int32} {h : TH} {C : Int32 → TH → Prop} (hL : Lay h) (hW : W82 a1 h C) : xPk (d + 1) 82 [.ref 15, .int a1] h.X (postI C) := by
  unfold W82 at hW
  refine kin (Nat.le_of_ble_eq_true rfl) ?_
  refine kst rfl rfl ?_
  refine wgetP (b := 9) rfl (oK4 hL rfl) rfl (oP4_0 hL) ?_
  refine wgetI rfl (oK9 hL rfl) rfl ?_
  refine kst rfl rfl ?_
  refine wcm_ne rfl hW (fun hW => ?_) (fun hW => ?_)
  · refine wjp ?_ (R82_56 (h := h) hL hW)
    exact ⟨rfl, rfl, trivial⟩
  · refine kst rfl rfl ?_
    refine wgetP (b := 16) rfl (oK4 hL rfl) rfl (oP4_1 hL) ?_
    refine wgetP (b := (16 + 6)) rfl (oK3 hL is_4_1) rfl (oP3_10 hL is_4_1) ?_
    refine kst rfl rfl ?_
    obtain ⟨q1, hW⟩ := hW
    refine wald rfl (Or.inl (aK3_10 hL is_4_1)) (aN3_10 hL is_4_1) (by decide) q1 ?_
    refine wif_ne rfl hW (fun hW => ?_) (fun hW => ?_)
    · refine kst rfl rfl ?_
      refine wgetP (b := 16) rfl (oK4 hL rfl) rfl (oP4_1 hL) ?_
      refine kst rfl rfl ?_
      refine wgetI rfl (oK3 hL is_4_1) rfl ?_
      iterate 4 (refine kst rfl rfl ?_)
      refine wputI rfl (oK3 hL is_4_1) rfl ?_
      replace hL : Lay (h.sI 16 3 ((h.I 16 3) ||| (ishl 1 a1))) := lsI hL
      refine kst rfl rfl ?_
      refine wgetP (b := 9) rfl (oK4 hL rfl) rfl (oP4_0 hL) ?_
      refine wcvV rfl (oK9 hL rfl) rfl rfl (R133 (d := d + 0) (h := (h.sI 16 3 ((h.I 16 3) ||| (ishl 1 a1)))) hL hW) (fun h1 hL hW => ?_)
      refine wjp ?_ (R82_56 (h := h1) hL hW)
      exact ⟨rfl, rfl, trivial⟩
    · refine kst rfl rfl ?_
      refine wgetP (b := 9) rfl (oK4 hL rfl) rfl (oP4_0 hL) ?_
      refine kst rfl rfl ?_
      refine wcvI rfl (oK9 hL rfl) rfl rfl (R135 (d := d + 0) (h := h) hL hW) (fun v2 h3 hL hW => ?_)
      obtain ⟨q2, hW⟩ := hW
      refine wrZ rfl q2 ?_
      exact ⟨_, _, rfl, hL, hW⟩
/-- 77: MenuReader readDish -/
def W77 (h : TH) (C : Int32 → TH → Prop) : Prop :=
  if (h.I 16 1) < 12 then (W133  h (fun h1 => W78 (h1.I 16 1) h1 (fun v2 h3 => if v2 = 0 then (C 0 h3) else (W79 (h1.I 16 1) h3 (fun v4 h5 => if v4 = 0 then (C 0 h5) else (W81 (h1.I 16 1) h5 (fun v6 h7 => if v6 = 0 then (C 0 h7) else (W82 (h1.I 16 1) h7 (fun v8 h9 => if v8 = 0 then (C 0 h9) else (W137 33 h9 (fun v10 h11 => if ¬ v10 = 0 then (inb (h1.I 16 1) 12 ∧ C 1 ((h11.sI (16 + 7) (ix (h1.I 16 1)) (-1)).sI 16 1 (((h11.sI (16 + 7) (ix (h1.I 16 1)) (-1)).I 16 1) + 1))) else (C 0 h11)))))))))))) else (W135 6 h (fun v12 h13 => (v12 = 0 ∨ v12 = 1) ∧ C v12 h13))

theorem R77 {d : Nat} {h : TH} {C : Int32 → TH → Prop} (hL : Lay h) (hW : W77  h C) : xPk (d + 5) 77 [.ref 15] h.X (postI C) := by
  unfold W77 at hW
  refine kin (Nat.le_of_ble_eq_true rfl) ?_
  refine kst rfl rfl ?_
  refine wgetP (b := 16) rfl (oK4 hL rfl) rfl (oP4_1 hL) ?_
  refine wgetI rfl (oK3 hL is_4_1) rfl ?_
  refine kst rfl rfl ?_
  refine wcm_lt rfl hW (fun hW => ?_) (fun hW => ?_)
  · refine kst rfl rfl ?_
    refine wgetP (b := 9) rfl (oK4 hL rfl) rfl (oP4_0 hL) ?_
    refine wcvV rfl (oK9 hL rfl) rfl rfl (R133 (d := d + 4) (h := h) hL hW) (fun h1 hL hW => ?_)
    refine kst rfl rfl ?_
    refine wgetP (b := 16) rfl (oK4 hL rfl) rfl (oP4_1 hL) ?_
    refine wgetI rfl (oK3 hL is_4_1) rfl ?_
    iterate 3 (refine kst rfl rfl ?_)
    refine wcvI rfl (oK4 hL rfl) rfl rfl (R78 (d := d + 2) (h := h1) hL hW) (fun v2 h3 hL hW => ?_)
    refine wif_eq rfl hW (fun hW => ?_) (fun hW => ?_)
    · refine kst rfl rfl ?_
      refine kre rfl rfl ?_
      exact ⟨_, _, rfl, hL, hW⟩
    · iterate 2 (refine kst rfl rfl ?_)
      refine wcvI rfl (oK4 hL rfl) rfl rfl (R79 (d := d + 0) (h := h3) hL hW) (fun v4 h5 hL hW => ?_)
      refine wif_eq rfl hW (fun hW => ?_) (fun hW => ?_)
      · refine kst rfl rfl ?_
        refine kre rfl rfl ?_
        exact ⟨_, _, rfl, hL, hW⟩
      · iterate 2 (refine kst rfl rfl ?_)
        refine wcvI rfl (oK4 hL rfl) rfl rfl (R81 (d := d + 2) (h := h5) hL hW) (fun v6 h7 hL hW => ?_)
        refine wif_eq rfl hW (fun hW => ?_) (fun hW => ?_)
        · refine kst rfl rfl ?_
          refine kre rfl rfl ?_
          exact ⟨_, _, rfl, hL, hW⟩
        · iterate 2 (refine kst rfl rfl ?_)
          refine wcvI rfl (oK4 hL rfl) rfl rfl (R82 (d := d + 3) (h := h7) hL hW) (fun v8 h9 hL hW => ?_)
          refine wif_eq rfl hW (fun hW => ?_) (fun hW => ?_)
          · refine kst rfl rfl ?_
            refine kre rfl rfl ?_
            exact ⟨_, _, rfl, hL, hW⟩
          · refine kst rfl rfl ?_
            refine wgetP (b := 9) rfl (oK4 hL rfl) rfl (oP4_0 hL) ?_
            refine kst rfl rfl ?_
            refine wcvI rfl (oK9 hL rfl) rfl rfl (R137 (d := d + 2) (h := h9) hL hW) (fun v10 h11 hL hW => ?_)
            refine wif_ne rfl hW (fun hW => ?_) (fun hW => ?_)
            · refine kst rfl rfl ?_
              refine wgetP (b := 16) rfl (oK4 hL rfl) rfl (oP4_1 hL) ?_
              refine wgetP (b := (16 + 7)) rfl (oK3 hL is_4_1) rfl (oP3_11 hL is_4_1) ?_
              iterate 2 (refine kst rfl rfl ?_)
              obtain ⟨q1, hW⟩ := hW
              refine wast rfl (aK3_11 hL is_4_1) (aN3_11 hL is_4_1) (by decide) q1 ?_
              replace hL : Lay (h11.sI (16 + 7) (ix (h1.I 16 1)) (-1)) := lsI hL
              refine kst rfl rfl ?_
              refine wgetP (b := 16) rfl (oK4 hL rfl) rfl (oP4_1 hL) ?_
              refine kst rfl rfl ?_
              refine wgetI rfl (oK3 hL is_4_1) rfl ?_
              iterate 2 (refine kst rfl rfl ?_)
              refine wputI rfl (oK3 hL is_4_1) rfl ?_
              replace hL : Lay ((h11.sI (16 + 7) (ix (h1.I 16 1)) (-1)).sI 16 1 (((h11.sI (16 + 7) (ix (h1.I 16 1)) (-1)).I 16 1) + 1)) := lsI hL
              refine kst rfl rfl ?_
              refine kre rfl rfl ?_
              exact ⟨_, _, rfl, hL, hW⟩
            · refine kst rfl rfl ?_
              refine kre rfl rfl ?_
              exact ⟨_, _, rfl, hL, hW⟩
  · refine kst rfl rfl ?_
    refine wgetP (b := 9) rfl (oK4 hL rfl) rfl (oP4_0 hL) ?_
    refine kst rfl rfl ?_
    refine wcvI rfl (oK9 hL rfl) rfl rfl (R135 (d := d + 4) (h := h) hL hW) (fun v12 h13 hL hW => ?_)
    obtain ⟨q1, hW⟩ := hW
    refine wrZ rfl q1 ?_
    exact ⟨_, _, rfl, hL, hW⟩
/-- 85: MenuReader canPair -/
def W85 (a1 : Int32) (a2 : Int32) (h : TH) (C : Int32 → Prop) : Prop :=
  if a1 = a2 then (C 0) else (W66 16 a1 h (fun v1 => if ¬ (v1 &&& (ishl 1 a2)) = 0 then (C 0) else (W66 16 a2 h (fun v2 => if ¬ (v2 &&& (ishl 1 a1)) = 0 then (C 0) else (C 1)))))

theorem R85 {d : Nat} {a1 : Int32} {a2 : Int32} {h : TH} {C : Int32 → Prop} (hL : Lay h) (hW : W85 a1 a2 h C) : xPk (d + 1) 85 [.ref 15, .int a1, .int a2] h.X (qostI h C) := by
  unfold W85 at hW
  refine kin (Nat.le_of_ble_eq_true rfl) ?_
  iterate 2 (refine kst rfl rfl ?_)
  refine wcm_eq rfl hW (fun hW => ?_) (fun hW => ?_)
  · refine kst rfl rfl ?_
    refine kre rfl rfl ?_
    exact ⟨_, rfl, hW⟩
  · refine kst rfl rfl ?_
    refine wgetP (b := 16) rfl (oK4 hL rfl) rfl (oP4_1 hL) ?_
    refine kst rfl rfl ?_
    refine qcvI rfl (oK3 hL is_4_1) rfl rfl (R66 (d := d + 0) (h := h) is_4_1 hL hW) (fun v1 hW => ?_)
    iterate 4 (refine kst rfl rfl ?_)
    refine wif_ne rfl hW (fun hW => ?_) (fun hW => ?_)
    · refine kst rfl rfl ?_
      refine kre rfl rfl ?_
      exact ⟨_, rfl, hW⟩
    · refine kst rfl rfl ?_
      refine wgetP (b := 16) rfl (oK4 hL rfl) rfl (oP4_1 hL) ?_
      refine kst rfl rfl ?_
      refine qcvI rfl (oK3 hL is_4_1) rfl rfl (R66 (d := d + 0) (h := h) is_4_1 hL hW) (fun v2 hW => ?_)
      iterate 4 (refine kst rfl rfl ?_)
      refine wif_ne rfl hW (fun hW => ?_) (fun hW => ?_)
      · refine kst rfl rfl ?_
        refine kre rfl rfl ?_
        exact ⟨_, rfl, hW⟩
      · iterate 2 (refine kst rfl rfl ?_)
        refine kre rfl rfl ?_
        exact ⟨_, rfl, hW⟩
/-- 84: MenuReader readPartner -/
def B84_78 (h : TH) (C : Int32 → TH → Prop) : Prop :=
  W135 5 h (fun v4 h5 => C (-1) h5)
def W84 (a1 : Int32) (h : TH) (C : Int32 → TH → Prop) : Prop :=
  if (h.I 9 9) = 30 then (W134  h (fun v1 => W59 16 v1 h (fun v2 => if ¬ v2 = (-1) then (W61 16 v2 h (fun v3 => if v3 = 0 then (B84_78 h C) else (if a1 = (-1) then (W133  h (fun h4 => C v2 h4)) else (W85 a1 v2 h (fun v5 => if ¬ v5 = 0 then (W133  h (fun h6 => C v2 h6)) else (B84_78 h C)))))) else (W135 3 h (fun v7 h8 => C (-1) h8))))) else (W136  h (fun v9 h10 => C (-1) h10))

theorem R84_78 {d : Nat} {h : TH} {C : Int32 → TH → Prop} (hL : Lay h) (hW : B84_78 h C) : xEk (d + 2) 84 (78, [(0, .ref 15)], [], h.X) (postI C) := by
  unfold B84_78 at hW
  refine kst rfl rfl ?_
  refine wgetP (b := 9) rfl (oK4 hL rfl) rfl (oP4_0 hL) ?_
  refine kst rfl rfl ?_
  refine wcvI rfl (oK9 hL rfl) rfl rfl (R135 (d := d + 1) (h := h) hL hW) (fun v4 h5 hL hW => ?_)
  iterate 2 (refine kst rfl rfl ?_)
  refine kre rfl rfl ?_
  exact ⟨_, _, rfl, hL, hW⟩
theorem R84 {d : Nat} {a1 : Int32} {h : TH} {C : Int32 → TH → Prop} (hL : Lay h) (hW : W84 a1 h C) : xPk (d + 2) 84 [.ref 15, .int a1] h.X (postI C) := by
  unfold W84 at hW
  refine kin (Nat.le_of_ble_eq_true rfl) ?_
  refine kst rfl rfl ?_
  refine wgetP (b := 9) rfl (oK4 hL rfl) rfl (oP4_0 hL) ?_
  refine wgetI rfl (oK9 hL rfl) rfl ?_
  refine kst rfl rfl ?_
  refine wcm_eq rfl hW (fun hW => ?_) (fun hW => ?_)
  · refine kst rfl rfl ?_
    refine wgetP (b := 16) rfl (oK4 hL rfl) rfl (oP4_1 hL) ?_
    refine kst rfl rfl ?_
    refine wgetP (b := 9) rfl (oK4 hL rfl) rfl (oP4_0 hL) ?_
    refine qcvL rfl (oK9 hL rfl) rfl rfl (R134 (d := d + 1) (h := h) hL hW) (fun v1 hW => ?_)
    refine qcvI rfl (oK3 hL is_4_1) rfl rfl (R59 (d := d + 1) (h := h) is_4_1 hL hW) (fun v2 hW => ?_)
    iterate 3 (refine kst rfl rfl ?_)
    refine wcm_ne rfl hW (fun hW => ?_) (fun hW => ?_)
    · refine kst rfl rfl ?_
      refine wgetP (b := 16) rfl (oK4 hL rfl) rfl (oP4_1 hL) ?_
      refine kst rfl rfl ?_
      refine qcvI rfl (oK3 hL is_4_1) rfl rfl (R61 (d := d + 1) (h := h) is_4_1 hL hW) (fun v3 hW => ?_)
      refine wif_eq rfl hW (fun hW => ?_) (fun hW => ?_)
      · refine wjp ?_ (R84_78 (h := h) hL hW)
        exact ⟨rfl, trivial⟩
      · iterate 2 (refine kst rfl rfl ?_)
        refine wcm_eq rfl hW (fun hW => ?_) (fun hW => ?_)
        · refine kst rfl rfl ?_
          refine wgetP (b := 9) rfl (oK4 hL rfl) rfl (oP4_0 hL) ?_
          refine wcvV rfl (oK9 hL rfl) rfl rfl (R133 (d := d + 1) (h := h) hL hW) (fun h4 hL hW => ?_)
          refine kst rfl rfl ?_
          refine kre rfl rfl ?_
          exact ⟨_, _, rfl, hL, hW⟩
        · iterate 3 (refine kst rfl rfl ?_)
          refine qcvI rfl (oK4 hL rfl) rfl rfl (R85 (d := d + 0) (h := h) hL hW) (fun v5 hW => ?_)
          refine wif_ne rfl hW (fun hW => ?_) (fun hW => ?_)
          · refine kst rfl rfl ?_
            refine wgetP (b := 9) rfl (oK4 hL rfl) rfl (oP4_0 hL) ?_
            refine wcvV rfl (oK9 hL rfl) rfl rfl (R133 (d := d + 1) (h := h) hL hW) (fun h6 hL hW => ?_)
            refine kst rfl rfl ?_
            refine kre rfl rfl ?_
            exact ⟨_, _, rfl, hL, hW⟩
          · refine wjp ?_ (R84_78 (h := h) hL hW)
            exact ⟨rfl, trivial⟩
    · refine kst rfl rfl ?_
      refine wgetP (b := 9) rfl (oK4 hL rfl) rfl (oP4_0 hL) ?_
      refine kst rfl rfl ?_
      refine wcvI rfl (oK9 hL rfl) rfl rfl (R135 (d := d + 1) (h := h) hL hW) (fun v7 h8 hL hW => ?_)
      iterate 2 (refine kst rfl rfl ?_)
      refine kre rfl rfl ?_
      exact ⟨_, _, rfl, hL, hW⟩
  · refine kst rfl rfl ?_
    refine wgetP (b := 9) rfl (oK4 hL rfl) rfl (oP4_0 hL) ?_
    refine wcvI rfl (oK9 hL rfl) rfl rfl (R136 (d := d + 0) (h := h) hL hW) (fun v9 h10 hL hW => ?_)
    iterate 2 (refine kst rfl rfl ?_)
    refine kre rfl rfl ?_
    exact ⟨_, _, rfl, hL, hW⟩
/-- 83: MenuReader readPair -/
def W83 (h : TH) (C : Int32 → TH → Prop) : Prop :=
  W133  h (fun h1 => W84 (-1) h1 (fun v2 h3 => if ¬ v2 = (-1) then (W84 v2 h3 (fun v4 h5 => if v4 = (-1) then (C 0 h5) else (W137 33 h5 (fun v6 h7 => if ¬ v6 = 0 then (inb v2 12 ∧ inb v4 12 ∧ C 1 ((h7.sI (16 + 7) (ix v2) v4).sI (16 + 7) (ix v4) v2)) else (C 0 h7))))) else (C 0 h3)))

theorem R83 {d : Nat} {h : TH} {C : Int32 → TH → Prop} (hL : Lay h) (hW : W83  h C) : xPk (d + 3) 83 [.ref 15] h.X (postI C) := by
  unfold W83 at hW
  refine kin (Nat.le_of_ble_eq_true rfl) ?_
  refine kst rfl rfl ?_
  refine wgetP (b := 9) rfl (oK4 hL rfl) rfl (oP4_0 hL) ?_
  refine wcvV rfl (oK9 hL rfl) rfl rfl (R133 (d := d + 2) (h := h) hL hW) (fun h1 hL hW => ?_)
  iterate 2 (refine kst rfl rfl ?_)
  refine wcvI rfl (oK4 hL rfl) rfl rfl (R84 (d := d + 0) (h := h1) hL hW) (fun v2 h3 hL hW => ?_)
  iterate 3 (refine kst rfl rfl ?_)
  refine wcm_ne rfl hW (fun hW => ?_) (fun hW => ?_)
  · iterate 2 (refine kst rfl rfl ?_)
    refine wcvI rfl (oK4 hL rfl) rfl rfl (R84 (d := d + 0) (h := h3) hL hW) (fun v4 h5 hL hW => ?_)
    iterate 3 (refine kst rfl rfl ?_)
    refine wcm_eq rfl hW (fun hW => ?_) (fun hW => ?_)
    · refine kst rfl rfl ?_
      refine kre rfl rfl ?_
      exact ⟨_, _, rfl, hL, hW⟩
    · refine kst rfl rfl ?_
      refine wgetP (b := 9) rfl (oK4 hL rfl) rfl (oP4_0 hL) ?_
      refine kst rfl rfl ?_
      refine wcvI rfl (oK9 hL rfl) rfl rfl (R137 (d := d + 0) (h := h5) hL hW) (fun v6 h7 hL hW => ?_)
      refine wif_ne rfl hW (fun hW => ?_) (fun hW => ?_)
      · refine kst rfl rfl ?_
        refine wgetP (b := 16) rfl (oK4 hL rfl) rfl (oP4_1 hL) ?_
        refine wgetP (b := (16 + 7)) rfl (oK3 hL is_4_1) rfl (oP3_11 hL is_4_1) ?_
        iterate 2 (refine kst rfl rfl ?_)
        obtain ⟨q1, hW⟩ := hW
        refine wast rfl (aK3_11 hL is_4_1) (aN3_11 hL is_4_1) (by decide) q1 ?_
        replace hL : Lay (h7.sI (16 + 7) (ix v2) v4) := lsI hL
        refine kst rfl rfl ?_
        refine wgetP (b := 16) rfl (oK4 hL rfl) rfl (oP4_1 hL) ?_
        refine wgetP (b := (16 + 7)) rfl (oK3 hL is_4_1) rfl (oP3_11 hL is_4_1) ?_
        iterate 2 (refine kst rfl rfl ?_)
        obtain ⟨q2, hW⟩ := hW
        refine wast rfl (aK3_11 hL is_4_1) (aN3_11 hL is_4_1) (by decide) q2 ?_
        replace hL : Lay ((h7.sI (16 + 7) (ix v2) v4).sI (16 + 7) (ix v4) v2) := lsI hL
        refine kst rfl rfl ?_
        refine kre rfl rfl ?_
        exact ⟨_, _, rfl, hL, hW⟩
      · refine kst rfl rfl ?_
        refine kre rfl rfl ?_
        exact ⟨_, _, rfl, hL, hW⟩
  · refine kst rfl rfl ?_
    refine kre rfl rfl ?_
    exact ⟨_, _, rfl, hL, hW⟩
/-- 86: MenuReader readPots -/
def B86_114 (x1 : Int32) (h : TH) (C : Int32 → TH → Prop) (X48 : Int32 × TH → Prop) : Prop :=
  W138 1 9 h (fun v6 h7 => if ¬ v6 = (-1) then (inb (h7.I 16 2) 8 ∧ X48 ((x1 + 1), ((h7.sI (16 + 8) (ix (h7.I 16 2)) v6).sI 16 2 (((h7.sI (16 + 8) (ix (h7.I 16 2)) v6).I 16 2) + 1)))) else (C 0 h7))
def F86_48 (C : Int32 → TH → Prop) (X48 : Int32 × TH → Prop) : Int32 × TH → Prop := fun
  | (x1, h) =>
    if 8 < x1 then (W137 33 h (fun v2 h3 => (v2 = 0 ∨ v2 = 1) ∧ C v2 h3)) else (if ¬ (h.I 9 9) = 32 then (W137 33 h (fun v4 h5 => (v4 = 0 ∨ v4 = 1) ∧ C v4 h5)) else (if (h.I 16 2) < 8 then (B86_114 x1 h C X48) else (W134  h (fun v6 => if (lg_cmp v6 1) < 0 then (B86_114 x1 h C X48) else (W134  h (fun v7 => if 0 < (lg_cmp v7 9) then (B86_114 x1 h C X48) else (W135 6 h (fun v8 h9 => (v8 = 0 ∨ v8 = 1) ∧ C v8 h9))))))))
def B86_48 (x1 : Int32) (h : TH) (C : Int32 → TH → Prop) : Prop := LFP (F86_48 C) (x1, h)
def W86 (h : TH) (C : Int32 → TH → Prop) : Prop :=
  if (h.I 16 2) ≤ 0 then (W133  h (fun h1 => if (h1.I 9 9) = 32 then (B86_48 0 h1 C) else (W136  h1 (fun v2 h3 => (v2 = 0 ∨ v2 = 1) ∧ C v2 h3)))) else (W135 5 h (fun v4 h5 => (v4 = 0 ∨ v4 = 1) ∧ C v4 h5))

theorem R86_114 {d : Nat} {x1 : Int32} {h : TH} {C : Int32 → TH → Prop} {X48 : Int32 × TH → Prop} (k48 : ∀ s : Int32 × TH, X48 s → Lay (s.2) → xEk (d + 3) 86 (48, [(0, .ref 15), (1, .int (s.1))], [], (TH.X (s.2))) (postI C)) (hL : Lay h) (hW : B86_114 x1 h C X48) : xEk (d + 3) 86 (114, [(0, .ref 15), (1, .int x1)], [], h.X) (postI C) := by
  unfold B86_114 at hW
  refine kst rfl rfl ?_
  refine wgetP (b := 9) rfl (oK4 hL rfl) rfl (oP4_0 hL) ?_
  iterate 2 (refine kst rfl rfl ?_)
  refine wcvI rfl (oK9 hL rfl) rfl rfl (R138 (d := d + 0) (h := h) hL hW) (fun v6 h7 hL hW => ?_)
  iterate 3 (refine kst rfl rfl ?_)
  refine wcm_ne rfl hW (fun hW => ?_) (fun hW => ?_)
  · refine kst rfl rfl ?_
    refine wgetP (b := 16) rfl (oK4 hL rfl) rfl (oP4_1 hL) ?_
    refine wgetP (b := (16 + 8)) rfl (oK3 hL is_4_1) rfl (oP3_12 hL is_4_1) ?_
    refine kst rfl rfl ?_
    refine wgetP (b := 16) rfl (oK4 hL rfl) rfl (oP4_1 hL) ?_
    refine wgetI rfl (oK3 hL is_4_1) rfl ?_
    refine kst rfl rfl ?_
    obtain ⟨q1, hW⟩ := hW
    refine wast rfl (aK3_12 hL is_4_1) (aN3_12 hL is_4_1) (by decide) q1 ?_
    replace hL : Lay (h7.sI (16 + 8) (ix (h7.I 16 2)) v6) := lsI hL
    refine kst rfl rfl ?_
    refine wgetP (b := 16) rfl (oK4 hL rfl) rfl (oP4_1 hL) ?_
    refine kst rfl rfl ?_
    refine wgetI rfl (oK3 hL is_4_1) rfl ?_
    iterate 2 (refine kst rfl rfl ?_)
    refine wputI rfl (oK3 hL is_4_1) rfl ?_
    replace hL : Lay ((h7.sI (16 + 8) (ix (h7.I 16 2)) v6).sI 16 2 (((h7.sI (16 + 8) (ix (h7.I 16 2)) v6).I 16 2) + 1)) := lsI hL
    iterate 2 (refine kst rfl rfl ?_)
    have z9 := k48 ((x1 + 1), ((h7.sI (16 + 8) (ix (h7.I 16 2)) v6).sI 16 2 (((h7.sI (16 + 8) (ix (h7.I 16 2)) v6).I 16 2) + 1))) hW hL
    refine wjp ?_ z9
    exact ⟨rfl, rfl, trivial⟩
  · refine kst rfl rfl ?_
    refine kre rfl rfl ?_
    exact ⟨_, _, rfl, hL, hW⟩
theorem R86_48 {d : Nat} {x1 : Int32} {h : TH} {C : Int32 → TH → Prop} (hL : Lay h) (hW : B86_48 x1 h C) : xEk (d + 3) 86 (48, [(0, .ref 15), (1, .int x1)], [], h.X) (postI C) := by
  refine hW (fun s => Lay (s.2) → xEk (d + 3) 86 (48, [(0, .ref 15), (1, .int (s.1))], [], (TH.X (s.2))) (postI C)) ?_ hL
  rintro ⟨x1, h⟩ hW hL
  have k48 : ∀ s : Int32 × TH, (fun s => Lay (s.2) → xEk (d + 3) 86 (48, [(0, .ref 15), (1, .int (s.1))], [], (TH.X (s.2))) (postI C)) s → Lay (s.2) → xEk (d + 3) 86 (48, [(0, .ref 15), (1, .int (s.1))], [], (TH.X (s.2))) (postI C) := fun s hs => hs
  unfold F86_48 at hW
  dsimp only at hW
  iterate 2 (refine kst rfl rfl ?_)
  refine wcm_gt rfl hW (fun hW => ?_) (fun hW => ?_)
  · refine kst rfl rfl ?_
    refine wgetP (b := 9) rfl (oK4 hL rfl) rfl (oP4_0 hL) ?_
    refine kst rfl rfl ?_
    refine wcvI rfl (oK9 hL rfl) rfl rfl (R137 (d := d + 0) (h := h) hL hW) (fun v2 h3 hL hW => ?_)
    obtain ⟨q1, hW⟩ := hW
    refine wrZ rfl q1 ?_
    exact ⟨_, _, rfl, hL, hW⟩
  · refine kst rfl rfl ?_
    refine wgetP (b := 9) rfl (oK4 hL rfl) rfl (oP4_0 hL) ?_
    refine wgetI rfl (oK9 hL rfl) rfl ?_
    refine kst rfl rfl ?_
    refine wcm_ne rfl hW (fun hW => ?_) (fun hW => ?_)
    · refine kst rfl rfl ?_
      refine wgetP (b := 9) rfl (oK4 hL rfl) rfl (oP4_0 hL) ?_
      refine kst rfl rfl ?_
      refine wcvI rfl (oK9 hL rfl) rfl rfl (R137 (d := d + 0) (h := h) hL hW) (fun v4 h5 hL hW => ?_)
      obtain ⟨q1, hW⟩ := hW
      refine wrZ rfl q1 ?_
      exact ⟨_, _, rfl, hL, hW⟩
    · refine kst rfl rfl ?_
      refine wgetP (b := 16) rfl (oK4 hL rfl) rfl (oP4_1 hL) ?_
      refine wgetI rfl (oK3 hL is_4_1) rfl ?_
      refine kst rfl rfl ?_
      refine wcm_lt rfl hW (fun hW => ?_) (fun hW => ?_)
      · refine wjp ?_ (R86_114 (h := h) k48 hL hW)
        exact ⟨rfl, rfl, trivial⟩
      · refine kst rfl rfl ?_
        refine wgetP (b := 9) rfl (oK4 hL rfl) rfl (oP4_0 hL) ?_
        refine qcvL rfl (oK9 hL rfl) rfl rfl (R134 (d := d + 2) (h := h) hL hW) (fun v6 hW => ?_)
        iterate 2 (refine kst rfl rfl ?_)
        refine wif_lt rfl hW (fun hW => ?_) (fun hW => ?_)
        · refine wjp ?_ (R86_114 (h := h) k48 hL hW)
          exact ⟨rfl, rfl, trivial⟩
        · refine kst rfl rfl ?_
          refine wgetP (b := 9) rfl (oK4 hL rfl) rfl (oP4_0 hL) ?_
          refine qcvL rfl (oK9 hL rfl) rfl rfl (R134 (d := d + 2) (h := h) hL hW) (fun v7 hW => ?_)
          iterate 2 (refine kst rfl rfl ?_)
          refine wif_gt rfl hW (fun hW => ?_) (fun hW => ?_)
          · refine wjp ?_ (R86_114 (h := h) k48 hL hW)
            exact ⟨rfl, rfl, trivial⟩
          · refine kst rfl rfl ?_
            refine wgetP (b := 9) rfl (oK4 hL rfl) rfl (oP4_0 hL) ?_
            refine kst rfl rfl ?_
            refine wcvI rfl (oK9 hL rfl) rfl rfl (R135 (d := d + 2) (h := h) hL hW) (fun v8 h9 hL hW => ?_)
            obtain ⟨q1, hW⟩ := hW
            refine wrZ rfl q1 ?_
            exact ⟨_, _, rfl, hL, hW⟩
theorem R86 {d : Nat} {h : TH} {C : Int32 → TH → Prop} (hL : Lay h) (hW : W86  h C) : xPk (d + 3) 86 [.ref 15] h.X (postI C) := by
  unfold W86 at hW
  refine kin (Nat.le_of_ble_eq_true rfl) ?_
  refine kst rfl rfl ?_
  refine wgetP (b := 16) rfl (oK4 hL rfl) rfl (oP4_1 hL) ?_
  refine wgetI rfl (oK3 hL is_4_1) rfl ?_
  refine wif_le rfl hW (fun hW => ?_) (fun hW => ?_)
  · refine kst rfl rfl ?_
    refine wgetP (b := 9) rfl (oK4 hL rfl) rfl (oP4_0 hL) ?_
    refine wcvV rfl (oK9 hL rfl) rfl rfl (R133 (d := d + 2) (h := h) hL hW) (fun h1 hL hW => ?_)
    refine kst rfl rfl ?_
    refine wgetP (b := 9) rfl (oK4 hL rfl) rfl (oP4_0 hL) ?_
    refine wgetI rfl (oK9 hL rfl) rfl ?_
    refine kst rfl rfl ?_
    refine wcm_eq rfl hW (fun hW => ?_) (fun hW => ?_)
    · iterate 2 (refine kst rfl rfl ?_)
      refine wjp ?_ (R86_48 (h := h1) hL hW)
      exact ⟨rfl, rfl, trivial⟩
    · refine kst rfl rfl ?_
      refine wgetP (b := 9) rfl (oK4 hL rfl) rfl (oP4_0 hL) ?_
      refine wcvI rfl (oK9 hL rfl) rfl rfl (R136 (d := d + 1) (h := h1) hL hW) (fun v2 h3 hL hW => ?_)
      obtain ⟨q1, hW⟩ := hW
      refine wrZ rfl q1 ?_
      exact ⟨_, _, rfl, hL, hW⟩
  · refine kst rfl rfl ?_
    refine wgetP (b := 9) rfl (oK4 hL rfl) rfl (oP4_0 hL) ?_
    refine kst rfl rfl ?_
    refine wcvI rfl (oK9 hL rfl) rfl rfl (R135 (d := d + 2) (h := h) hL hW) (fun v4 h5 hL hW => ?_)
    obtain ⟨q1, hW⟩ := hW
    refine wrZ rfl q1 ?_
    exact ⟨_, _, rfl, hL, hW⟩
/-- 76: MenuReader readMenu -/
def B76_120 (h : TH) (C : Int32 → TH → Prop) : Prop :=
  W54 16 ((h.sI 15 2 ((h.I 15 2) + 1)).I 15 2) (h.sI 15 2 ((h.I 15 2) + 1)) (fun h3 => C 1 h3)
def B76_108 (x2 : Int32) (x3 : Int32) (h : TH) (C : Int32 → TH → Prop) (X17 : Int32 × TH → Prop) : Prop :=
  if ¬ x3 = 0 then (X17 ((x2 + 1), h)) else (C 0 h)
def F76_17 (C : Int32 → TH → Prop) (X17 : Int32 × TH → Prop) : Int32 × TH → Prop := fun
  | (x2, h) =>
    if 900 < x2 then (B76_120 h C) else (if (h.I 9 9) = 34 then (B76_120 h C) else (if (h.I 9 9) = 0 then (W77  h (fun v3 h4 => B76_108 x2 v3 h4 C X17)) else if (h.I 9 9) = 8 then (W83  h (fun v5 h6 => B76_108 x2 v5 h6 C X17)) else if (h.I 9 9) = 9 then (W86  h (fun v7 h8 => B76_108 x2 v7 h8 C X17)) else (W136  h (fun v9 h10 => B76_108 x2 v9 h10 C X17))))
def B76_17 (x2 : Int32) (h : TH) (C : Int32 → TH → Prop) : Prop := LFP (F76_17 C) (x2, h)
def W76 (a1 : Int32) (h : TH) (C : Int32 → TH → Prop) : Prop :=
  W52 16 h (fun h1 => W126 a1 h1 (fun h2 => B76_17 0 h2 C))

theorem R76_120 {d : Nat} {h : TH} {C : Int32 → TH → Prop} (hL : Lay h) (hW : B76_120 h C) : xEk (d + 6) 76 (120, [(0, .ref 15)], [], h.X) (postI C) := by
  unfold B76_120 at hW
  iterate 2 (refine kst rfl rfl ?_)
  refine wgetI rfl (oK4 hL rfl) rfl ?_
  iterate 2 (refine kst rfl rfl ?_)
  refine wputI rfl (oK4 hL rfl) rfl ?_
  replace hL : Lay (h.sI 15 2 ((h.I 15 2) + 1)) := lsI hL
  refine kst rfl rfl ?_
  refine wgetP (b := 16) rfl (oK4 hL rfl) rfl (oP4_1 hL) ?_
  refine kst rfl rfl ?_
  refine wgetI rfl (oK4 hL rfl) rfl ?_
  refine wcvV rfl (oK3 hL is_4_1) rfl rfl (R54 (d := d + 2) (h := (h.sI 15 2 ((h.I 15 2) + 1))) is_4_1 hL hW) (fun h3 hL hW => ?_)
  refine kst rfl rfl ?_
  refine kre rfl rfl ?_
  exact ⟨_, _, rfl, hL, hW⟩
theorem R76_108 {d : Nat} {x2 : Int32} {x3 : Int32} {h : TH} {C : Int32 → TH → Prop} {X17 : Int32 × TH → Prop} (k17 : ∀ s : Int32 × TH, X17 s → Lay (s.2) → xEk (d + 6) 76 (17, [(0, .ref 15), (2, .int (s.1))], [], (TH.X (s.2))) (postI C)) (hL : Lay h) (hW : B76_108 x2 x3 h C X17) : xEk (d + 6) 76 (108, [(0, .ref 15), (2, .int x2), (3, .int x3)], [], h.X) (postI C) := by
  unfold B76_108 at hW
  refine kst rfl rfl ?_
  refine wif_ne rfl hW (fun hW => ?_) (fun hW => ?_)
  · iterate 2 (refine kst rfl rfl ?_)
    have z9 := k17 ((x2 + 1), h) hW hL
    refine wjp ?_ z9
    exact ⟨rfl, rfl, trivial⟩
  · refine kst rfl rfl ?_
    refine kre rfl rfl ?_
    exact ⟨_, _, rfl, hL, hW⟩
theorem R76_17 {d : Nat} {x2 : Int32} {h : TH} {C : Int32 → TH → Prop} (hL : Lay h) (hW : B76_17 x2 h C) : xEk (d + 6) 76 (17, [(0, .ref 15), (2, .int x2)], [], h.X) (postI C) := by
  refine hW (fun s => Lay (s.2) → xEk (d + 6) 76 (17, [(0, .ref 15), (2, .int (s.1))], [], (TH.X (s.2))) (postI C)) ?_ hL
  rintro ⟨x2, h⟩ hW hL
  have k17 : ∀ s : Int32 × TH, (fun s => Lay (s.2) → xEk (d + 6) 76 (17, [(0, .ref 15), (2, .int (s.1))], [], (TH.X (s.2))) (postI C)) s → Lay (s.2) → xEk (d + 6) 76 (17, [(0, .ref 15), (2, .int (s.1))], [], (TH.X (s.2))) (postI C) := fun s hs => hs
  unfold F76_17 at hW
  dsimp only at hW
  iterate 2 (refine kst rfl rfl ?_)
  refine wcm_gt rfl hW (fun hW => ?_) (fun hW => ?_)
  · refine wjp ?_ (R76_120 (h := h) hL hW)
    exact ⟨rfl, trivial⟩
  · refine kst rfl rfl ?_
    refine wgetP (b := 9) rfl (oK4 hL rfl) rfl (oP4_0 hL) ?_
    refine wgetI rfl (oK9 hL rfl) rfl ?_
    refine kst rfl rfl ?_
    refine wcm_eq rfl hW (fun hW => ?_) (fun hW => ?_)
    · refine wjp ?_ (R76_120 (h := h) hL hW)
      exact ⟨rfl, trivial⟩
    · refine kst rfl rfl ?_
      refine wgetP (b := 9) rfl (oK4 hL rfl) rfl (oP4_0 hL) ?_
      refine wgetI rfl (oK9 hL rfl) rfl ?_
      refine wsw hW (fun c0 hW => ?_) (fun c0 hW => ?_)
      · refine wswi (t := 76) rfl (fun _ => rfl) (swc c0 rfl) ?_
        refine kst rfl rfl ?_
        refine wcvI rfl (oK4 hL rfl) rfl rfl (R77 (d := d + 0) (h := h) hL hW) (fun v3 h4 hL hW => ?_)
        iterate 2 (refine kst rfl rfl ?_)
        refine wjp ?_ (R76_108 (h := h4) k17 hL hW)
        exact ⟨rfl, rfl, rfl, trivial⟩
      refine wsw hW (fun c1 hW => ?_) (fun c1 hW => ?_)
      · refine wswi (t := 84) rfl (fun _ => rfl) (swc c1 rfl) ?_
        refine kst rfl rfl ?_
        refine wcvI rfl (oK4 hL rfl) rfl rfl (R83 (d := d + 2) (h := h) hL hW) (fun v5 h6 hL hW => ?_)
        iterate 2 (refine kst rfl rfl ?_)
        refine wjp ?_ (R76_108 (h := h6) k17 hL hW)
        exact ⟨rfl, rfl, rfl, trivial⟩
      refine wsw hW (fun c2 hW => ?_) (fun c2 hW => ?_)
      · refine wswi (t := 92) rfl (fun _ => rfl) (swc c2 rfl) ?_
        refine kst rfl rfl ?_
        refine wcvI rfl (oK4 hL rfl) rfl rfl (R86 (d := d + 2) (h := h) hL hW) (fun v7 h8 hL hW => ?_)
        iterate 2 (refine kst rfl rfl ?_)
        refine wjp ?_ (R76_108 (h := h8) k17 hL hW)
        exact ⟨rfl, rfl, rfl, trivial⟩
      refine wswi (t := 100) rfl (fun _ => rfl) (by have z0 := i32ne (k := 0) c0 rfl; have z1 := i32ne (k := 8) c1 rfl; have z2 := i32ne (k := 9) c2 rfl; simp only [xsw, Op.lookupswitch.offset_cons, Op.lookupswitch.offset_nil]; rw [if_neg (Ne.symm z0)]; rw [if_neg (Ne.symm z1)]; rw [if_neg (Ne.symm z2)]; rfl) ?_
      refine kst rfl rfl ?_
      refine wgetP (b := 9) rfl (oK4 hL rfl) rfl (oP4_0 hL) ?_
      refine wcvI rfl (oK9 hL rfl) rfl rfl (R136 (d := d + 4) (h := h) hL hW) (fun v9 h10 hL hW => ?_)
      refine kst rfl rfl ?_
      refine wjp ?_ (R76_108 (h := h10) k17 hL hW)
      exact ⟨rfl, rfl, rfl, trivial⟩
theorem R76 {d : Nat} {a1 : Int32} {h : TH} {C : Int32 → TH → Prop} (hL : Lay h) (hW : W76 a1 h C) : xPk (d + 6) 76 [.ref 15, .int a1] h.X (postI C) := by
  unfold W76 at hW
  refine kin (Nat.le_of_ble_eq_true rfl) ?_
  refine kst rfl rfl ?_
  refine wgetP (b := 16) rfl (oK4 hL rfl) rfl (oP4_1 hL) ?_
  refine wcvV rfl (oK3 hL is_4_1) rfl rfl (R52 (d := d + 5) (h := h) is_4_1 hL hW) (fun h1 hL hW => ?_)
  refine kst rfl rfl ?_
  refine wgetP (b := 9) rfl (oK4 hL rfl) rfl (oP4_0 hL) ?_
  refine kst rfl rfl ?_
  refine wcvV rfl (oK9 hL rfl) rfl rfl (R126 (d := d + 2) (h := h1) hL hW) (fun h2 hL hW => ?_)
  iterate 2 (refine kst rfl rfl ?_)
  refine wjp ?_ (R76_17 (h := h2) hL hW)
  exact ⟨rfl, rfl, trivial⟩
/-- 88: Plan clear -/
def W88 (t : Nat) (h : TH) (C : TH → Prop) : Prop :=
  C ((h.sI t 0 0).sI t 1 0)

theorem R88 {d : Nat} {t : Nat} {h : TH} {C : TH → Prop} (ht : is5 t) (hL : Lay h) (hW : W88 t h C) : xPk d 88 [.ref t] h.X (postV C) := by
  unfold W88 at hW
  refine kin (Nat.le_of_ble_eq_true rfl) ?_
  iterate 2 (refine kst rfl rfl ?_)
  refine wputZ rfl (oK5 hL ht) rfl (by decide) ?_
  replace hL : Lay (h.sI t 0 0) := lsI hL
  iterate 2 (refine kst rfl rfl ?_)
  refine wputI rfl (oK5 hL ht) rfl ?_
  replace hL : Lay ((h.sI t 0 0).sI t 1 0) := lsI hL
  refine kre rfl rfl ?_
  exact ⟨_, rfl, hL, hW⟩
/-- 89: Plan copyFrom -/
def W89 (t : Nat) (a1 : Nat) (h : TH) (C : TH → Prop) : Prop :=
  ((h.I a1 0) = 0 ∨ (h.I a1 0) = 1) ∧ ∀ h1, h1 = (((h.sI t 0 (h.I a1 0)).sI t 1 ((h.sI t 0 (h.I a1 0)).I a1 1)).cI (t + 1) (va_cpy (((h.sI t 0 (h.I a1 0)).sI t 1 ((h.sI t 0 (h.I a1 0)).I a1 1)).I (a1 + 1)) (((h.sI t 0 (h.I a1 0)).sI t 1 ((h.sI t 0 (h.I a1 0)).I a1 1)).I (t + 1)) (ix 0) (ix 0) (ix 30))) → ∀ h2, h2 = ((h1.cI (t + 2) (va_cpy (h1.I (a1 + 2)) (h1.I (t + 2)) (ix 0) (ix 0) (ix 30))).cI (t + 3) (va_cpy ((h1.cI (t + 2) (va_cpy (h1.I (a1 + 2)) (h1.I (t + 2)) (ix 0) (ix 0) (ix 30))).I (a1 + 3)) ((h1.cI (t + 2) (va_cpy (h1.I (a1 + 2)) (h1.I (t + 2)) (ix 0) (ix 0) (ix 30))).I (t + 3)) (ix 0) (ix 0) (ix 30))) → C (h2.cI (t + 4) (va_cpy (h2.I (a1 + 4)) (h2.I (t + 4)) (ix 0) (ix 0) (ix 30)))

theorem R89 {d : Nat} {t : Nat} {a1 : Nat} {h : TH} {C : TH → Prop} (ht : is5 t) (ha1 : is5 a1) (hL : Lay h) (hW : W89 t a1 h C) : xPk d 89 [.ref t, .ref a1] h.X (postV C) := by
  unfold W89 at hW
  refine kin (Nat.le_of_ble_eq_true rfl) ?_
  iterate 2 (refine kst rfl rfl ?_)
  refine wgetI rfl (oK5 hL ha1) rfl ?_
  obtain ⟨q1, hW⟩ := hW
  refine wputZ rfl (oK5 hL ht) rfl q1 ?_
  replace hL : Lay (h.sI t 0 (h.I a1 0)) := lsI hL
  iterate 2 (refine kst rfl rfl ?_)
  refine wgetI rfl (oK5 hL ha1) rfl ?_
  refine wputI rfl (oK5 hL ht) rfl ?_
  replace hL : Lay ((h.sI t 0 (h.I a1 0)).sI t 1 ((h.sI t 0 (h.I a1 0)).I a1 1)) := lsI hL
  refine kst rfl rfl ?_
  refine wgetP (b := (a1 + 1)) rfl (oK5 hL ha1) rfl (oP5_2 hL ha1) ?_
  iterate 2 (refine kst rfl rfl ?_)
  refine wgetP (b := (t + 1)) rfl (oK5 hL ht) rfl (oP5_2 hL ht) ?_
  iterate 2 (refine kst rfl rfl ?_)
  refine wcopyI rfl (aK5_2 hL ha1) (aK5_2 hL ht) (aN5_2 hL ha1) (aN5_2 hL ht) (by decide) (by decide) ⟨by decide, by decide, by decide, by decide, by decide⟩ (Nat.le_of_ble_eq_true rfl) ?_
  replace hL : Lay (((h.sI t 0 (h.I a1 0)).sI t 1 ((h.sI t 0 (h.I a1 0)).I a1 1)).cI (t + 1) (va_cpy (((h.sI t 0 (h.I a1 0)).sI t 1 ((h.sI t 0 (h.I a1 0)).I a1 1)).I (a1 + 1)) (((h.sI t 0 (h.I a1 0)).sI t 1 ((h.sI t 0 (h.I a1 0)).I a1 1)).I (t + 1)) (ix 0) (ix 0) (ix 30))) := lcI hL
  refine kst rfl rfl ?_
  refine whb (h := (((h.sI t 0 (h.I a1 0)).sI t 1 ((h.sI t 0 (h.I a1 0)).I a1 1)).cI (t + 1) (va_cpy (((h.sI t 0 (h.I a1 0)).sI t 1 ((h.sI t 0 (h.I a1 0)).I a1 1)).I (a1 + 1)) (((h.sI t 0 (h.I a1 0)).sI t 1 ((h.sI t 0 (h.I a1 0)).I a1 1)).I (t + 1)) (ix 0) (ix 0) (ix 30)))) (fun h1 eh1 => ?_)
  replace hW := hW h1 eh1
  replace hL : Lay h1 := by rw [eh1]; exact hL
  clear eh1
  refine wgetP (b := (a1 + 2)) rfl (oK5 hL ha1) rfl (oP5_3 hL ha1) ?_
  iterate 2 (refine kst rfl rfl ?_)
  refine wgetP (b := (t + 2)) rfl (oK5 hL ht) rfl (oP5_3 hL ht) ?_
  iterate 2 (refine kst rfl rfl ?_)
  refine wcopyI rfl (aK5_3 hL ha1) (aK5_3 hL ht) (aN5_3 hL ha1) (aN5_3 hL ht) (by decide) (by decide) ⟨by decide, by decide, by decide, by decide, by decide⟩ (Nat.le_of_ble_eq_true rfl) ?_
  replace hL : Lay (h1.cI (t + 2) (va_cpy (h1.I (a1 + 2)) (h1.I (t + 2)) (ix 0) (ix 0) (ix 30))) := lcI hL
  refine kst rfl rfl ?_
  refine wgetP (b := (a1 + 3)) rfl (oK5 hL ha1) rfl (oP5_4 hL ha1) ?_
  iterate 2 (refine kst rfl rfl ?_)
  refine wgetP (b := (t + 3)) rfl (oK5 hL ht) rfl (oP5_4 hL ht) ?_
  iterate 2 (refine kst rfl rfl ?_)
  refine wcopyI rfl (aK5_4 hL ha1) (aK5_4 hL ht) (aN5_4 hL ha1) (aN5_4 hL ht) (by decide) (by decide) ⟨by decide, by decide, by decide, by decide, by decide⟩ (Nat.le_of_ble_eq_true rfl) ?_
  replace hL : Lay ((h1.cI (t + 2) (va_cpy (h1.I (a1 + 2)) (h1.I (t + 2)) (ix 0) (ix 0) (ix 30))).cI (t + 3) (va_cpy ((h1.cI (t + 2) (va_cpy (h1.I (a1 + 2)) (h1.I (t + 2)) (ix 0) (ix 0) (ix 30))).I (a1 + 3)) ((h1.cI (t + 2) (va_cpy (h1.I (a1 + 2)) (h1.I (t + 2)) (ix 0) (ix 0) (ix 30))).I (t + 3)) (ix 0) (ix 0) (ix 30))) := lcI hL
  refine kst rfl rfl ?_
  refine whb (h := ((h1.cI (t + 2) (va_cpy (h1.I (a1 + 2)) (h1.I (t + 2)) (ix 0) (ix 0) (ix 30))).cI (t + 3) (va_cpy ((h1.cI (t + 2) (va_cpy (h1.I (a1 + 2)) (h1.I (t + 2)) (ix 0) (ix 0) (ix 30))).I (a1 + 3)) ((h1.cI (t + 2) (va_cpy (h1.I (a1 + 2)) (h1.I (t + 2)) (ix 0) (ix 0) (ix 30))).I (t + 3)) (ix 0) (ix 0) (ix 30)))) (fun h2 eh2 => ?_)
  replace hW := hW h2 eh2
  replace hL : Lay h2 := by rw [eh2]; exact hL
  clear eh2
  refine wgetP (b := (a1 + 4)) rfl (oK5 hL ha1) rfl (oP5_5 hL ha1) ?_
  iterate 2 (refine kst rfl rfl ?_)
  refine wgetP (b := (t + 4)) rfl (oK5 hL ht) rfl (oP5_5 hL ht) ?_
  iterate 2 (refine kst rfl rfl ?_)
  refine wcopyI rfl (aK5_5 hL ha1) (aK5_5 hL ht) (aN5_5 hL ha1) (aN5_5 hL ht) (by decide) (by decide) ⟨by decide, by decide, by decide, by decide, by decide⟩ (Nat.le_of_ble_eq_true rfl) ?_
  replace hL : Lay (h2.cI (t + 4) (va_cpy (h2.I (a1 + 4)) (h2.I (t + 4)) (ix 0) (ix 0) (ix 30))) := lcI hL
  refine kre rfl rfl ?_
  exact ⟨_, rfl, hL, hW⟩
/-- 90: Plan addStep -/
def W90 (t : Nat) (a1 : Int32) (a2 : Int32) (a3 : Int32) (h : TH) (C : Int32 → TH → Prop) : Prop :=
  inb (imin (h.I t 1) 29) 30 ∧ inb (imin (h.I t 1) 29) 30 ∧ inb (imin (h.I t 1) 29) 30 ∧ ∀ h1, h1 = (((h.sI (t + 1) (ix (imin (h.I t 1) 29)) a1).sI (t + 2) (ix (imin (h.I t 1) 29)) a2).sI (t + 3) (ix (imin (h.I t 1) 29)) a3) → inb (imin (h.I t 1) 29) 30 ∧ C (imin (h.I t 1) 29) ((h1.sI (t + 4) (ix (imin (h.I t 1) 29)) ((imin (h.I t 1) 29) + 1)).sI t 1 ((imin (h.I t 1) 29) + 1))

theorem R90 {d : Nat} {t : Nat} {a1 : Int32} {a2 : Int32} {a3 : Int32} {h : TH} {C : Int32 → TH → Prop} (ht : is5 t) (hL : Lay h) (hW : W90 t a1 a2 a3 h C) : xPk d 90 [.ref t, .int a1, .int a2, .int a3] h.X (postI C) := by
  unfold W90 at hW
  refine kin (Nat.le_of_ble_eq_true rfl) ?_
  refine kst rfl rfl ?_
  refine wgetI rfl (oK5 hL ht) rfl ?_
  iterate 4 (refine kst rfl rfl ?_)
  refine wgetP (b := (t + 1)) rfl (oK5 hL ht) rfl (oP5_2 hL ht) ?_
  iterate 2 (refine kst rfl rfl ?_)
  obtain ⟨q1, hW⟩ := hW
  refine wast rfl (aK5_2 hL ht) (aN5_2 hL ht) (by decide) q1 ?_
  replace hL : Lay (h.sI (t + 1) (ix (imin (h.I t 1) 29)) a1) := lsI hL
  refine kst rfl rfl ?_
  refine wgetP (b := (t + 2)) rfl (oK5 hL ht) rfl (oP5_3 hL ht) ?_
  iterate 2 (refine kst rfl rfl ?_)
  obtain ⟨q2, hW⟩ := hW
  refine wast rfl (aK5_3 hL ht) (aN5_3 hL ht) (by decide) q2 ?_
  replace hL : Lay ((h.sI (t + 1) (ix (imin (h.I t 1) 29)) a1).sI (t + 2) (ix (imin (h.I t 1) 29)) a2) := lsI hL
  refine kst rfl rfl ?_
  refine wgetP (b := (t + 3)) rfl (oK5 hL ht) rfl (oP5_4 hL ht) ?_
  iterate 2 (refine kst rfl rfl ?_)
  obtain ⟨q3, hW⟩ := hW
  refine wast rfl (aK5_4 hL ht) (aN5_4 hL ht) (by decide) q3 ?_
  replace hL : Lay (((h.sI (t + 1) (ix (imin (h.I t 1) 29)) a1).sI (t + 2) (ix (imin (h.I t 1) 29)) a2).sI (t + 3) (ix (imin (h.I t 1) 29)) a3) := lsI hL
  refine kst rfl rfl ?_
  refine whb (h := (((h.sI (t + 1) (ix (imin (h.I t 1) 29)) a1).sI (t + 2) (ix (imin (h.I t 1) 29)) a2).sI (t + 3) (ix (imin (h.I t 1) 29)) a3)) (fun h1 eh1 => ?_)
  replace hW := hW h1 eh1
  replace hL : Lay h1 := by rw [eh1]; exact hL
  clear eh1
  refine wgetP (b := (t + 4)) rfl (oK5 hL ht) rfl (oP5_5 hL ht) ?_
  iterate 4 (refine kst rfl rfl ?_)
  obtain ⟨q4, hW⟩ := hW
  refine wast rfl (aK5_5 hL ht) (aN5_5 hL ht) (by decide) q4 ?_
  replace hL : Lay (h1.sI (t + 4) (ix (imin (h.I t 1) 29)) ((imin (h.I t 1) 29) + 1)) := lsI hL
  iterate 4 (refine kst rfl rfl ?_)
  refine wputI rfl (oK5 hL ht) rfl ?_
  replace hL : Lay ((h1.sI (t + 4) (ix (imin (h.I t 1) 29)) ((imin (h.I t 1) 29) + 1)).sI t 1 ((imin (h.I t 1) 29) + 1)) := lsI hL
  refine kst rfl rfl ?_
  refine kre rfl rfl ?_
  exact ⟨_, _, rfl, hL, hW⟩
/-- 93: Plan atEndOfOpen -/
def W93 (t : Nat) (h : TH) (C : Int32 → Prop) : Prop :=
  if (h.I t 8) ≤ 0 then (C 0) else (inb ((h.I t 8) - 1) 3 ∧ inb (h.I (t + 5) (ix ((h.I t 8) - 1))) 30 ∧ if ¬ (h.I t 9) = (h.I (t + 4) (ix (h.I (t + 5) (ix ((h.I t 8) - 1))))) then (C 0) else (C 1))

theorem R93 {d : Nat} {t : Nat} {h : TH} {C : Int32 → Prop} (ht : is5 t) (hL : Lay h) (hW : W93 t h C) : xPk d 93 [.ref t] h.X (qostI h C) := by
  unfold W93 at hW
  refine kin (Nat.le_of_ble_eq_true rfl) ?_
  refine kst rfl rfl ?_
  refine wgetI rfl (oK5 hL ht) rfl ?_
  refine wif_le rfl hW (fun hW => ?_) (fun hW => ?_)
  · refine kst rfl rfl ?_
    refine kre rfl rfl ?_
    exact ⟨_, rfl, hW⟩
  · refine kst rfl rfl ?_
    refine wgetI rfl (oK5 hL ht) rfl ?_
    refine kst rfl rfl ?_
    refine wgetP (b := (t + 4)) rfl (oK5 hL ht) rfl (oP5_5 hL ht) ?_
    refine kst rfl rfl ?_
    refine wgetP (b := (t + 5)) rfl (oK5 hL ht) rfl (oP5_6 hL ht) ?_
    refine kst rfl rfl ?_
    refine wgetI rfl (oK5 hL ht) rfl ?_
    iterate 2 (refine kst rfl rfl ?_)
    obtain ⟨q1, hW⟩ := hW
    refine wald rfl (Or.inl (aK5_6 hL ht)) (aN5_6 hL ht) (by decide) q1 ?_
    obtain ⟨q2, hW⟩ := hW
    refine wald rfl (Or.inl (aK5_5 hL ht)) (aN5_5 hL ht) (by decide) q2 ?_
    refine wcm_ne rfl hW (fun hW => ?_) (fun hW => ?_)
    · refine kst rfl rfl ?_
      refine kre rfl rfl ?_
      exact ⟨_, rfl, hW⟩
    · iterate 2 (refine kst rfl rfl ?_)
      refine kre rfl rfl ?_
      exact ⟨_, rfl, hW⟩
/-- 94: Plan closeOrRepeat -/
def W94 (t : Nat) (h : TH) (C : TH → Prop) : Prop :=
  inb ((h.I t 8) - 1) 3 ∧ inb ((h.I t 8) - 1) 3 ∧ inb (((h.sI (t + 6) (ix ((h.I t 8) - 1)) ((h.I (t + 6) (ix ((h.I t 8) - 1))) - 1)).I t 8) - 1) 3 ∧ if ((h.sI (t + 6) (ix ((h.I t 8) - 1)) ((h.I (t + 6) (ix ((h.I t 8) - 1))) - 1)).I (t + 6) (ix (((h.sI (t + 6) (ix ((h.I t 8) - 1)) ((h.I (t + 6) (ix ((h.I t 8) - 1))) - 1)).I t 8) - 1))) ≤ 0 then (C ((h.sI (t + 6) (ix ((h.I t 8) - 1)) ((h.I (t + 6) (ix ((h.I t 8) - 1))) - 1)).sI t 8 (((h.sI (t + 6) (ix ((h.I t 8) - 1)) ((h.I (t + 6) (ix ((h.I t 8) - 1))) - 1)).I t 8) - 1))) else (inb (((h.sI (t + 6) (ix ((h.I t 8) - 1)) ((h.I (t + 6) (ix ((h.I t 8) - 1))) - 1)).I t 8) - 1) 3 ∧ C ((h.sI (t + 6) (ix ((h.I t 8) - 1)) ((h.I (t + 6) (ix ((h.I t 8) - 1))) - 1)).sI t 9 (((h.sI (t + 6) (ix ((h.I t 8) - 1)) ((h.I (t + 6) (ix ((h.I t 8) - 1))) - 1)).I (t + 5) (ix (((h.sI (t + 6) (ix ((h.I t 8) - 1)) ((h.I (t + 6) (ix ((h.I t 8) - 1))) - 1)).I t 8) - 1))) + 1)))

theorem R94 {d : Nat} {t : Nat} {h : TH} {C : TH → Prop} (ht : is5 t) (hL : Lay h) (hW : W94 t h C) : xPk d 94 [.ref t] h.X (postV C) := by
  unfold W94 at hW
  refine kin (Nat.le_of_ble_eq_true rfl) ?_
  refine kst rfl rfl ?_
  refine wgetP (b := (t + 6)) rfl (oK5 hL ht) rfl (oP5_7 hL ht) ?_
  refine kst rfl rfl ?_
  refine wgetI rfl (oK5 hL ht) rfl ?_
  iterate 3 (refine kst rfl rfl ?_)
  obtain ⟨q1, hW⟩ := hW
  refine wald rfl (Or.inl (aK5_7 hL ht)) (aN5_7 hL ht) (by decide) q1 ?_
  iterate 2 (refine kst rfl rfl ?_)
  obtain ⟨q2, hW⟩ := hW
  refine wast rfl (aK5_7 hL ht) (aN5_7 hL ht) (by decide) q2 ?_
  replace hL : Lay (h.sI (t + 6) (ix ((h.I t 8) - 1)) ((h.I (t + 6) (ix ((h.I t 8) - 1))) - 1)) := lsI hL
  refine kst rfl rfl ?_
  refine wgetP (b := (t + 6)) rfl (oK5 hL ht) rfl (oP5_7 hL ht) ?_
  refine kst rfl rfl ?_
  refine wgetI rfl (oK5 hL ht) rfl ?_
  iterate 2 (refine kst rfl rfl ?_)
  obtain ⟨q3, hW⟩ := hW
  refine wald rfl (Or.inl (aK5_7 hL ht)) (aN5_7 hL ht) (by decide) q3 ?_
  refine wif_le rfl hW (fun hW => ?_) (fun hW => ?_)
  · iterate 2 (refine kst rfl rfl ?_)
    refine wgetI rfl (oK5 hL ht) rfl ?_
    iterate 2 (refine kst rfl rfl ?_)
    refine wputI rfl (oK5 hL ht) rfl ?_
    replace hL : Lay ((h.sI (t + 6) (ix ((h.I t 8) - 1)) ((h.I (t + 6) (ix ((h.I t 8) - 1))) - 1)).sI t 8 (((h.sI (t + 6) (ix ((h.I t 8) - 1)) ((h.I (t + 6) (ix ((h.I t 8) - 1))) - 1)).I t 8) - 1)) := lsI hL
    refine kre rfl rfl ?_
    exact ⟨_, rfl, hL, hW⟩
  · iterate 2 (refine kst rfl rfl ?_)
    refine wgetP (b := (t + 5)) rfl (oK5 hL ht) rfl (oP5_6 hL ht) ?_
    refine kst rfl rfl ?_
    refine wgetI rfl (oK5 hL ht) rfl ?_
    iterate 2 (refine kst rfl rfl ?_)
    obtain ⟨q4, hW⟩ := hW
    refine wald rfl (Or.inl (aK5_6 hL ht)) (aN5_6 hL ht) (by decide) q4 ?_
    iterate 2 (refine kst rfl rfl ?_)
    refine wputI rfl (oK5 hL ht) rfl ?_
    replace hL : Lay ((h.sI (t + 6) (ix ((h.I t 8) - 1)) ((h.I (t + 6) (ix ((h.I t 8) - 1))) - 1)).sI t 9 (((h.sI (t + 6) (ix ((h.I t 8) - 1)) ((h.I (t + 6) (ix ((h.I t 8) - 1))) - 1)).I (t + 5) (ix (((h.sI (t + 6) (ix ((h.I t 8) - 1)) ((h.I (t + 6) (ix ((h.I t 8) - 1))) - 1)).I t 8) - 1))) + 1)) := lsI hL
    refine kst rfl rfl ?_
    refine kre rfl rfl ?_
    exact ⟨_, rfl, hL, hW⟩
/-- 92: Plan isDone -/
def W92 (a1 : Int32) (h : TH) (C : Int32 → Prop) : Prop :=
  if a1 = 16 then (C 0) else (if a1 = 20 then (C 0) else (C 1))

theorem R92 {d : Nat} {a1 : Int32} {h : TH} {C : Int32 → Prop} (hL : Lay h) (hW : W92 a1 h C) : xPk d 92 [.int a1] h.X (qostI h C) := by
  unfold W92 at hW
  refine kin (Nat.le_of_ble_eq_true rfl) ?_
  iterate 2 (refine kst rfl rfl ?_)
  refine wcm_eq rfl hW (fun hW => ?_) (fun hW => ?_)
  · refine kst rfl rfl ?_
    refine kre rfl rfl ?_
    exact ⟨_, rfl, hW⟩
  · iterate 2 (refine kst rfl rfl ?_)
    refine wcm_eq rfl hW (fun hW => ?_) (fun hW => ?_)
    · refine kst rfl rfl ?_
      refine kre rfl rfl ?_
      exact ⟨_, rfl, hW⟩
    · iterate 2 (refine kst rfl rfl ?_)
      refine kre rfl rfl ?_
      exact ⟨_, rfl, hW⟩
/-- 97: Plan testHolds -/
def W97 (t : Nat) (a1 : Nat) (h : TH) (C : Int32 → Prop) : Prop :=
  inb (h.I t 9) 30 ∧ if (h.I (t + 3) (ix (h.I t 9))) = 17 then (inb (h.I t 9) 30 ∧ if ((h.I a1 0) &&& (ishl 1 (h.I (t + 2) (ix (h.I t 9))))) = 0 then (C 0) else (C 1)) else if (h.I (t + 3) (ix (h.I t 9))) = 18 then (inb (h.I t 9) 30 ∧ if ((h.I a1 1) &&& (ishl 1 (h.I (t + 2) (ix (h.I t 9))))) = 0 then (C 0) else (C 1)) else (W327 (h.I a1 0) h (fun v1 => inb (h.I t 9) 30 ∧ if v1 < (h.I (t + 2) (ix (h.I t 9))) then (C 0) else (C 1)))

theorem R97 {d : Nat} {t : Nat} {a1 : Nat} {h : TH} {C : Int32 → Prop} (ht : is5 t) (ha1 : is1 a1) (hL : Lay h) (hW : W97 t a1 h C) : xPk (d + 1) 97 [.ref t, .ref a1] h.X (qostI h C) := by
  unfold W97 at hW
  refine kin (Nat.le_of_ble_eq_true rfl) ?_
  refine kst rfl rfl ?_
  refine wgetP (b := (t + 3)) rfl (oK5 hL ht) rfl (oP5_4 hL ht) ?_
  refine kst rfl rfl ?_
  refine wgetI rfl (oK5 hL ht) rfl ?_
  obtain ⟨q1, hW⟩ := hW
  refine wald rfl (Or.inl (aK5_4 hL ht)) (aN5_4 hL ht) (by decide) q1 ?_
  refine wsw hW (fun c0 hW => ?_) (fun c0 hW => ?_)
  · refine wswi (t := 36) rfl (fun _ => rfl) (swc c0 rfl) ?_
    refine kst rfl rfl ?_
    refine wgetI rfl (oK1 hL ha1) rfl ?_
    iterate 2 (refine kst rfl rfl ?_)
    refine wgetP (b := (t + 2)) rfl (oK5 hL ht) rfl (oP5_3 hL ht) ?_
    refine kst rfl rfl ?_
    refine wgetI rfl (oK5 hL ht) rfl ?_
    obtain ⟨q2, hW⟩ := hW
    refine wald rfl (Or.inl (aK5_3 hL ht)) (aN5_3 hL ht) (by decide) q2 ?_
    iterate 2 (refine kst rfl rfl ?_)
    refine wif_eq rfl hW (fun hW => ?_) (fun hW => ?_)
    · refine kst rfl rfl ?_
      refine kre rfl rfl ?_
      exact ⟨_, rfl, hW⟩
    · iterate 2 (refine kst rfl rfl ?_)
      refine kre rfl rfl ?_
      exact ⟨_, rfl, hW⟩
  refine wsw hW (fun c1 hW => ?_) (fun c1 hW => ?_)
  · refine wswi (t := 61) rfl (fun _ => rfl) (swc c1 rfl) ?_
    refine kst rfl rfl ?_
    refine wgetI rfl (oK1 hL ha1) rfl ?_
    iterate 2 (refine kst rfl rfl ?_)
    refine wgetP (b := (t + 2)) rfl (oK5 hL ht) rfl (oP5_3 hL ht) ?_
    refine kst rfl rfl ?_
    refine wgetI rfl (oK5 hL ht) rfl ?_
    obtain ⟨q3, hW⟩ := hW
    refine wald rfl (Or.inl (aK5_3 hL ht)) (aN5_3 hL ht) (by decide) q3 ?_
    iterate 2 (refine kst rfl rfl ?_)
    refine wif_eq rfl hW (fun hW => ?_) (fun hW => ?_)
    · refine kst rfl rfl ?_
      refine kre rfl rfl ?_
      exact ⟨_, rfl, hW⟩
    · iterate 2 (refine kst rfl rfl ?_)
      refine kre rfl rfl ?_
      exact ⟨_, rfl, hW⟩
  refine wswi (t := 86) rfl (fun _ => rfl) (by have z0 := i32ne (k := 17) c0 rfl; have z1 := i32ne (k := 18) c1 rfl; simp only [xsw, Op.lookupswitch.offset_cons, Op.lookupswitch.offset_nil]; rw [if_neg (Ne.symm z0)]; rw [if_neg (Ne.symm z1)]; rfl) ?_
  refine kst rfl rfl ?_
  refine wgetI rfl (oK1 hL ha1) rfl ?_
  refine qcaI rfl rfl (R327 (d := d + 0) (h := h) hL hW) (fun v1 hW => ?_)
  refine kst rfl rfl ?_
  refine wgetP (b := (t + 2)) rfl (oK5 hL ht) rfl (oP5_3 hL ht) ?_
  refine kst rfl rfl ?_
  refine wgetI rfl (oK5 hL ht) rfl ?_
  obtain ⟨q4, hW⟩ := hW
  refine wald rfl (Or.inl (aK5_3 hL ht)) (aN5_3 hL ht) (by decide) q4 ?_
  refine wcm_lt rfl hW (fun hW => ?_) (fun hW => ?_)
  · refine kst rfl rfl ?_
    refine kre rfl rfl ?_
    exact ⟨_, rfl, hW⟩
  · iterate 2 (refine kst rfl rfl ?_)
    refine kre rfl rfl ?_
    exact ⟨_, rfl, hW⟩
/-- 96: Plan enter -/
def B96_30 (t : Nat) (h : TH) (C : TH → Prop) : Prop :=
  inb (h.I t 9) 30 ∧ C (h.sI t 9 (h.I (t + 4) (ix (h.I t 9))))
def W96 (t : Nat) (a1 : Int32) (h : TH) (C : TH → Prop) : Prop :=
  if a1 ≤ 0 then (B96_30 t h C) else (inb (h.I t 9) 30 ∧ if (h.I (t + 4) (ix (h.I t 9))) = ((h.I t 9) + 1) then (B96_30 t h C) else (if (h.I t 8) < 3 then (inb (h.I t 8) 3 ∧ inb ((h.sI (t + 5) (ix (h.I t 8)) (h.I t 9)).I t 8) 3 ∧ ∀ h1, h1 = ((h.sI (t + 5) (ix (h.I t 8)) (h.I t 9)).sI (t + 6) (ix ((h.sI (t + 5) (ix (h.I t 8)) (h.I t 9)).I t 8)) a1) → C ((h1.sI t 8 ((h1.I t 8) + 1)).sI t 9 (((h1.sI t 8 ((h1.I t 8) + 1)).I t 9) + 1))) else (B96_30 t h C)))

theorem R96_30 {d : Nat} {t : Nat} {h : TH} {C : TH → Prop} (ht : is5 t) (hL : Lay h) (hW : B96_30 t h C) : xEk d 96 (30, [(0, .ref t)], [], h.X) (postV C) := by
  unfold B96_30 at hW
  iterate 2 (refine kst rfl rfl ?_)
  refine wgetP (b := (t + 4)) rfl (oK5 hL ht) rfl (oP5_5 hL ht) ?_
  refine kst rfl rfl ?_
  refine wgetI rfl (oK5 hL ht) rfl ?_
  obtain ⟨q1, hW⟩ := hW
  refine wald rfl (Or.inl (aK5_5 hL ht)) (aN5_5 hL ht) (by decide) q1 ?_
  refine wputI rfl (oK5 hL ht) rfl ?_
  replace hL : Lay (h.sI t 9 (h.I (t + 4) (ix (h.I t 9)))) := lsI hL
  refine kre rfl rfl ?_
  exact ⟨_, rfl, hL, hW⟩
theorem R96 {d : Nat} {t : Nat} {a1 : Int32} {h : TH} {C : TH → Prop} (ht : is5 t) (hL : Lay h) (hW : W96 t a1 h C) : xPk d 96 [.ref t, .int a1] h.X (postV C) := by
  unfold W96 at hW
  refine kin (Nat.le_of_ble_eq_true rfl) ?_
  refine kst rfl rfl ?_
  refine wif_le rfl hW (fun hW => ?_) (fun hW => ?_)
  · refine wjp ?_ (R96_30 (h := h) ht hL hW)
    exact ⟨rfl, trivial⟩
  · refine kst rfl rfl ?_
    refine wgetP (b := (t + 4)) rfl (oK5 hL ht) rfl (oP5_5 hL ht) ?_
    refine kst rfl rfl ?_
    refine wgetI rfl (oK5 hL ht) rfl ?_
    obtain ⟨q1, hW⟩ := hW
    refine wald rfl (Or.inl (aK5_5 hL ht)) (aN5_5 hL ht) (by decide) q1 ?_
    refine kst rfl rfl ?_
    refine wgetI rfl (oK5 hL ht) rfl ?_
    iterate 2 (refine kst rfl rfl ?_)
    refine wcm_eq rfl hW (fun hW => ?_) (fun hW => ?_)
    · refine wjp ?_ (R96_30 (h := h) ht hL hW)
      exact ⟨rfl, trivial⟩
    · refine kst rfl rfl ?_
      refine wgetI rfl (oK5 hL ht) rfl ?_
      refine kst rfl rfl ?_
      refine wcm_lt rfl hW (fun hW => ?_) (fun hW => ?_)
      · refine kst rfl rfl ?_
        refine wgetP (b := (t + 5)) rfl (oK5 hL ht) rfl (oP5_6 hL ht) ?_
        refine kst rfl rfl ?_
        refine wgetI rfl (oK5 hL ht) rfl ?_
        refine kst rfl rfl ?_
        refine wgetI rfl (oK5 hL ht) rfl ?_
        obtain ⟨q2, hW⟩ := hW
        refine wast rfl (aK5_6 hL ht) (aN5_6 hL ht) (by decide) q2 ?_
        replace hL : Lay (h.sI (t + 5) (ix (h.I t 8)) (h.I t 9)) := lsI hL
        refine kst rfl rfl ?_
        refine wgetP (b := (t + 6)) rfl (oK5 hL ht) rfl (oP5_7 hL ht) ?_
        refine kst rfl rfl ?_
        refine wgetI rfl (oK5 hL ht) rfl ?_
        refine kst rfl rfl ?_
        obtain ⟨q3, hW⟩ := hW
        refine wast rfl (aK5_7 hL ht) (aN5_7 hL ht) (by decide) q3 ?_
        replace hL : Lay ((h.sI (t + 5) (ix (h.I t 8)) (h.I t 9)).sI (t + 6) (ix ((h.sI (t + 5) (ix (h.I t 8)) (h.I t 9)).I t 8)) a1) := lsI hL
        iterate 2 (refine kst rfl rfl ?_)
        refine whb (h := ((h.sI (t + 5) (ix (h.I t 8)) (h.I t 9)).sI (t + 6) (ix ((h.sI (t + 5) (ix (h.I t 8)) (h.I t 9)).I t 8)) a1)) (fun h1 eh1 => ?_)
        replace hW := hW h1 eh1
        replace hL : Lay h1 := by rw [eh1]; exact hL
        clear eh1
        refine wgetI rfl (oK5 hL ht) rfl ?_
        iterate 2 (refine kst rfl rfl ?_)
        refine wputI rfl (oK5 hL ht) rfl ?_
        replace hL : Lay (h1.sI t 8 ((h1.I t 8) + 1)) := lsI hL
        iterate 2 (refine kst rfl rfl ?_)
        refine wgetI rfl (oK5 hL ht) rfl ?_
        iterate 2 (refine kst rfl rfl ?_)
        refine wputI rfl (oK5 hL ht) rfl ?_
        replace hL : Lay ((h1.sI t 8 ((h1.I t 8) + 1)).sI t 9 (((h1.sI t 8 ((h1.I t 8) + 1)).I t 9) + 1)) := lsI hL
        refine kre rfl rfl ?_
        exact ⟨_, rfl, hL, hW⟩
      · refine wjp ?_ (R96_30 (h := h) ht hL hW)
        exact ⟨rfl, trivial⟩
/-- 98: Plan attempt -/
def W98 (t : Nat) (a1 : Nat) (a2 : Nat) (h : TH) (C : Int32 → TH → Prop) : Prop :=
  inb (h.I t 9) 30 ∧ inb (h.I t 9) 30 ∧ if (h.I (t + 1) (ix (h.I t 9))) = 10 then (W18 a2 a1 (h.I (t + 2) (ix (h.I t 9))) h (fun v1 h2 => (v1 = 0 ∨ v1 = 1) ∧ C v1 h2)) else if (h.I (t + 1) (ix (h.I t 9))) = 11 then (inb (h.I t 9) 30 ∧ W19 a2 a1 (h.I (t + 2) (ix (h.I t 9))) (h.I (t + 3) (ix (h.I t 9))) h (fun v3 h4 => (v3 = 0 ∨ v3 = 1) ∧ C v3 h4)) else if (h.I (t + 1) (ix (h.I t 9))) = 12 then (W22 a2 a1 (h.I (t + 2) (ix (h.I t 9))) h (fun v5 h6 => (v5 = 0 ∨ v5 = 1) ∧ C v5 h6)) else if (h.I (t + 1) (ix (h.I t 9))) = 13 then (W20 a2 (h.I (t + 2) (ix (h.I t 9))) h (fun v7 h8 => (v7 = 0 ∨ v7 = 1) ∧ C v7 h8)) else if (h.I (t + 1) (ix (h.I t 9))) = 14 then (W21 a2 a1 (h.I (t + 2) (ix (h.I t 9))) h (fun v9 h10 => (v9 = 0 ∨ v9 = 1) ∧ C v9 h10)) else (W22 a2 a1 (h.I (t + 2) (ix (h.I t 9))) h (fun v11 h12 => (v11 = 0 ∨ v11 = 1) ∧ C v11 h12))

theorem R98 {d : Nat} {t : Nat} {a1 : Nat} {a2 : Nat} {h : TH} {C : Int32 → TH → Prop} (ht : is5 t) (ha1 : is3 a1) (ha2 : is1 a2) (hL : Lay h) (hW : W98 t a1 a2 h C) : xPk (d + 3) 98 [.ref t, .ref a1, .ref a2] h.X (postI C) := by
  unfold W98 at hW
  refine kin (Nat.le_of_ble_eq_true rfl) ?_
  refine kst rfl rfl ?_
  refine wgetP (b := (t + 2)) rfl (oK5 hL ht) rfl (oP5_3 hL ht) ?_
  refine kst rfl rfl ?_
  refine wgetI rfl (oK5 hL ht) rfl ?_
  obtain ⟨q1, hW⟩ := hW
  refine wald rfl (Or.inl (aK5_3 hL ht)) (aN5_3 hL ht) (by decide) q1 ?_
  iterate 2 (refine kst rfl rfl ?_)
  refine wgetP (b := (t + 1)) rfl (oK5 hL ht) rfl (oP5_2 hL ht) ?_
  refine kst rfl rfl ?_
  refine wgetI rfl (oK5 hL ht) rfl ?_
  obtain ⟨q2, hW⟩ := hW
  refine wald rfl (Or.inl (aK5_2 hL ht)) (aN5_2 hL ht) (by decide) q2 ?_
  refine wsw hW (fun c0 hW => ?_) (fun c0 hW => ?_)
  · refine wswi (t := 52) rfl (fun _ => rfl) (swc c0 rfl) ?_
    iterate 3 (refine kst rfl rfl ?_)
    refine wcvI rfl (oK1 hL ha2) rfl rfl (R18 (d := d + 0) (h := h) ha2 ha1 hL hW) (fun v1 h2 hL hW => ?_)
    obtain ⟨q3, hW⟩ := hW
    refine wrZ rfl q3 ?_
    exact ⟨_, _, rfl, hL, hW⟩
  refine wsw hW (fun c1 hW => ?_) (fun c1 hW => ?_)
  · refine wswi (t := 59) rfl (fun _ => rfl) (swc c1 rfl) ?_
    iterate 4 (refine kst rfl rfl ?_)
    refine wgetP (b := (t + 3)) rfl (oK5 hL ht) rfl (oP5_4 hL ht) ?_
    refine kst rfl rfl ?_
    refine wgetI rfl (oK5 hL ht) rfl ?_
    obtain ⟨q4, hW⟩ := hW
    refine wald rfl (Or.inl (aK5_4 hL ht)) (aN5_4 hL ht) (by decide) q4 ?_
    refine wcvI rfl (oK1 hL ha2) rfl rfl (R19 (d := d + 0) (h := h) ha2 ha1 hL hW) (fun v3 h4 hL hW => ?_)
    obtain ⟨q5, hW⟩ := hW
    refine wrZ rfl q5 ?_
    exact ⟨_, _, rfl, hL, hW⟩
  refine wsw hW (fun c2 hW => ?_) (fun c2 hW => ?_)
  · refine wswi (t := 88) rfl (fun _ => rfl) (swc c2 rfl) ?_
    iterate 3 (refine kst rfl rfl ?_)
    refine wcvI rfl (oK1 hL ha2) rfl rfl (R22 (d := d + 1) (h := h) ha2 ha1 hL hW) (fun v5 h6 hL hW => ?_)
    obtain ⟨q6, hW⟩ := hW
    refine wrZ rfl q6 ?_
    exact ⟨_, _, rfl, hL, hW⟩
  refine wsw hW (fun c3 hW => ?_) (fun c3 hW => ?_)
  · refine wswi (t := 75) rfl (fun _ => rfl) (swc c3 rfl) ?_
    iterate 2 (refine kst rfl rfl ?_)
    refine wcvI rfl (oK1 hL ha2) rfl rfl (R20 (d := d + 1) (h := h) ha2 hL hW) (fun v7 h8 hL hW => ?_)
    obtain ⟨q7, hW⟩ := hW
    refine wrZ rfl q7 ?_
    exact ⟨_, _, rfl, hL, hW⟩
  refine wsw hW (fun c4 hW => ?_) (fun c4 hW => ?_)
  · refine wswi (t := 81) rfl (fun _ => rfl) (swc c4 rfl) ?_
    iterate 3 (refine kst rfl rfl ?_)
    refine wcvI rfl (oK1 hL ha2) rfl rfl (R21 (d := d + 0) (h := h) ha2 ha1 hL hW) (fun v9 h10 hL hW => ?_)
    obtain ⟨q8, hW⟩ := hW
    refine wrZ rfl q8 ?_
    exact ⟨_, _, rfl, hL, hW⟩
  refine wswi (t := 88) rfl (fun _ => rfl) (tswD (by have z0 := i32ne (k := 10) c0 rfl; have z1 := i32ne (k := 11) c1 rfl; have z2 := i32ne (k := 12) c2 rfl; have z3 := i32ne (k := 13) c3 rfl; have z4 := i32ne (k := 14) c4 rfl; first | omega | (have z9 := i32ne c0 rfl; omega)) rfl) ?_
  iterate 3 (refine kst rfl rfl ?_)
  refine wcvI rfl (oK1 hL ha2) rfl rfl (R22 (d := d + 1) (h := h) ha2 ha1 hL hW) (fun v11 h12 hL hW => ?_)
  obtain ⟨q9, hW⟩ := hW
  refine wrZ rfl q9 ?_
  exact ⟨_, _, rfl, hL, hW⟩
/-- 95: Plan meet -/
def B95_81 (t : Nat) (a1 : Nat) (a2 : Nat) (h : TH) (C : TH → Prop) : Prop :=
  W26 a2 a1 h (fun h3 => C (h3.sI t 9 ((h3.I t 9) + 1)))
def W95 (t : Nat) (a1 : Nat) (a2 : Nat) (h : TH) (C : TH → Prop) : Prop :=
  inb (h.I t 9) 30 ∧ if ¬ (h.I (t + 1) (ix (h.I t 9))) = 16 then (inb (h.I t 9) 30 ∧ if ¬ (h.I (t + 1) (ix (h.I t 9))) = 20 then (W98 t a1 a2 h (fun v1 h2 => if ¬ v1 = 0 then (B95_81 t a1 a2 h2 C) else (W27 a2 (h2.I t 9) h2 (fun h3 => B95_81 t a1 a2 h3 C)))) else (inb (h.I t 9) 30 ∧ W96 t (h.I (t + 2) (ix (h.I t 9))) h (fun h4 => C h4))) else (W97 t a2 h (fun v5 => if v5 = 0 then (W96 t 0 h (fun h6 => C h6)) else (W96 t 1 h (fun h7 => C h7))))

theorem R95_81 {d : Nat} {t : Nat} {a1 : Nat} {a2 : Nat} {h : TH} {C : TH → Prop} (ht : is5 t) (ha1 : is3 a1) (ha2 : is1 a2) (hL : Lay h) (hW : B95_81 t a1 a2 h C) : xEk (d + 4) 95 (81, [(0, .ref t), (1, .ref a1), (2, .ref a2)], [], h.X) (postV C) := by
  unfold B95_81 at hW
  iterate 2 (refine kst rfl rfl ?_)
  refine wcvV rfl (oK1 hL ha2) rfl rfl (R26 (d := d + 2) (h := h) ha2 ha1 hL hW) (fun h3 hL hW => ?_)
  iterate 2 (refine kst rfl rfl ?_)
  refine wgetI rfl (oK5 hL ht) rfl ?_
  iterate 2 (refine kst rfl rfl ?_)
  refine wputI rfl (oK5 hL ht) rfl ?_
  replace hL : Lay (h3.sI t 9 ((h3.I t 9) + 1)) := lsI hL
  refine kre rfl rfl ?_
  exact ⟨_, rfl, hL, hW⟩
theorem R95 {d : Nat} {t : Nat} {a1 : Nat} {a2 : Nat} {h : TH} {C : TH → Prop} (ht : is5 t) (ha1 : is3 a1) (ha2 : is1 a2) (hL : Lay h) (hW : W95 t a1 a2 h C) : xPk (d + 4) 95 [.ref t, .ref a1, .ref a2] h.X (postV C) := by
  unfold W95 at hW
  refine kin (Nat.le_of_ble_eq_true rfl) ?_
  refine kst rfl rfl ?_
  refine wgetP (b := (t + 1)) rfl (oK5 hL ht) rfl (oP5_2 hL ht) ?_
  refine kst rfl rfl ?_
  refine wgetI rfl (oK5 hL ht) rfl ?_
  obtain ⟨q1, hW⟩ := hW
  refine wald rfl (Or.inl (aK5_2 hL ht)) (aN5_2 hL ht) (by decide) q1 ?_
  refine kst rfl rfl ?_
  refine wcm_ne rfl hW (fun hW => ?_) (fun hW => ?_)
  · refine kst rfl rfl ?_
    refine wgetP (b := (t + 1)) rfl (oK5 hL ht) rfl (oP5_2 hL ht) ?_
    refine kst rfl rfl ?_
    refine wgetI rfl (oK5 hL ht) rfl ?_
    obtain ⟨q2, hW⟩ := hW
    refine wald rfl (Or.inl (aK5_2 hL ht)) (aN5_2 hL ht) (by decide) q2 ?_
    refine kst rfl rfl ?_
    refine wcm_ne rfl hW (fun hW => ?_) (fun hW => ?_)
    · iterate 3 (refine kst rfl rfl ?_)
      refine wcvI rfl (oK5 hL ht) rfl rfl (R98 (d := d + 0) (h := h) ht ha1 ha2 hL hW) (fun v1 h2 hL hW => ?_)
      refine wif_ne rfl hW (fun hW => ?_) (fun hW => ?_)
      · refine wjp ?_ (R95_81 (h := h2) ht ha1 ha2 hL hW)
        exact ⟨rfl, rfl, rfl, trivial⟩
      · iterate 2 (refine kst rfl rfl ?_)
        refine wgetI rfl (oK5 hL ht) rfl ?_
        refine wcvV rfl (oK1 hL ha2) rfl rfl (R27 (d := d + 3) (h := h2) ha2 hL hW) (fun h3 hL hW => ?_)
        refine wjp ?_ (R95_81 (h := h3) ht ha1 ha2 hL hW)
        exact ⟨rfl, rfl, rfl, trivial⟩
    · iterate 2 (refine kst rfl rfl ?_)
      refine wgetP (b := (t + 2)) rfl (oK5 hL ht) rfl (oP5_3 hL ht) ?_
      refine kst rfl rfl ?_
      refine wgetI rfl (oK5 hL ht) rfl ?_
      obtain ⟨q3, hW⟩ := hW
      refine wald rfl (Or.inl (aK5_3 hL ht)) (aN5_3 hL ht) (by decide) q3 ?_
      refine wcvV rfl (oK5 hL ht) rfl rfl (R96 (d := d + 3) (h := h) ht hL hW) (fun h4 hL hW => ?_)
      refine kst rfl rfl ?_
      refine kre rfl rfl ?_
      exact ⟨_, rfl, hL, hW⟩
  · iterate 3 (refine kst rfl rfl ?_)
    refine qcvI rfl (oK5 hL ht) rfl rfl (R97 (d := d + 2) (h := h) ht ha2 hL hW) (fun v5 hW => ?_)
    refine wif_eq rfl hW (fun hW => ?_) (fun hW => ?_)
    · refine kst rfl rfl ?_
      refine wcvV rfl (oK5 hL ht) rfl rfl (R96 (d := d + 3) (h := h) ht hL hW) (fun h6 hL hW => ?_)
      refine kst rfl rfl ?_
      refine kre rfl rfl ?_
      exact ⟨_, rfl, hL, hW⟩
    · iterate 2 (refine kst rfl rfl ?_)
      refine wcvV rfl (oK5 hL ht) rfl rfl (R96 (d := d + 3) (h := h) ht hL hW) (fun h7 hL hW => ?_)
      refine kst rfl rfl ?_
      refine kre rfl rfl ?_
      exact ⟨_, rfl, hL, hW⟩
/-- 91: Plan runWith -/
def B91_105 (t : Nat) (a1 : Nat) (a2 : Nat) (x4 : Int32) (x5 : Int32) (h : TH) (C : TH → Prop) (X21 : Int32 × Int32 × TH → Prop) : Prop :=
  W95 t a1 a2 h (fun h4 => X21 (x4, (x5 + 1), h4))
def F91_21 (t : Nat) (a1 : Nat) (a2 : Nat) (C : TH → Prop) (X21 : Int32 × Int32 × TH → Prop) : Int32 × Int32 × TH → Prop := fun
  | (x4, x5, h) =>
    if 1000000 ≤ x5 then (C h) else (W93 t h (fun v2 => if v2 = 0 then (if (h.I t 1) ≤ (h.I t 9) then (C h) else (if x4 < 900 then (inb (h.I t 9) 30 ∧ if (h.I (t + 1) (ix (h.I t 9))) = 22 then (C h) else (inb (h.I t 9) 30 ∧ W92 (h.I (t + 1) (ix (h.I t 9))) h (fun v3 => if v3 = 0 then (B91_105 t a1 a2 (x4 + 1) x5 h C X21) else (if (h.I a2 4) < 300 then (B91_105 t a1 a2 (x4 + 1) x5 h C X21) else (C h))))) else (C h))) else (W94 t h (fun h4 => X21 (x4, (x5 + 1), h4)))))
def B91_21 (t : Nat) (a1 : Nat) (a2 : Nat) (x4 : Int32) (x5 : Int32) (h : TH) (C : TH → Prop) : Prop := LFP (F91_21 t a1 a2 C) (x4, x5, h)
def W91 (t : Nat) (a1 : Nat) (a2 : Nat) (a3 : Int32) (h : TH) (C : TH → Prop) : Prop :=
  W16 a2 a3 h (fun h1 => B91_21 t a1 a2 0 0 ((h1.sI t 8 0).sI t 9 0) C)

theorem R91_105 {d : Nat} {t : Nat} {a1 : Nat} {a2 : Nat} {x4 : Int32} {x5 : Int32} {h : TH} {C : TH → Prop} {X21 : Int32 × Int32 × TH → Prop} (k21 : ∀ s : Int32 × Int32 × TH, X21 s → Lay (s.2.2) → xEk (d + 5) 91 (21, [(0, .ref t), (1, .ref a1), (2, .ref a2), (4, .int (s.1)), (5, .int (s.2.1))], [], (TH.X (s.2.2))) (postV C)) (ht : is5 t) (ha1 : is3 a1) (ha2 : is1 a2) (hL : Lay h) (hW : B91_105 t a1 a2 x4 x5 h C X21) : xEk (d + 5) 91 (105, [(0, .ref t), (1, .ref a1), (2, .ref a2), (4, .int x4), (5, .int x5)], [], h.X) (postV C) := by
  unfold B91_105 at hW
  iterate 3 (refine kst rfl rfl ?_)
  refine wcvV rfl (oK5 hL ht) rfl rfl (R95 (d := d + 0) (h := h) ht ha1 ha2 hL hW) (fun h4 hL hW => ?_)
  iterate 2 (refine kst rfl rfl ?_)
  have z9 := k21 (x4, (x5 + 1), h4) hW hL
  refine wjp ?_ z9
  exact ⟨rfl, rfl, rfl, rfl, rfl, trivial⟩
theorem R91_21 {d : Nat} {t : Nat} {a1 : Nat} {a2 : Nat} {x4 : Int32} {x5 : Int32} {h : TH} {C : TH → Prop} (ht : is5 t) (ha1 : is3 a1) (ha2 : is1 a2) (hL : Lay h) (hW : B91_21 t a1 a2 x4 x5 h C) : xEk (d + 5) 91 (21, [(0, .ref t), (1, .ref a1), (2, .ref a2), (4, .int x4), (5, .int x5)], [], h.X) (postV C) := by
  refine hW (fun s => Lay (s.2.2) → xEk (d + 5) 91 (21, [(0, .ref t), (1, .ref a1), (2, .ref a2), (4, .int (s.1)), (5, .int (s.2.1))], [], (TH.X (s.2.2))) (postV C)) ?_ hL
  rintro ⟨x4, x5, h⟩ hW hL
  have k21 : ∀ s : Int32 × Int32 × TH, (fun s => Lay (s.2.2) → xEk (d + 5) 91 (21, [(0, .ref t), (1, .ref a1), (2, .ref a2), (4, .int (s.1)), (5, .int (s.2.1))], [], (TH.X (s.2.2))) (postV C)) s → Lay (s.2.2) → xEk (d + 5) 91 (21, [(0, .ref t), (1, .ref a1), (2, .ref a2), (4, .int (s.1)), (5, .int (s.2.1))], [], (TH.X (s.2.2))) (postV C) := fun s hs => hs
  unfold F91_21 at hW
  dsimp only at hW
  iterate 2 (refine kst rfl rfl ?_)
  refine wcm_ge rfl hW (fun hW => ?_) (fun hW => ?_)
  · refine kre rfl rfl ?_
    exact ⟨_, rfl, hL, hW⟩
  · refine kst rfl rfl ?_
    refine qcvI rfl (oK5 hL ht) rfl rfl (R93 (d := d + 4) (h := h) ht hL hW) (fun v2 hW => ?_)
    refine wif_eq rfl hW (fun hW => ?_) (fun hW => ?_)
    · refine kst rfl rfl ?_
      refine wgetI rfl (oK5 hL ht) rfl ?_
      refine kst rfl rfl ?_
      refine wgetI rfl (oK5 hL ht) rfl ?_
      refine wcm_ge rfl hW (fun hW => ?_) (fun hW => ?_)
      · refine kre rfl rfl ?_
        exact ⟨_, rfl, hL, hW⟩
      · iterate 2 (refine kst rfl rfl ?_)
        refine wcm_lt rfl hW (fun hW => ?_) (fun hW => ?_)
        · iterate 2 (refine kst rfl rfl ?_)
          refine wgetP (b := (t + 1)) rfl (oK5 hL ht) rfl (oP5_2 hL ht) ?_
          refine kst rfl rfl ?_
          refine wgetI rfl (oK5 hL ht) rfl ?_
          obtain ⟨q1, hW⟩ := hW
          refine wald rfl (Or.inl (aK5_2 hL ht)) (aN5_2 hL ht) (by decide) q1 ?_
          refine kst rfl rfl ?_
          refine wcm_eq rfl hW (fun hW => ?_) (fun hW => ?_)
          · refine kre rfl rfl ?_
            exact ⟨_, rfl, hL, hW⟩
          · refine kst rfl rfl ?_
            refine wgetP (b := (t + 1)) rfl (oK5 hL ht) rfl (oP5_2 hL ht) ?_
            refine kst rfl rfl ?_
            refine wgetI rfl (oK5 hL ht) rfl ?_
            obtain ⟨q2, hW⟩ := hW
            refine wald rfl (Or.inl (aK5_2 hL ht)) (aN5_2 hL ht) (by decide) q2 ?_
            refine qcaI rfl rfl (R92 (d := d + 4) (h := h) hL hW) (fun v3 hW => ?_)
            refine wif_eq rfl hW (fun hW => ?_) (fun hW => ?_)
            · refine wjp ?_ (R91_105 (h := h) k21 ht ha1 ha2 hL hW)
              exact ⟨rfl, rfl, rfl, rfl, rfl, trivial⟩
            · refine kst rfl rfl ?_
              refine wgetI rfl (oK1 hL ha2) rfl ?_
              refine kst rfl rfl ?_
              refine wcm_lt rfl hW (fun hW => ?_) (fun hW => ?_)
              · refine wjp ?_ (R91_105 (h := h) k21 ht ha1 ha2 hL hW)
                exact ⟨rfl, rfl, rfl, rfl, rfl, trivial⟩
              · refine kre rfl rfl ?_
                exact ⟨_, rfl, hL, hW⟩
        · refine kre rfl rfl ?_
          exact ⟨_, rfl, hL, hW⟩
    · refine kst rfl rfl ?_
      refine wcvV rfl (oK5 hL ht) rfl rfl (R94 (d := d + 4) (h := h) ht hL hW) (fun h4 hL hW => ?_)
      iterate 3 (refine kst rfl rfl ?_)
      have z9 := k21 (x4, (x5 + 1), h4) hW hL
      refine wjp ?_ z9
      exact ⟨rfl, rfl, rfl, rfl, rfl, trivial⟩
theorem R91 {d : Nat} {t : Nat} {a1 : Nat} {a2 : Nat} {a3 : Int32} {h : TH} {C : TH → Prop} (ht : is5 t) (ha1 : is3 a1) (ha2 : is1 a2) (hL : Lay h) (hW : W91 t a1 a2 a3 h C) : xPk (d + 5) 91 [.ref t, .ref a1, .ref a2, .int a3] h.X (postV C) := by
  unfold W91 at hW
  refine kin (Nat.le_of_ble_eq_true rfl) ?_
  iterate 2 (refine kst rfl rfl ?_)
  refine wcvV rfl (oK1 hL ha2) rfl rfl (R16 (d := d + 3) (h := h) ha2 hL hW) (fun h1 hL hW => ?_)
  iterate 2 (refine kst rfl rfl ?_)
  refine wputI rfl (oK5 hL ht) rfl ?_
  replace hL : Lay (h1.sI t 8 0) := lsI hL
  iterate 2 (refine kst rfl rfl ?_)
  refine wputI rfl (oK5 hL ht) rfl ?_
  replace hL : Lay ((h1.sI t 8 0).sI t 9 0) := lsI hL
  iterate 4 (refine kst rfl rfl ?_)
  refine wjp ?_ (R91_21 (h := ((h1.sI t 8 0).sI t 9 0)) ht ha1 ha2 hL hW)
  exact ⟨rfl, rfl, rfl, rfl, rfl, trivial⟩
/-- 101: PlanReader readEnd -/
def W101 (h : TH) (C : Int32 → TH → Prop) : Prop :=
  if 0 < (h.I 31 3) then (inb ((h.sI 31 3 ((h.I 31 3) - 1)).I 31 3) 3 ∧ inb ((h.sI 31 3 ((h.I 31 3) - 1)).I 39 (ix ((h.sI 31 3 ((h.I 31 3) - 1)).I 31 3))) 30 ∧ ∀ h1, h1 = ((h.sI 31 3 ((h.I 31 3) - 1)).sI (32 + 4) (ix ((h.sI 31 3 ((h.I 31 3) - 1)).I 39 (ix ((h.sI 31 3 ((h.I 31 3) - 1)).I 31 3)))) ((h.sI 31 3 ((h.I 31 3) - 1)).I 32 1)) → W133  h1 (fun h2 => W137 33 h2 (fun v3 h4 => (v3 = 0 ∨ v3 = 1) ∧ C v3 h4))) else (W136  h (fun v5 h6 => (v5 = 0 ∨ v5 = 1) ∧ C v5 h6))

theorem R101 {d : Nat} {h : TH} {C : Int32 → TH → Prop} (hL : Lay h) (hW : W101  h C) : xPk (d + 3) 101 [.ref 31] h.X (postI C) := by
  unfold W101 at hW
  refine kin (Nat.le_of_ble_eq_true rfl) ?_
  refine kst rfl rfl ?_
  refine wgetI rfl (oK6 hL rfl) rfl ?_
  refine wif_gt rfl hW (fun hW => ?_) (fun hW => ?_)
  · iterate 2 (refine kst rfl rfl ?_)
    refine wgetI rfl (oK6 hL rfl) rfl ?_
    iterate 2 (refine kst rfl rfl ?_)
    refine wputI rfl (oK6 hL rfl) rfl ?_
    replace hL : Lay (h.sI 31 3 ((h.I 31 3) - 1)) := lsI hL
    refine kst rfl rfl ?_
    refine wgetP (b := 32) rfl (oK6 hL rfl) rfl (oP6_1 hL) ?_
    refine wgetP (b := (32 + 4)) rfl (oK5 hL is_6_1) rfl (oP5_5 hL is_6_1) ?_
    refine kst rfl rfl ?_
    refine wgetP (b := 39) rfl (oK6 hL rfl) rfl (oP6_2 hL) ?_
    refine kst rfl rfl ?_
    refine wgetI rfl (oK6 hL rfl) rfl ?_
    obtain ⟨q1, hW⟩ := hW
    refine wald rfl (Or.inl (aK6_2 hL)) (aN6_2 hL) (by decide) q1 ?_
    refine kst rfl rfl ?_
    refine wgetP (b := 32) rfl (oK6 hL rfl) rfl (oP6_1 hL) ?_
    refine wgetI rfl (oK5 hL is_6_1) rfl ?_
    obtain ⟨q2, hW⟩ := hW
    refine wast rfl (aK5_5 hL is_6_1) (aN5_5 hL is_6_1) (by decide) q2 ?_
    replace hL : Lay ((h.sI 31 3 ((h.I 31 3) - 1)).sI (32 + 4) (ix ((h.sI 31 3 ((h.I 31 3) - 1)).I 39 (ix ((h.sI 31 3 ((h.I 31 3) - 1)).I 31 3)))) ((h.sI 31 3 ((h.I 31 3) - 1)).I 32 1)) := lsI hL
    refine kst rfl rfl ?_
    refine whb (h := ((h.sI 31 3 ((h.I 31 3) - 1)).sI (32 + 4) (ix ((h.sI 31 3 ((h.I 31 3) - 1)).I 39 (ix ((h.sI 31 3 ((h.I 31 3) - 1)).I 31 3)))) ((h.sI 31 3 ((h.I 31 3) - 1)).I 32 1))) (fun h1 eh1 => ?_)
    replace hW := hW h1 eh1
    replace hL : Lay h1 := by rw [eh1]; exact hL
    clear eh1
    refine wgetP (b := 9) rfl (oK6 hL rfl) rfl (oP6_0 hL) ?_
    refine wcvV rfl (oK9 hL rfl) rfl rfl (R133 (d := d + 2) (h := h1) hL hW) (fun h2 hL hW => ?_)
    refine kst rfl rfl ?_
    refine wgetP (b := 9) rfl (oK6 hL rfl) rfl (oP6_0 hL) ?_
    refine kst rfl rfl ?_
    refine wcvI rfl (oK9 hL rfl) rfl rfl (R137 (d := d + 0) (h := h2) hL hW) (fun v3 h4 hL hW => ?_)
    obtain ⟨q3, hW⟩ := hW
    refine wrZ rfl q3 ?_
    exact ⟨_, _, rfl, hL, hW⟩
  · refine kst rfl rfl ?_
    refine wgetP (b := 9) rfl (oK6 hL rfl) rfl (oP6_0 hL) ?_
    refine wcvI rfl (oK9 hL rfl) rfl rfl (R136 (d := d + 1) (h := h) hL hW) (fun v5 h6 hL hW => ?_)
    obtain ⟨q1, hW⟩ := hW
    refine wrZ rfl q1 ?_
    exact ⟨_, _, rfl, hL, hW⟩
/-- 103: PlanReader isPlainStep -/
def W103 (a1 : Int32) (h : TH) (C : Int32 → Prop) : Prop :=
  if a1 = 10 then (C 1) else (if a1 = 11 then (C 1) else (if a1 = 13 then (C 1) else (if a1 = 14 then (C 1) else (if a1 = 15 then (C 1) else (if ¬ a1 = 22 then (C 0) else (C 1))))))

theorem R103 {d : Nat} {a1 : Int32} {h : TH} {C : Int32 → Prop} (hL : Lay h) (hW : W103 a1 h C) : xPk d 103 [.int a1] h.X (qostI h C) := by
  unfold W103 at hW
  refine kin (Nat.le_of_ble_eq_true rfl) ?_
  iterate 2 (refine kst rfl rfl ?_)
  refine wcm_eq rfl hW (fun hW => ?_) (fun hW => ?_)
  · iterate 2 (refine kst rfl rfl ?_)
    refine kre rfl rfl ?_
    exact ⟨_, rfl, hW⟩
  · iterate 2 (refine kst rfl rfl ?_)
    refine wcm_eq rfl hW (fun hW => ?_) (fun hW => ?_)
    · iterate 2 (refine kst rfl rfl ?_)
      refine kre rfl rfl ?_
      exact ⟨_, rfl, hW⟩
    · iterate 2 (refine kst rfl rfl ?_)
      refine wcm_eq rfl hW (fun hW => ?_) (fun hW => ?_)
      · iterate 2 (refine kst rfl rfl ?_)
        refine kre rfl rfl ?_
        exact ⟨_, rfl, hW⟩
      · iterate 2 (refine kst rfl rfl ?_)
        refine wcm_eq rfl hW (fun hW => ?_) (fun hW => ?_)
        · iterate 2 (refine kst rfl rfl ?_)
          refine kre rfl rfl ?_
          exact ⟨_, rfl, hW⟩
        · iterate 2 (refine kst rfl rfl ?_)
          refine wcm_eq rfl hW (fun hW => ?_) (fun hW => ?_)
          · iterate 2 (refine kst rfl rfl ?_)
            refine kre rfl rfl ?_
            exact ⟨_, rfl, hW⟩
          · iterate 2 (refine kst rfl rfl ?_)
            refine wcm_ne rfl hW (fun hW => ?_) (fun hW => ?_)
            · refine kst rfl rfl ?_
              refine kre rfl rfl ?_
              exact ⟨_, rfl, hW⟩
            · iterate 2 (refine kst rfl rfl ?_)
              refine kre rfl rfl ?_
              exact ⟨_, rfl, hW⟩
/-- 106: PlanReader readDish -/
def W106 (a1 : Nat) (h : TH) (C : Int32 → TH → Prop) : Prop :=
  if (h.I 9 9) = 30 then (W134  h (fun v1 => W59 a1 v1 h (fun v2 => if ¬ v2 = (-1) then (W133  h (fun h3 => C v2 h3)) else (W135 3 h (fun v4 h5 => C (-1) h5))))) else (W136  h (fun v6 h7 => C (-1) h7))

theorem R106 {d : Nat} {a1 : Nat} {h : TH} {C : Int32 → TH → Prop} (ha1 : is3 a1) (hL : Lay h) (hW : W106 a1 h C) : xPk (d + 2) 106 [.ref 31, .ref a1] h.X (postI C) := by
  unfold W106 at hW
  refine kin (Nat.le_of_ble_eq_true rfl) ?_
  refine kst rfl rfl ?_
  refine wgetP (b := 9) rfl (oK6 hL rfl) rfl (oP6_0 hL) ?_
  refine wgetI rfl (oK9 hL rfl) rfl ?_
  refine kst rfl rfl ?_
  refine wcm_eq rfl hW (fun hW => ?_) (fun hW => ?_)
  · iterate 2 (refine kst rfl rfl ?_)
    refine wgetP (b := 9) rfl (oK6 hL rfl) rfl (oP6_0 hL) ?_
    refine qcvL rfl (oK9 hL rfl) rfl rfl (R134 (d := d + 1) (h := h) hL hW) (fun v1 hW => ?_)
    refine qcvI rfl (oK3 hL ha1) rfl rfl (R59 (d := d + 1) (h := h) ha1 hL hW) (fun v2 hW => ?_)
    iterate 3 (refine kst rfl rfl ?_)
    refine wcm_ne rfl hW (fun hW => ?_) (fun hW => ?_)
    · refine kst rfl rfl ?_
      refine wgetP (b := 9) rfl (oK6 hL rfl) rfl (oP6_0 hL) ?_
      refine wcvV rfl (oK9 hL rfl) rfl rfl (R133 (d := d + 1) (h := h) hL hW) (fun h3 hL hW => ?_)
      refine kst rfl rfl ?_
      refine kre rfl rfl ?_
      exact ⟨_, _, rfl, hL, hW⟩
    · refine kst rfl rfl ?_
      refine wgetP (b := 9) rfl (oK6 hL rfl) rfl (oP6_0 hL) ?_
      refine kst rfl rfl ?_
      refine wcvI rfl (oK9 hL rfl) rfl rfl (R135 (d := d + 1) (h := h) hL hW) (fun v4 h5 hL hW => ?_)
      iterate 2 (refine kst rfl rfl ?_)
      refine kre rfl rfl ?_
      exact ⟨_, _, rfl, hL, hW⟩
  · refine kst rfl rfl ?_
    refine wgetP (b := 9) rfl (oK6 hL rfl) rfl (oP6_0 hL) ?_
    refine wcvI rfl (oK9 hL rfl) rfl rfl (R136 (d := d + 0) (h := h) hL hW) (fun v6 h7 hL hW => ?_)
    iterate 2 (refine kst rfl rfl ?_)
    refine kre rfl rfl ?_
    exact ⟨_, _, rfl, hL, hW⟩
/-- 105: PlanReader readTest -/
def B105_83 (a2 : Int32) (s0 : Nat) (s1 : Int32) (s2 : Int32) (h : TH) (C : Int32 → TH → Prop) : Prop :=
  okA h s0 100 s1 ∧ inb a2 30 ∧ if ((h.sI s0 (ix s1) s2).I (32 + 2) (ix a2)) = (-1) then (C 0 (h.sI s0 (ix s1) s2)) else (C 1 (h.sI s0 (ix s1) s2))
def B105_34 (a1 : Nat) (a2 : Int32) (x3 : Int32) (h : TH) (C : Int32 → TH → Prop) : Prop :=
  W133  h (fun h1 => inb a2 30 ∧ if ¬ x3 = 19 then (W106 a1 (h1.sI (32 + 3) (ix a2) x3) (fun v2 h3 => B105_83 a2 (32 + 2) a2 v2 h3 C)) else (W138 0 12 (h1.sI (32 + 3) (ix a2) x3) (fun v4 h5 => B105_83 a2 (32 + 2) a2 v4 h5 C)))
def W105 (a1 : Nat) (a2 : Int32) (h : TH) (C : Int32 → TH → Prop) : Prop :=
  if (h.I 9 9) = 17 then (B105_34 a1 a2 (h.I 9 9) h C) else (if (h.I 9 9) = 18 then (B105_34 a1 a2 (h.I 9 9) h C) else (if (h.I 9 9) = 19 then (B105_34 a1 a2 (h.I 9 9) h C) else (W136  h (fun v1 h2 => (v1 = 0 ∨ v1 = 1) ∧ C v1 h2))))

theorem R105_83 {d : Nat} {a2 : Int32} {s0 : Nat} {s1 : Int32} {s2 : Int32} {h : TH} {C : Int32 → TH → Prop} (hL : Lay h) (hW : B105_83 a2 s0 s1 s2 h C) : xEk (d + 3) 105 (83, [(0, .ref 31), (2, .int a2)], [.int s2, .int s1, .ref s0], h.X) (postI C) := by
  unfold B105_83 at hW
  obtain ⟨q2, hW⟩ := hW
  refine wast rfl q2.1 rfl q2.2.2 q2.2.1 ?_
  replace hL : Lay (h.sI s0 (ix s1) s2) := lsI hL
  refine kst rfl rfl ?_
  refine wgetP (b := 32) rfl (oK6 hL rfl) rfl (oP6_1 hL) ?_
  refine wgetP (b := (32 + 2)) rfl (oK5 hL is_6_1) rfl (oP5_3 hL is_6_1) ?_
  refine kst rfl rfl ?_
  obtain ⟨q3, hW⟩ := hW
  refine wald rfl (Or.inl (aK5_3 hL is_6_1)) (aN5_3 hL is_6_1) (by decide) q3 ?_
  refine kst rfl rfl ?_
  refine wcm_eq rfl hW (fun hW => ?_) (fun hW => ?_)
  · refine kst rfl rfl ?_
    refine kre rfl rfl ?_
    exact ⟨_, _, rfl, hL, hW⟩
  · iterate 2 (refine kst rfl rfl ?_)
    refine kre rfl rfl ?_
    exact ⟨_, _, rfl, hL, hW⟩
theorem R105_34 {d : Nat} {a1 : Nat} {a2 : Int32} {x3 : Int32} {h : TH} {C : Int32 → TH → Prop} (ha1 : is3 a1) (hL : Lay h) (hW : B105_34 a1 a2 x3 h C) : xEk (d + 3) 105 (34, [(0, .ref 31), (1, .ref a1), (2, .int a2), (3, .int x3)], [], h.X) (postI C) := by
  unfold B105_34 at hW
  refine kst rfl rfl ?_
  refine wgetP (b := 9) rfl (oK6 hL rfl) rfl (oP6_0 hL) ?_
  refine wcvV rfl (oK9 hL rfl) rfl rfl (R133 (d := d + 2) (h := h) hL hW) (fun h1 hL hW => ?_)
  refine kst rfl rfl ?_
  refine wgetP (b := 32) rfl (oK6 hL rfl) rfl (oP6_1 hL) ?_
  refine wgetP (b := (32 + 3)) rfl (oK5 hL is_6_1) rfl (oP5_4 hL is_6_1) ?_
  iterate 2 (refine kst rfl rfl ?_)
  obtain ⟨q1, hW⟩ := hW
  refine wast rfl (aK5_4 hL is_6_1) (aN5_4 hL is_6_1) (by decide) q1 ?_
  replace hL : Lay (h1.sI (32 + 3) (ix a2) x3) := lsI hL
  refine kst rfl rfl ?_
  refine wgetP (b := 32) rfl (oK6 hL rfl) rfl (oP6_1 hL) ?_
  refine wgetP (b := (32 + 2)) rfl (oK5 hL is_6_1) rfl (oP5_3 hL is_6_1) ?_
  iterate 3 (refine kst rfl rfl ?_)
  refine wcm_ne rfl hW (fun hW => ?_) (fun hW => ?_)
  · iterate 2 (refine kst rfl rfl ?_)
    refine wcvI rfl (oK6 hL rfl) rfl rfl (R106 (d := d + 0) (h := (h1.sI (32 + 3) (ix a2) x3)) ha1 hL hW) (fun v2 h3 hL hW => ?_)
    refine wjp ?_ (R105_83 (h := h3) hL hW)
    exact ⟨rfl, rfl, trivial⟩
  · refine kst rfl rfl ?_
    refine wgetP (b := 9) rfl (oK6 hL rfl) rfl (oP6_0 hL) ?_
    iterate 2 (refine kst rfl rfl ?_)
    refine wcvI rfl (oK9 hL rfl) rfl rfl (R138 (d := d + 0) (h := (h1.sI (32 + 3) (ix a2) x3)) hL hW) (fun v4 h5 hL hW => ?_)
    refine kst rfl rfl ?_
    refine wjp ?_ (R105_83 (h := h5) hL hW)
    exact ⟨rfl, rfl, trivial⟩
theorem R105 {d : Nat} {a1 : Nat} {a2 : Int32} {h : TH} {C : Int32 → TH → Prop} (ha1 : is3 a1) (hL : Lay h) (hW : W105 a1 a2 h C) : xPk (d + 3) 105 [.ref 31, .ref a1, .int a2] h.X (postI C) := by
  unfold W105 at hW
  refine kin (Nat.le_of_ble_eq_true rfl) ?_
  refine kst rfl rfl ?_
  refine wgetP (b := 9) rfl (oK6 hL rfl) rfl (oP6_0 hL) ?_
  refine wgetI rfl (oK9 hL rfl) rfl ?_
  iterate 3 (refine kst rfl rfl ?_)
  refine wcm_eq rfl hW (fun hW => ?_) (fun hW => ?_)
  · refine wjp ?_ (R105_34 (h := h) ha1 hL hW)
    exact ⟨rfl, rfl, rfl, rfl, trivial⟩
  · iterate 2 (refine kst rfl rfl ?_)
    refine wcm_eq rfl hW (fun hW => ?_) (fun hW => ?_)
    · refine wjp ?_ (R105_34 (h := h) ha1 hL hW)
      exact ⟨rfl, rfl, rfl, rfl, trivial⟩
    · iterate 2 (refine kst rfl rfl ?_)
      refine wcm_eq rfl hW (fun hW => ?_) (fun hW => ?_)
      · refine wjp ?_ (R105_34 (h := h) ha1 hL hW)
        exact ⟨rfl, rfl, rfl, rfl, trivial⟩
      · refine kst rfl rfl ?_
        refine wgetP (b := 9) rfl (oK6 hL rfl) rfl (oP6_0 hL) ?_
        refine wcvI rfl (oK9 hL rfl) rfl rfl (R136 (d := d + 1) (h := h) hL hW) (fun v1 h2 hL hW => ?_)
        obtain ⟨q1, hW⟩ := hW
        refine wrZ rfl q1 ?_
        exact ⟨_, _, rfl, hL, hW⟩
/-- 104: PlanReader readRest -/
def W104 (a1 : Nat) (a2 : Int32) (h : TH) (C : Int32 → TH → Prop) : Prop :=
  inb a2 30 ∧ if (h.I (32 + 1) (ix a2)) = 11 then (W106 a1 h (fun v1 h2 => inb a2 30 ∧ inb a2 30 ∧ if ((h2.sI (32 + 2) (ix a2) v1).I (32 + 2) (ix a2)) = (-1) then (C 0 (h2.sI (32 + 2) (ix a2) v1)) else (W137 12 (h2.sI (32 + 2) (ix a2) v1) (fun v3 h4 => if ¬ v3 = 0 then (W106 a1 h4 (fun v5 h6 => inb a2 30 ∧ inb a2 30 ∧ if ((h6.sI (32 + 3) (ix a2) v5).I (32 + 3) (ix a2)) = (-1) then (C 0 (h6.sI (32 + 3) (ix a2) v5)) else (C 1 (h6.sI (32 + 3) (ix a2) v5)))) else (C 0 h4))))) else if (h.I (32 + 1) (ix a2)) = 16 then (W105 a1 a2 h (fun v7 h8 => (v7 = 0 ∨ v7 = 1) ∧ C v7 h8)) else if (h.I (32 + 1) (ix a2)) = 20 then (W138 1 99 h (fun v9 h10 => inb a2 30 ∧ inb a2 30 ∧ if ((h10.sI (32 + 2) (ix a2) v9).I (32 + 2) (ix a2)) = (-1) then (C 0 (h10.sI (32 + 2) (ix a2) v9)) else (C 1 (h10.sI (32 + 2) (ix a2) v9)))) else if (h.I (32 + 1) (ix a2)) = 22 then (C 1 h) else (W106 a1 h (fun v11 h12 => inb a2 30 ∧ inb a2 30 ∧ if ((h12.sI (32 + 2) (ix a2) v11).I (32 + 2) (ix a2)) = (-1) then (C 0 (h12.sI (32 + 2) (ix a2) v11)) else (C 1 (h12.sI (32 + 2) (ix a2) v11))))

theorem R104 {d : Nat} {a1 : Nat} {a2 : Int32} {h : TH} {C : Int32 → TH → Prop} (ha1 : is3 a1) (hL : Lay h) (hW : W104 a1 a2 h C) : xPk (d + 4) 104 [.ref 31, .ref a1, .int a2] h.X (postI C) := by
  unfold W104 at hW
  refine kin (Nat.le_of_ble_eq_true rfl) ?_
  refine kst rfl rfl ?_
  refine wgetP (b := 32) rfl (oK6 hL rfl) rfl (oP6_1 hL) ?_
  refine wgetP (b := (32 + 1)) rfl (oK5 hL is_6_1) rfl (oP5_2 hL is_6_1) ?_
  refine kst rfl rfl ?_
  obtain ⟨q1, hW⟩ := hW
  refine wald rfl (Or.inl (aK5_2 hL is_6_1)) (aN5_2 hL is_6_1) (by decide) q1 ?_
  refine wsw hW (fun c0 hW => ?_) (fun c0 hW => ?_)
  · refine wswi (t := 99) rfl (fun _ => rfl) (swc c0 rfl) ?_
    refine kst rfl rfl ?_
    refine wgetP (b := 32) rfl (oK6 hL rfl) rfl (oP6_1 hL) ?_
    refine wgetP (b := (32 + 2)) rfl (oK5 hL is_6_1) rfl (oP5_3 hL is_6_1) ?_
    iterate 3 (refine kst rfl rfl ?_)
    refine wcvI rfl (oK6 hL rfl) rfl rfl (R106 (d := d + 1) (h := h) ha1 hL hW) (fun v1 h2 hL hW => ?_)
    obtain ⟨q2, hW⟩ := hW
    refine wast rfl (aK5_3 hL is_6_1) (aN5_3 hL is_6_1) (by decide) q2 ?_
    replace hL : Lay (h2.sI (32 + 2) (ix a2) v1) := lsI hL
    refine kst rfl rfl ?_
    refine wgetP (b := 32) rfl (oK6 hL rfl) rfl (oP6_1 hL) ?_
    refine wgetP (b := (32 + 2)) rfl (oK5 hL is_6_1) rfl (oP5_3 hL is_6_1) ?_
    refine kst rfl rfl ?_
    obtain ⟨q3, hW⟩ := hW
    refine wald rfl (Or.inl (aK5_3 hL is_6_1)) (aN5_3 hL is_6_1) (by decide) q3 ?_
    refine kst rfl rfl ?_
    refine wcm_eq rfl hW (fun hW => ?_) (fun hW => ?_)
    · refine kst rfl rfl ?_
      refine kre rfl rfl ?_
      exact ⟨_, _, rfl, hL, hW⟩
    · refine kst rfl rfl ?_
      refine wgetP (b := 9) rfl (oK6 hL rfl) rfl (oP6_0 hL) ?_
      refine kst rfl rfl ?_
      refine wcvI rfl (oK9 hL rfl) rfl rfl (R137 (d := d + 1) (h := (h2.sI (32 + 2) (ix a2) v1)) hL hW) (fun v3 h4 hL hW => ?_)
      refine wif_ne rfl hW (fun hW => ?_) (fun hW => ?_)
      · refine kst rfl rfl ?_
        refine wgetP (b := 32) rfl (oK6 hL rfl) rfl (oP6_1 hL) ?_
        refine wgetP (b := (32 + 3)) rfl (oK5 hL is_6_1) rfl (oP5_4 hL is_6_1) ?_
        iterate 3 (refine kst rfl rfl ?_)
        refine wcvI rfl (oK6 hL rfl) rfl rfl (R106 (d := d + 1) (h := h4) ha1 hL hW) (fun v5 h6 hL hW => ?_)
        obtain ⟨q4, hW⟩ := hW
        refine wast rfl (aK5_4 hL is_6_1) (aN5_4 hL is_6_1) (by decide) q4 ?_
        replace hL : Lay (h6.sI (32 + 3) (ix a2) v5) := lsI hL
        refine kst rfl rfl ?_
        refine wgetP (b := 32) rfl (oK6 hL rfl) rfl (oP6_1 hL) ?_
        refine wgetP (b := (32 + 3)) rfl (oK5 hL is_6_1) rfl (oP5_4 hL is_6_1) ?_
        refine kst rfl rfl ?_
        obtain ⟨q5, hW⟩ := hW
        refine wald rfl (Or.inl (aK5_4 hL is_6_1)) (aN5_4 hL is_6_1) (by decide) q5 ?_
        refine kst rfl rfl ?_
        refine wcm_eq rfl hW (fun hW => ?_) (fun hW => ?_)
        · refine kst rfl rfl ?_
          refine kre rfl rfl ?_
          exact ⟨_, _, rfl, hL, hW⟩
        · iterate 2 (refine kst rfl rfl ?_)
          refine kre rfl rfl ?_
          exact ⟨_, _, rfl, hL, hW⟩
      · refine kst rfl rfl ?_
        refine kre rfl rfl ?_
        exact ⟨_, _, rfl, hL, hW⟩
  refine wsw hW (fun c1 hW => ?_) (fun c1 hW => ?_)
  · refine wswi (t := 92) rfl (fun _ => rfl) (swc c1 rfl) ?_
    iterate 3 (refine kst rfl rfl ?_)
    refine wcvI rfl (oK6 hL rfl) rfl rfl (R105 (d := d + 0) (h := h) ha1 hL hW) (fun v7 h8 hL hW => ?_)
    obtain ⟨q4, hW⟩ := hW
    refine wrZ rfl q4 ?_
    exact ⟨_, _, rfl, hL, hW⟩
  refine wsw hW (fun c2 hW => ?_) (fun c2 hW => ?_)
  · refine wswi (t := 54) rfl (fun _ => rfl) (swc c2 rfl) ?_
    refine kst rfl rfl ?_
    refine wgetP (b := 32) rfl (oK6 hL rfl) rfl (oP6_1 hL) ?_
    refine wgetP (b := (32 + 2)) rfl (oK5 hL is_6_1) rfl (oP5_3 hL is_6_1) ?_
    iterate 2 (refine kst rfl rfl ?_)
    refine wgetP (b := 9) rfl (oK6 hL rfl) rfl (oP6_0 hL) ?_
    iterate 2 (refine kst rfl rfl ?_)
    refine wcvI rfl (oK9 hL rfl) rfl rfl (R138 (d := d + 1) (h := h) hL hW) (fun v9 h10 hL hW => ?_)
    obtain ⟨q5, hW⟩ := hW
    refine wast rfl (aK5_3 hL is_6_1) (aN5_3 hL is_6_1) (by decide) q5 ?_
    replace hL : Lay (h10.sI (32 + 2) (ix a2) v9) := lsI hL
    refine kst rfl rfl ?_
    refine wgetP (b := 32) rfl (oK6 hL rfl) rfl (oP6_1 hL) ?_
    refine wgetP (b := (32 + 2)) rfl (oK5 hL is_6_1) rfl (oP5_3 hL is_6_1) ?_
    refine kst rfl rfl ?_
    obtain ⟨q6, hW⟩ := hW
    refine wald rfl (Or.inl (aK5_3 hL is_6_1)) (aN5_3 hL is_6_1) (by decide) q6 ?_
    refine kst rfl rfl ?_
    refine wcm_eq rfl hW (fun hW => ?_) (fun hW => ?_)
    · refine kst rfl rfl ?_
      refine kre rfl rfl ?_
      exact ⟨_, _, rfl, hL, hW⟩
    · iterate 2 (refine kst rfl rfl ?_)
      refine kre rfl rfl ?_
      exact ⟨_, _, rfl, hL, hW⟩
  refine wsw hW (fun c3 hW => ?_) (fun c3 hW => ?_)
  · refine wswi (t := 52) rfl (fun _ => rfl) (swc c3 rfl) ?_
    refine kst rfl rfl ?_
    refine kre rfl rfl ?_
    exact ⟨_, _, rfl, hL, hW⟩
  refine wswi (t := 173) rfl (fun _ => rfl) (by have z0 := i32ne (k := 11) c0 rfl; have z1 := i32ne (k := 16) c1 rfl; have z2 := i32ne (k := 20) c2 rfl; have z3 := i32ne (k := 22) c3 rfl; simp only [xsw, Op.lookupswitch.offset_cons, Op.lookupswitch.offset_nil]; rw [if_neg (Ne.symm z0)]; rw [if_neg (Ne.symm z1)]; rw [if_neg (Ne.symm z2)]; rw [if_neg (Ne.symm z3)]; rfl) ?_
  refine kst rfl rfl ?_
  refine wgetP (b := 32) rfl (oK6 hL rfl) rfl (oP6_1 hL) ?_
  refine wgetP (b := (32 + 2)) rfl (oK5 hL is_6_1) rfl (oP5_3 hL is_6_1) ?_
  iterate 3 (refine kst rfl rfl ?_)
  refine wcvI rfl (oK6 hL rfl) rfl rfl (R106 (d := d + 1) (h := h) ha1 hL hW) (fun v11 h12 hL hW => ?_)
  obtain ⟨q7, hW⟩ := hW
  refine wast rfl (aK5_3 hL is_6_1) (aN5_3 hL is_6_1) (by decide) q7 ?_
  replace hL : Lay (h12.sI (32 + 2) (ix a2) v11) := lsI hL
  refine kst rfl rfl ?_
  refine wgetP (b := 32) rfl (oK6 hL rfl) rfl (oP6_1 hL) ?_
  refine wgetP (b := (32 + 2)) rfl (oK5 hL is_6_1) rfl (oP5_3 hL is_6_1) ?_
  refine kst rfl rfl ?_
  obtain ⟨q8, hW⟩ := hW
  refine wald rfl (Or.inl (aK5_3 hL is_6_1)) (aN5_3 hL is_6_1) (by decide) q8 ?_
  refine kst rfl rfl ?_
  refine wcm_eq rfl hW (fun hW => ?_) (fun hW => ?_)
  · refine kst rfl rfl ?_
    refine kre rfl rfl ?_
    exact ⟨_, _, rfl, hL, hW⟩
  · iterate 2 (refine kst rfl rfl ?_)
    refine kre rfl rfl ?_
    exact ⟨_, _, rfl, hL, hW⟩
/-- 102: PlanReader readStep -/
def B102_133 (a1 : Nat) (x4 : Int32) (h : TH) (C : Int32 → TH → Prop) : Prop :=
  W104 a1 x4 h (fun v4 h5 => if v4 = 0 then (C 0 h5) else (W137 33 h5 (fun v6 h7 => if v6 = 0 then (C 0 h7) else (C 1 h7))))
def B102_89 (a1 : Nat) (x2 : Int32) (x3 : Int32) (h : TH) (C : Int32 → TH → Prop) : Prop :=
  W133  h (fun h1 => W90 32 x2 (-1) (-1) h1 (fun v2 h3 => if x3 = 0 then (B102_133 a1 v2 h3 C) else (inb (h3.I 31 3) 3 ∧ B102_133 a1 v2 ((h3.sI 39 (ix (h3.I 31 3)) v2).sI 31 3 (((h3.sI 39 (ix (h3.I 31 3)) v2).I 31 3) + 1)) C)))
def B102_45 (a1 : Nat) (x2 : Int32) (x3 : Int32) (h : TH) (C : Int32 → TH → Prop) : Prop :=
  if (h.I 32 1) < 30 then (if x3 = 0 then (B102_89 a1 x2 x3 h C) else (if (h.I 31 3) < 3 then (B102_89 a1 x2 x3 h C) else (W135 7 h (fun v1 h2 => (v1 = 0 ∨ v1 = 1) ∧ C v1 h2)))) else (W135 6 h (fun v3 h4 => (v3 = 0 ∨ v3 = 1) ∧ C v3 h4))
def B102_20 (a1 : Nat) (x2 : Int32) (h : TH) (C : Int32 → TH → Prop) : Prop :=
  B102_45 a1 x2 1 h C
def W102 (a1 : Nat) (h : TH) (C : Int32 → TH → Prop) : Prop :=
  if (h.I 9 9) = 16 then (B102_20 a1 (h.I 9 9) h C) else (if ¬ (h.I 9 9) = 20 then (W103 (h.I 9 9) h (fun v1 => if ¬ v1 = 0 then (B102_45 a1 (h.I 9 9) 0 h C) else (W136  h (fun v2 h3 => (v2 = 0 ∨ v2 = 1) ∧ C v2 h3)))) else (B102_20 a1 (h.I 9 9) h C))

theorem R102_133 {d : Nat} {a1 : Nat} {x4 : Int32} {h : TH} {C : Int32 → TH → Prop} (ha1 : is3 a1) (hL : Lay h) (hW : B102_133 a1 x4 h C) : xEk (d + 5) 102 (133, [(0, .ref 31), (1, .ref a1), (4, .int x4)], [], h.X) (postI C) := by
  unfold B102_133 at hW
  iterate 3 (refine kst rfl rfl ?_)
  refine wcvI rfl (oK6 hL rfl) rfl rfl (R104 (d := d + 0) (h := h) ha1 hL hW) (fun v4 h5 hL hW => ?_)
  refine wif_eq rfl hW (fun hW => ?_) (fun hW => ?_)
  · refine kst rfl rfl ?_
    refine kre rfl rfl ?_
    exact ⟨_, _, rfl, hL, hW⟩
  · refine kst rfl rfl ?_
    refine wgetP (b := 9) rfl (oK6 hL rfl) rfl (oP6_0 hL) ?_
    refine kst rfl rfl ?_
    refine wcvI rfl (oK9 hL rfl) rfl rfl (R137 (d := d + 2) (h := h5) hL hW) (fun v6 h7 hL hW => ?_)
    refine wif_eq rfl hW (fun hW => ?_) (fun hW => ?_)
    · refine kst rfl rfl ?_
      refine kre rfl rfl ?_
      exact ⟨_, _, rfl, hL, hW⟩
    · iterate 2 (refine kst rfl rfl ?_)
      refine kre rfl rfl ?_
      exact ⟨_, _, rfl, hL, hW⟩
theorem R102_89 {d : Nat} {a1 : Nat} {x2 : Int32} {x3 : Int32} {h : TH} {C : Int32 → TH → Prop} (ha1 : is3 a1) (hL : Lay h) (hW : B102_89 a1 x2 x3 h C) : xEk (d + 5) 102 (89, [(0, .ref 31), (1, .ref a1), (2, .int x2), (3, .int x3)], [], h.X) (postI C) := by
  unfold B102_89 at hW
  refine kst rfl rfl ?_
  refine wgetP (b := 9) rfl (oK6 hL rfl) rfl (oP6_0 hL) ?_
  refine wcvV rfl (oK9 hL rfl) rfl rfl (R133 (d := d + 4) (h := h) hL hW) (fun h1 hL hW => ?_)
  refine kst rfl rfl ?_
  refine wgetP (b := 32) rfl (oK6 hL rfl) rfl (oP6_1 hL) ?_
  iterate 3 (refine kst rfl rfl ?_)
  refine wcvI rfl (oK5 hL is_6_1) rfl rfl (R90 (d := d + 4) (h := h1) is_6_1 hL hW) (fun v2 h3 hL hW => ?_)
  iterate 2 (refine kst rfl rfl ?_)
  refine wif_eq rfl hW (fun hW => ?_) (fun hW => ?_)
  · refine wjp ?_ (R102_133 (h := h3) ha1 hL hW)
    exact ⟨rfl, rfl, rfl, trivial⟩
  · refine kst rfl rfl ?_
    refine wgetP (b := 39) rfl (oK6 hL rfl) rfl (oP6_2 hL) ?_
    refine kst rfl rfl ?_
    refine wgetI rfl (oK6 hL rfl) rfl ?_
    refine kst rfl rfl ?_
    obtain ⟨q1, hW⟩ := hW
    refine wast rfl (aK6_2 hL) (aN6_2 hL) (by decide) q1 ?_
    replace hL : Lay (h3.sI 39 (ix (h3.I 31 3)) v2) := lsI hL
    iterate 2 (refine kst rfl rfl ?_)
    refine wgetI rfl (oK6 hL rfl) rfl ?_
    iterate 2 (refine kst rfl rfl ?_)
    refine wputI rfl (oK6 hL rfl) rfl ?_
    replace hL : Lay ((h3.sI 39 (ix (h3.I 31 3)) v2).sI 31 3 (((h3.sI 39 (ix (h3.I 31 3)) v2).I 31 3) + 1)) := lsI hL
    refine wjp ?_ (R102_133 (h := ((h3.sI 39 (ix (h3.I 31 3)) v2).sI 31 3 (((h3.sI 39 (ix (h3.I 31 3)) v2).I 31 3) + 1))) ha1 hL hW)
    exact ⟨rfl, rfl, rfl, trivial⟩
theorem R102_45 {d : Nat} {a1 : Nat} {x2 : Int32} {x3 : Int32} {h : TH} {C : Int32 → TH → Prop} (ha1 : is3 a1) (hL : Lay h) (hW : B102_45 a1 x2 x3 h C) : xEk (d + 5) 102 (45, [(0, .ref 31), (1, .ref a1), (2, .int x2), (3, .int x3)], [], h.X) (postI C) := by
  unfold B102_45 at hW
  refine kst rfl rfl ?_
  refine wgetP (b := 32) rfl (oK6 hL rfl) rfl (oP6_1 hL) ?_
  refine wgetI rfl (oK5 hL is_6_1) rfl ?_
  refine kst rfl rfl ?_
  refine wcm_lt rfl hW (fun hW => ?_) (fun hW => ?_)
  · refine kst rfl rfl ?_
    refine wif_eq rfl hW (fun hW => ?_) (fun hW => ?_)
    · refine wjp ?_ (R102_89 (h := h) ha1 hL hW)
      exact ⟨rfl, rfl, rfl, rfl, trivial⟩
    · refine kst rfl rfl ?_
      refine wgetI rfl (oK6 hL rfl) rfl ?_
      refine kst rfl rfl ?_
      refine wcm_lt rfl hW (fun hW => ?_) (fun hW => ?_)
      · refine wjp ?_ (R102_89 (h := h) ha1 hL hW)
        exact ⟨rfl, rfl, rfl, rfl, trivial⟩
      · refine kst rfl rfl ?_
        refine wgetP (b := 9) rfl (oK6 hL rfl) rfl (oP6_0 hL) ?_
        refine kst rfl rfl ?_
        refine wcvI rfl (oK9 hL rfl) rfl rfl (R135 (d := d + 4) (h := h) hL hW) (fun v1 h2 hL hW => ?_)
        obtain ⟨q1, hW⟩ := hW
        refine wrZ rfl q1 ?_
        exact ⟨_, _, rfl, hL, hW⟩
  · refine kst rfl rfl ?_
    refine wgetP (b := 9) rfl (oK6 hL rfl) rfl (oP6_0 hL) ?_
    refine kst rfl rfl ?_
    refine wcvI rfl (oK9 hL rfl) rfl rfl (R135 (d := d + 4) (h := h) hL hW) (fun v3 h4 hL hW => ?_)
    obtain ⟨q1, hW⟩ := hW
    refine wrZ rfl q1 ?_
    exact ⟨_, _, rfl, hL, hW⟩
theorem R102_20 {d : Nat} {a1 : Nat} {x2 : Int32} {h : TH} {C : Int32 → TH → Prop} (ha1 : is3 a1) (hL : Lay h) (hW : B102_20 a1 x2 h C) : xEk (d + 5) 102 (20, [(0, .ref 31), (1, .ref a1), (2, .int x2)], [], h.X) (postI C) := by
  unfold B102_20 at hW
  iterate 4 (refine kst rfl rfl ?_)
  refine kif_ne rfl (fun _ => ?_) (fun c9 => absurd c9 (by decide))
  refine wjp ?_ (R102_45 (h := h) ha1 hL hW)
  exact ⟨rfl, rfl, rfl, rfl, trivial⟩
theorem R102 {d : Nat} {a1 : Nat} {h : TH} {C : Int32 → TH → Prop} (ha1 : is3 a1) (hL : Lay h) (hW : W102 a1 h C) : xPk (d + 5) 102 [.ref 31, .ref a1] h.X (postI C) := by
  unfold W102 at hW
  refine kin (Nat.le_of_ble_eq_true rfl) ?_
  refine kst rfl rfl ?_
  refine wgetP (b := 9) rfl (oK6 hL rfl) rfl (oP6_0 hL) ?_
  refine wgetI rfl (oK9 hL rfl) rfl ?_
  iterate 3 (refine kst rfl rfl ?_)
  refine wcm_eq rfl hW (fun hW => ?_) (fun hW => ?_)
  · refine wjp ?_ (R102_20 (h := h) ha1 hL hW)
    exact ⟨rfl, rfl, rfl, trivial⟩
  · iterate 2 (refine kst rfl rfl ?_)
    refine wcm_ne rfl hW (fun hW => ?_) (fun hW => ?_)
    · iterate 3 (refine kst rfl rfl ?_)
      refine kif_ne rfl (fun c9 => absurd c9 (by decide)) (fun _ => ?_)
      refine kst rfl rfl ?_
      refine qcaI rfl rfl (R103 (d := d + 4) (h := h) hL hW) (fun v1 hW => ?_)
      refine wif_ne rfl hW (fun hW => ?_) (fun hW => ?_)
      · refine wjp ?_ (R102_45 (h := h) ha1 hL hW)
        exact ⟨rfl, rfl, rfl, rfl, trivial⟩
      · refine kst rfl rfl ?_
        refine wgetP (b := 9) rfl (oK6 hL rfl) rfl (oP6_0 hL) ?_
        refine wcvI rfl (oK9 hL rfl) rfl rfl (R136 (d := d + 3) (h := h) hL hW) (fun v2 h3 hL hW => ?_)
        obtain ⟨q1, hW⟩ := hW
        refine wrZ rfl q1 ?_
        exact ⟨_, _, rfl, hL, hW⟩
    · refine wjp ?_ (R102_20 (h := h) ha1 hL hW)
      exact ⟨rfl, rfl, rfl, trivial⟩
/-- 100: PlanReader readPlan -/
def B100_80 (h : TH) (C : Int32 → TH → Prop) : Prop :=
  if ((h.sI 32 0 1).I 31 3) = 0 then (C 1 (h.sI 32 0 1)) else (W136  (h.sI 32 0 1) (fun v3 h4 => if v3 = 0 then (C 0 h4) else (C 1 h4)))
def B100_65 (a1 : Nat) (x3 : Int32) (s0 : Int32) (h : TH) (C : Int32 → TH → Prop) (X22 : Int32 × TH → Prop) : Prop :=
  if ¬ s0 = 0 then (X22 ((x3 + 1), h)) else (C 0 h)
def F100_22 (a1 : Nat) (C : Int32 → TH → Prop) (X22 : Int32 × TH → Prop) : Int32 × TH → Prop := fun
  | (x3, h) =>
    if 900 < x3 then (B100_80 h C) else (if (h.I 9 9) = 34 then (B100_80 h C) else (if ¬ (h.I 9 9) = 21 then (W102 a1 h (fun v3 h4 => B100_65 a1 x3 v3 h4 C X22)) else (W101  h (fun v5 h6 => B100_65 a1 x3 v5 h6 C X22))))
def B100_22 (a1 : Nat) (x3 : Int32) (h : TH) (C : Int32 → TH → Prop) : Prop := LFP (F100_22 a1 C) (x3, h)
def W100 (a1 : Nat) (a2 : Int32) (h : TH) (C : Int32 → TH → Prop) : Prop :=
  W88 32 h (fun h1 => W126 a2 (h1.sI 31 3 0) (fun h2 => B100_22 a1 0 h2 C))

theorem R100_80 {d : Nat} {h : TH} {C : Int32 → TH → Prop} (hL : Lay h) (hW : B100_80 h C) : xEk (d + 6) 100 (80, [(0, .ref 31)], [], h.X) (postI C) := by
  unfold B100_80 at hW
  refine kst rfl rfl ?_
  refine wgetP (b := 32) rfl (oK6 hL rfl) rfl (oP6_1 hL) ?_
  refine kst rfl rfl ?_
  refine wputZ rfl (oK5 hL is_6_1) rfl (by decide) ?_
  replace hL : Lay (h.sI 32 0 1) := lsI hL
  refine kst rfl rfl ?_
  refine wgetI rfl (oK6 hL rfl) rfl ?_
  refine wif_eq rfl hW (fun hW => ?_) (fun hW => ?_)
  · iterate 2 (refine kst rfl rfl ?_)
    refine kre rfl rfl ?_
    exact ⟨_, _, rfl, hL, hW⟩
  · refine kst rfl rfl ?_
    refine wgetP (b := 9) rfl (oK6 hL rfl) rfl (oP6_0 hL) ?_
    refine wcvI rfl (oK9 hL rfl) rfl rfl (R136 (d := d + 4) (h := (h.sI 32 0 1)) hL hW) (fun v3 h4 hL hW => ?_)
    refine wif_eq rfl hW (fun hW => ?_) (fun hW => ?_)
    · refine kst rfl rfl ?_
      refine kre rfl rfl ?_
      exact ⟨_, _, rfl, hL, hW⟩
    · iterate 2 (refine kst rfl rfl ?_)
      refine kre rfl rfl ?_
      exact ⟨_, _, rfl, hL, hW⟩
theorem R100_65 {d : Nat} {a1 : Nat} {x3 : Int32} {s0 : Int32} {h : TH} {C : Int32 → TH → Prop} {X22 : Int32 × TH → Prop} (k22 : ∀ s : Int32 × TH, X22 s → Lay (s.2) → xEk (d + 6) 100 (22, [(0, .ref 31), (1, .ref a1), (3, .int (s.1))], [], (TH.X (s.2))) (postI C)) (ha1 : is3 a1) (hL : Lay h) (hW : B100_65 a1 x3 s0 h C X22) : xEk (d + 6) 100 (65, [(0, .ref 31), (1, .ref a1), (3, .int x3)], [.int s0], h.X) (postI C) := by
  unfold B100_65 at hW
  iterate 2 (refine kst rfl rfl ?_)
  refine wif_ne rfl hW (fun hW => ?_) (fun hW => ?_)
  · iterate 2 (refine kst rfl rfl ?_)
    have z9 := k22 ((x3 + 1), h) hW hL
    refine wjp ?_ z9
    exact ⟨rfl, rfl, rfl, trivial⟩
  · refine kst rfl rfl ?_
    refine kre rfl rfl ?_
    exact ⟨_, _, rfl, hL, hW⟩
theorem R100_22 {d : Nat} {a1 : Nat} {x3 : Int32} {h : TH} {C : Int32 → TH → Prop} (ha1 : is3 a1) (hL : Lay h) (hW : B100_22 a1 x3 h C) : xEk (d + 6) 100 (22, [(0, .ref 31), (1, .ref a1), (3, .int x3)], [], h.X) (postI C) := by
  refine hW (fun s => Lay (s.2) → xEk (d + 6) 100 (22, [(0, .ref 31), (1, .ref a1), (3, .int (s.1))], [], (TH.X (s.2))) (postI C)) ?_ hL
  rintro ⟨x3, h⟩ hW hL
  have k22 : ∀ s : Int32 × TH, (fun s => Lay (s.2) → xEk (d + 6) 100 (22, [(0, .ref 31), (1, .ref a1), (3, .int (s.1))], [], (TH.X (s.2))) (postI C)) s → Lay (s.2) → xEk (d + 6) 100 (22, [(0, .ref 31), (1, .ref a1), (3, .int (s.1))], [], (TH.X (s.2))) (postI C) := fun s hs => hs
  unfold F100_22 at hW
  dsimp only at hW
  iterate 2 (refine kst rfl rfl ?_)
  refine wcm_gt rfl hW (fun hW => ?_) (fun hW => ?_)
  · refine wjp ?_ (R100_80 (h := h) hL hW)
    exact ⟨rfl, trivial⟩
  · refine kst rfl rfl ?_
    refine wgetP (b := 9) rfl (oK6 hL rfl) rfl (oP6_0 hL) ?_
    refine wgetI rfl (oK9 hL rfl) rfl ?_
    refine kst rfl rfl ?_
    refine wcm_eq rfl hW (fun hW => ?_) (fun hW => ?_)
    · refine wjp ?_ (R100_80 (h := h) hL hW)
      exact ⟨rfl, trivial⟩
    · refine kst rfl rfl ?_
      refine wgetP (b := 9) rfl (oK6 hL rfl) rfl (oP6_0 hL) ?_
      refine wgetI rfl (oK9 hL rfl) rfl ?_
      refine kst rfl rfl ?_
      refine wcm_ne rfl hW (fun hW => ?_) (fun hW => ?_)
      · iterate 2 (refine kst rfl rfl ?_)
        refine wcvI rfl (oK6 hL rfl) rfl rfl (R102 (d := d + 0) (h := h) ha1 hL hW) (fun v3 h4 hL hW => ?_)
        refine wjp ?_ (R100_65 (h := h4) k22 ha1 hL hW)
        exact ⟨rfl, rfl, rfl, trivial⟩
      · refine kst rfl rfl ?_
        refine wcvI rfl (oK6 hL rfl) rfl rfl (R101 (d := d + 2) (h := h) hL hW) (fun v5 h6 hL hW => ?_)
        refine kst rfl rfl ?_
        refine wjp ?_ (R100_65 (h := h6) k22 ha1 hL hW)
        exact ⟨rfl, rfl, rfl, trivial⟩
theorem R100 {d : Nat} {a1 : Nat} {a2 : Int32} {h : TH} {C : Int32 → TH → Prop} (ha1 : is3 a1) (hL : Lay h) (hW : W100 a1 a2 h C) : xPk (d + 6) 100 [.ref 31, .ref a1, .int a2] h.X (postI C) := by
  unfold W100 at hW
  refine kin (Nat.le_of_ble_eq_true rfl) ?_
  refine kst rfl rfl ?_
  refine wgetP (b := 32) rfl (oK6 hL rfl) rfl (oP6_1 hL) ?_
  refine wcvV rfl (oK5 hL is_6_1) rfl rfl (R88 (d := d + 5) (h := h) is_6_1 hL hW) (fun h1 hL hW => ?_)
  iterate 2 (refine kst rfl rfl ?_)
  refine wputI rfl (oK6 hL rfl) rfl ?_
  replace hL : Lay (h1.sI 31 3 0) := lsI hL
  refine kst rfl rfl ?_
  refine wgetP (b := 9) rfl (oK6 hL rfl) rfl (oP6_0 hL) ?_
  refine kst rfl rfl ?_
  refine wcvV rfl (oK9 hL rfl) rfl rfl (R126 (d := d + 2) (h := (h1.sI 31 3 0)) hL hW) (fun h2 hL hW => ?_)
  iterate 2 (refine kst rfl rfl ?_)
  refine wjp ?_ (R100_22 (h := h2) ha1 hL hW)
  exact ⟨rfl, rfl, rfl, trivial⟩
/-- 115: Rounds allCanBeMade -/
def F115_2 (h : TH) (C : Int32 → Prop) (X2 : Int32 → Prop) : Int32 → Prop := fun
  | x1 =>
    h.P 190 0 = some (h.R 190 0) ∧ is3 (h.R 190 0) ∧ if (h.I (h.R 190 0) 1) ≤ x1 then (h.P 190 0 = some (h.R 190 0) ∧ is3 (h.R 190 0) ∧ W112 ((h.R 190 0) + 12) (h.I 190 1) h (fun v1 => (v1 = 0 ∨ v1 = 1) ∧ C v1)) else (if ((h.I 190 2) &&& (ishl 1 x1)) = 0 then (X2 (x1 + 1)) else (h.P 190 0 = some (h.R 190 0) ∧ is3 (h.R 190 0) ∧ W61 (h.R 190 0) x1 h (fun v2 => if v2 = 0 then (C 0) else (h.P 190 0 = some (h.R 190 0) ∧ is3 (h.R 190 0) ∧ h.P 190 0 = some (h.R 190 0) ∧ is3 (h.R 190 0) ∧ inb x1 12 ∧ W112 ((h.R 190 0) + 12) ((h.I ((h.R 190 0) + 6) (ix x1)) ||| (ishl 1 x1)) h (fun v3 => if ¬ v3 = 0 then (X2 (x1 + 1)) else (C 0))))))
def B115_2 (x1 : Int32) (h : TH) (C : Int32 → Prop) : Prop := LFP (F115_2 h C) x1
def W115 (h : TH) (C : Int32 → Prop) : Prop :=
  B115_2 0 h C

theorem R115_2 {d : Nat} {x1 : Int32} {h : TH} {C : Int32 → Prop} (hL : Lay h) (hW : B115_2 x1 h C) : xEk (d + 2) 115 (2, [(0, .ref 190), (1, .int x1)], [], h.X) (qostI h C) := by
  refine hW (fun s => xEk (d + 2) 115 (2, [(0, .ref 190), (1, .int s)], [], (TH.X (h))) (qostI h C)) ?_
  rintro x1 hW 
  have k2 : ∀ s : Int32, (fun s => xEk (d + 2) 115 (2, [(0, .ref 190), (1, .int s)], [], (TH.X (h))) (qostI h C)) s → xEk (d + 2) 115 (2, [(0, .ref 190), (1, .int s)], [], (TH.X (h))) (qostI h C) := fun s hs => hs
  unfold F115_2 at hW
  dsimp only at hW
  iterate 2 (refine kst rfl rfl ?_)
  obtain ⟨q1, hW⟩ := hW
  obtain ⟨q2, hW⟩ := hW
  refine wgetP rfl (oK8 hL rfl) rfl q1 ?_
  refine wgetI rfl (oK3 hL q2) rfl ?_
  refine wcm_ge rfl hW (fun hW => ?_) (fun hW => ?_)
  · refine kst rfl rfl ?_
    obtain ⟨q3, hW⟩ := hW
    obtain ⟨q4, hW⟩ := hW
    refine wgetP rfl (oK8 hL rfl) rfl q3 ?_
    refine wgetP (b := ((h.R 190 0) + 12)) rfl (oK3 hL q4) rfl (oP3_16 hL q4) ?_
    refine kst rfl rfl ?_
    refine wgetI rfl (oK8 hL rfl) rfl ?_
    refine qcvI rfl (oK7 hL (is_3_16 q4)) rfl rfl (R112 (d := d + 0) (h := h) (is_3_16 q4) hL hW) (fun v1 hW => ?_)
    obtain ⟨q5, hW⟩ := hW
    refine wrZ rfl q5 ?_
    exact ⟨_, rfl, hW⟩
  · refine kst rfl rfl ?_
    refine wgetI rfl (oK8 hL rfl) rfl ?_
    iterate 4 (refine kst rfl rfl ?_)
    refine wif_eq rfl hW (fun hW => ?_) (fun hW => ?_)
    · iterate 3 (refine kst rfl rfl ?_)
      refine kif_eq rfl (fun _ => ?_) (fun c9 => absurd c9 (by decide))
      iterate 2 (refine kst rfl rfl ?_)
      have z9 := k2 (x1 + 1) hW
      refine wjp ?_ z9
      exact ⟨rfl, rfl, trivial⟩
    · iterate 4 (refine kst rfl rfl ?_)
      refine kif_eq rfl (fun c9 => absurd c9 (by decide)) (fun _ => ?_)
      refine kst rfl rfl ?_
      obtain ⟨q3, hW⟩ := hW
      obtain ⟨q4, hW⟩ := hW
      refine wgetP rfl (oK8 hL rfl) rfl q3 ?_
      refine kst rfl rfl ?_
      refine qcvI rfl (oK3 hL q4) rfl rfl (R61 (d := d + 1) (h := h) q4 hL hW) (fun v2 hW => ?_)
      refine wif_eq rfl hW (fun hW => ?_) (fun hW => ?_)
      · refine kst rfl rfl ?_
        refine kre rfl rfl ?_
        exact ⟨_, rfl, hW⟩
      · refine kst rfl rfl ?_
        obtain ⟨q5, hW⟩ := hW
        obtain ⟨q6, hW⟩ := hW
        refine wgetP rfl (oK8 hL rfl) rfl q5 ?_
        refine wgetP (b := ((h.R 190 0) + 12)) rfl (oK3 hL q6) rfl (oP3_16 hL q6) ?_
        refine kst rfl rfl ?_
        obtain ⟨q7, hW⟩ := hW
        obtain ⟨q8, hW⟩ := hW
        refine wgetP rfl (oK8 hL rfl) rfl q7 ?_
        refine wgetP (b := ((h.R 190 0) + 6)) rfl (oK3 hL q8) rfl (oP3_10 hL q8) ?_
        refine kst rfl rfl ?_
        obtain ⟨q9, hW⟩ := hW
        refine wald rfl (Or.inl (aK3_10 hL q8)) (aN3_10 hL q8) (by decide) q9 ?_
        iterate 4 (refine kst rfl rfl ?_)
        refine qcvI rfl (oK7 hL (is_3_16 q6)) rfl rfl (R112 (d := d + 0) (h := h) (is_3_16 q6) hL hW) (fun v3 hW => ?_)
        refine wif_ne rfl hW (fun hW => ?_) (fun hW => ?_)
        · iterate 2 (refine kst rfl rfl ?_)
          have z9 := k2 (x1 + 1) hW
          refine wjp ?_ z9
          exact ⟨rfl, rfl, trivial⟩
        · refine kst rfl rfl ?_
          refine kre rfl rfl ?_
          exact ⟨_, rfl, hW⟩
theorem R115 {d : Nat} {h : TH} {C : Int32 → Prop} (hL : Lay h) (hW : W115  h C) : xPk (d + 2) 115 [.ref 190] h.X (qostI h C) := by
  unfold W115 at hW
  refine kin (Nat.le_of_ble_eq_true rfl) ?_
  iterate 2 (refine kst rfl rfl ?_)
  refine wjp ?_ (R115_2 (h := h) hL hW)
  exact ⟨rfl, rfl, trivial⟩
