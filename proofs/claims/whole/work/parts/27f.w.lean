/-! WHAT EACH METHOD NEEDS: W: the condition; R: the small machine keeps it (printed by wgen.py) -/
/-- 173: FourPots empty -/
def W173 (h : TH) (C : Int32 → TH → Prop) : Prop :=
  inb (h.I 0 10) 4 ∧ W14 (65 + 24 * ix (h.I 0 10)) h (fun h1 => W196  h1 (fun v2 h3 => (v2 = 0 ∨ v2 = 1) ∧ C v2 h3))

theorem R173 {d : Nat} {h : TH} {C : Int32 → TH → Prop} (hL : Lay h) (hW : W173  h C) : xPk (d + 1) 173 [.ref 0] h.X (postI C) := by
  unfold W173 at hW
  refine kin (Nat.le_of_ble_eq_true rfl) ?_
  refine kst rfl rfl ?_
  refine wgetP (b := 42) rfl (oK11 hL rfl) rfl (oP11_9 hL) ?_
  refine kst rfl rfl ?_
  refine wgetI rfl (oK11 hL rfl) rfl ?_
  obtain ⟨q1, hW⟩ := hW
  refine waald (kd := 4) rfl (aK11_9 hL) (by decide) (aN11_9 hL) (by decide) q1 (aA11_9 hL q1) ?_
  refine wcvV rfl (oK1 hL (aI11_9 q1)) rfl rfl (R14 (d := d + 0) (h := h) (aI11_9 q1) hL hW) (fun h1 hL hW => ?_)
  refine kst rfl rfl ?_
  refine wcvI rfl (oK11 hL rfl) rfl rfl (R196 (d := d + 0) (h := h1) hL hW) (fun v2 h3 hL hW => ?_)
  obtain ⟨q2, hW⟩ := hW
  refine wrZ rfl q2 ?_
  exact ⟨_, _, rfl, hL, hW⟩
/-- 195: FourPots found -/
def W195 (a1 : Int32) (h : TH) (C : Int32 → TH → Prop) : Prop :=
  if ¬ a1 = (-1) then (W193 a1 h (fun v1 h2 => C v1 h2)) else (W194 6 h (fun v3 h4 => C v3 h4))

theorem R195 {d : Nat} {a1 : Int32} {h : TH} {C : Int32 → TH → Prop} (hL : Lay h) (hW : W195 a1 h C) : xPk (d + 1) 195 [.ref 0, .int a1] h.X (postI C) := by
  unfold W195 at hW
  refine kin (Nat.le_of_ble_eq_true rfl) ?_
  iterate 2 (refine kst rfl rfl ?_)
  refine wcm_ne rfl hW (fun hW => ?_) (fun hW => ?_)
  · iterate 2 (refine kst rfl rfl ?_)
    refine wcvI rfl (oK11 hL rfl) rfl rfl (R193 (d := d + 0) (h := h) hL hW) (fun v1 h2 hL hW => ?_)
    refine kre rfl rfl ?_
    exact ⟨_, _, rfl, hL, hW⟩
  · iterate 2 (refine kst rfl rfl ?_)
    refine wcvI rfl (oK11 hL rfl) rfl rfl (R194 (d := d + 0) (h := h) hL hW) (fun v3 h4 hL hW => ?_)
    refine kst rfl rfl ?_
    refine kre rfl rfl ?_
    exact ⟨_, _, rfl, hL, hW⟩
/-- 174: FourPots work -/
def W174 (a1 : Int32) (h : TH) (C : Int32 → TH → Prop) : Prop :=
  W192  h (fun v1 => W56 v1 a1 h (fun v2 => if ¬ v2 = 0 then (W192  h (fun v3 => W31 139 v3 0 h (fun h4 => W35 139 a1 h4 (fun v5 h6 => W195 v5 h6 (fun v7 h8 => C v7 h8))))) else (W194 1 h (fun v9 h10 => C v9 h10))))

theorem R174 {d : Nat} {a1 : Int32} {h : TH} {C : Int32 → TH → Prop} (hL : Lay h) (hW : W174 a1 h C) : xPk (d + 7) 174 [.ref 0, .int a1] h.X (postI C) := by
  unfold W174 at hW
  refine kin (Nat.le_of_ble_eq_true rfl) ?_
  refine kst rfl rfl ?_
  refine qcvM rfl (oK11 hL rfl) rfl rfl (R192 (d := d + 6) (h := h) hL hW) (fun v1 hmv1 hW => ?_)
  refine kst rfl rfl ?_
  refine qcvI rfl (oK3 hL hmv1) rfl rfl (R56 (d := d + 6) (h := h) hmv1 hL hW) (fun v2 hW => ?_)
  refine wif_ne rfl hW (fun hW => ?_) (fun hW => ?_)
  · refine kst rfl rfl ?_
    refine wgetP (b := 139) rfl (oK11 hL rfl) rfl (oP11_11 hL) ?_
    refine kst rfl rfl ?_
    refine qcvM rfl (oK11 hL rfl) rfl rfl (R192 (d := d + 6) (h := h) hL hW) (fun v3 hmv3 hW => ?_)
    refine kst rfl rfl ?_
    refine wcvV rfl (oK2 hL is_11_11) rfl rfl (R31 (d := d + 3) (h := h) is_11_11 hmv3 hL hW) (fun h4 hL hW => ?_)
    iterate 2 (refine kst rfl rfl ?_)
    refine wgetP (b := 139) rfl (oK11 hL rfl) rfl (oP11_11 hL) ?_
    refine kst rfl rfl ?_
    refine wcvI rfl (oK2 hL is_11_11) rfl rfl (R35 (d := d + 0) (h := h4) is_11_11 hL hW) (fun v5 h6 hL hW => ?_)
    refine wcvI rfl (oK11 hL rfl) rfl rfl (R195 (d := d + 5) (h := h6) hL hW) (fun v7 h8 hL hW => ?_)
    refine kre rfl rfl ?_
    exact ⟨_, _, rfl, hL, hW⟩
  · iterate 2 (refine kst rfl rfl ?_)
    refine wcvI rfl (oK11 hL rfl) rfl rfl (R194 (d := d + 6) (h := h) hL hW) (fun v9 h10 hL hW => ?_)
    refine kre rfl rfl ?_
    exact ⟨_, _, rfl, hL, hW⟩
/-- 175: FourPots steps -/
def W175 (a1 : Int32) (h : TH) (C : Int32 → TH → Prop) : Prop :=
  W192  h (fun v1 => W56 v1 a1 h (fun v2 => if ¬ v2 = 0 then (W192  h (fun v3 => W31 165 v3 0 h (fun h4 => W36 165 a1 h4 (fun v5 h6 => W195 v5 h6 (fun v7 h8 => C v7 h8))))) else (W194 1 h (fun v9 h10 => C v9 h10))))

theorem R175 {d : Nat} {a1 : Int32} {h : TH} {C : Int32 → TH → Prop} (hL : Lay h) (hW : W175 a1 h C) : xPk (d + 6) 175 [.ref 0, .int a1] h.X (postI C) := by
  unfold W175 at hW
  refine kin (Nat.le_of_ble_eq_true rfl) ?_
  refine kst rfl rfl ?_
  refine qcvM rfl (oK11 hL rfl) rfl rfl (R192 (d := d + 5) (h := h) hL hW) (fun v1 hmv1 hW => ?_)
  refine kst rfl rfl ?_
  refine qcvI rfl (oK3 hL hmv1) rfl rfl (R56 (d := d + 5) (h := h) hmv1 hL hW) (fun v2 hW => ?_)
  refine wif_ne rfl hW (fun hW => ?_) (fun hW => ?_)
  · refine kst rfl rfl ?_
    refine wgetP (b := 165) rfl (oK11 hL rfl) rfl (oP11_13 hL) ?_
    refine kst rfl rfl ?_
    refine qcvM rfl (oK11 hL rfl) rfl rfl (R192 (d := d + 5) (h := h) hL hW) (fun v3 hmv3 hW => ?_)
    refine kst rfl rfl ?_
    refine wcvV rfl (oK2 hL is_11_13) rfl rfl (R31 (d := d + 2) (h := h) is_11_13 hmv3 hL hW) (fun h4 hL hW => ?_)
    iterate 2 (refine kst rfl rfl ?_)
    refine wgetP (b := 165) rfl (oK11 hL rfl) rfl (oP11_13 hL) ?_
    refine kst rfl rfl ?_
    refine wcvI rfl (oK2 hL is_11_13) rfl rfl (R36 (d := d + 0) (h := h4) is_11_13 hL hW) (fun v5 h6 hL hW => ?_)
    refine wcvI rfl (oK11 hL rfl) rfl rfl (R195 (d := d + 4) (h := h6) hL hW) (fun v7 h8 hL hW => ?_)
    refine kre rfl rfl ?_
    exact ⟨_, _, rfl, hL, hW⟩
  · iterate 2 (refine kst rfl rfl ?_)
    refine wcvI rfl (oK11 hL rfl) rfl rfl (R194 (d := d + 5) (h := h) hL hW) (fun v9 h10 hL hW => ?_)
    refine kre rfl rfl ?_
    exact ⟨_, _, rfl, hL, hW⟩
/-- 176: FourPots first -/
def W176 (a1 : Int32) (h : TH) (C : Int32 → TH → Prop) : Prop :=
  W192  h (fun v1 => W56 v1 a1 h (fun v2 => if ¬ v2 = 0 then (W192  h (fun v3 => W31 139 v3 0 h (fun h4 => W47 139 a1 h4 (fun v5 h6 => W195 v5 h6 (fun v7 h8 => C v7 h8))))) else (W194 1 h (fun v9 h10 => C v9 h10))))

theorem R176 {d : Nat} {a1 : Int32} {h : TH} {C : Int32 → TH → Prop} (hL : Lay h) (hW : W176 a1 h C) : xPk (d + 7) 176 [.ref 0, .int a1] h.X (postI C) := by
  unfold W176 at hW
  refine kin (Nat.le_of_ble_eq_true rfl) ?_
  refine kst rfl rfl ?_
  refine qcvM rfl (oK11 hL rfl) rfl rfl (R192 (d := d + 6) (h := h) hL hW) (fun v1 hmv1 hW => ?_)
  refine kst rfl rfl ?_
  refine qcvI rfl (oK3 hL hmv1) rfl rfl (R56 (d := d + 6) (h := h) hmv1 hL hW) (fun v2 hW => ?_)
  refine wif_ne rfl hW (fun hW => ?_) (fun hW => ?_)
  · refine kst rfl rfl ?_
    refine wgetP (b := 139) rfl (oK11 hL rfl) rfl (oP11_11 hL) ?_
    refine kst rfl rfl ?_
    refine qcvM rfl (oK11 hL rfl) rfl rfl (R192 (d := d + 6) (h := h) hL hW) (fun v3 hmv3 hW => ?_)
    refine kst rfl rfl ?_
    refine wcvV rfl (oK2 hL is_11_11) rfl rfl (R31 (d := d + 3) (h := h) is_11_11 hmv3 hL hW) (fun h4 hL hW => ?_)
    iterate 2 (refine kst rfl rfl ?_)
    refine wgetP (b := 139) rfl (oK11 hL rfl) rfl (oP11_11 hL) ?_
    refine kst rfl rfl ?_
    refine wcvI rfl (oK2 hL is_11_11) rfl rfl (R47 (d := d + 0) (h := h4) is_11_11 hL hW) (fun v5 h6 hL hW => ?_)
    refine wcvI rfl (oK11 hL rfl) rfl rfl (R195 (d := d + 5) (h := h6) hL hW) (fun v7 h8 hL hW => ?_)
    refine kre rfl rfl ?_
    exact ⟨_, _, rfl, hL, hW⟩
  · iterate 2 (refine kst rfl rfl ?_)
    refine wcvI rfl (oK11 hL rfl) rfl rfl (R194 (d := d + 6) (h := h) hL hW) (fun v9 h10 hL hW => ?_)
    refine kre rfl rfl ?_
    exact ⟨_, _, rfl, hL, hW⟩
/-- 177: FourPots firstAt -/
def W177 (a1 : Int32) (a2 : Int32) (h : TH) (C : Int32 → TH → Prop) : Prop :=
  if a2 < 0 then (W194 1 h (fun v1 h2 => C v1 h2)) else (if a2 ≤ 2 then (if a1 < 0 then (W194 6 h (fun v3 h4 => C v3 h4)) else (if (h.I 139 17) ≤ a1 then (W194 6 h (fun v5 h6 => C v5 h6)) else (h.P 139 16 = some (h.R 139 16) ∧ h.K (h.R 139 16) = 100 ∧ if a1 < (nI (h.N (h.R 139 16))) then (h.P 139 16 = some (h.R 139 16) ∧ okA h (h.R 139 16) 100 a1 ∧ W46 (h.I (h.R 139 16) (ix a1)) a2 h (fun v7 => W195 v7 h (fun v8 h9 => C v8 h9))) else (W194 6 h (fun v10 h11 => C v10 h11))))) else (W194 1 h (fun v12 h13 => C v12 h13)))

theorem R177 {d : Nat} {a1 : Int32} {a2 : Int32} {h : TH} {C : Int32 → TH → Prop} (hL : Lay h) (hW : W177 a1 a2 h C) : xPk (d + 2) 177 [.ref 0, .int a1, .int a2] h.X (postI C) := by
  unfold W177 at hW
  refine kin (Nat.le_of_ble_eq_true rfl) ?_
  refine kst rfl rfl ?_
  refine wif_lt rfl hW (fun hW => ?_) (fun hW => ?_)
  · iterate 2 (refine kst rfl rfl ?_)
    refine wcvI rfl (oK11 hL rfl) rfl rfl (R194 (d := d + 1) (h := h) hL hW) (fun v1 h2 hL hW => ?_)
    refine kre rfl rfl ?_
    exact ⟨_, _, rfl, hL, hW⟩
  · iterate 2 (refine kst rfl rfl ?_)
    refine wcm_le rfl hW (fun hW => ?_) (fun hW => ?_)
    · refine kst rfl rfl ?_
      refine wif_lt rfl hW (fun hW => ?_) (fun hW => ?_)
      · iterate 2 (refine kst rfl rfl ?_)
        refine wcvI rfl (oK11 hL rfl) rfl rfl (R194 (d := d + 1) (h := h) hL hW) (fun v3 h4 hL hW => ?_)
        refine kre rfl rfl ?_
        exact ⟨_, _, rfl, hL, hW⟩
      · iterate 2 (refine kst rfl rfl ?_)
        refine wgetP (b := 139) rfl (oK11 hL rfl) rfl (oP11_11 hL) ?_
        refine wgetI rfl (oK2 hL is_11_11) rfl ?_
        refine wcm_ge rfl hW (fun hW => ?_) (fun hW => ?_)
        · iterate 2 (refine kst rfl rfl ?_)
          refine wcvI rfl (oK11 hL rfl) rfl rfl (R194 (d := d + 1) (h := h) hL hW) (fun v5 h6 hL hW => ?_)
          refine kre rfl rfl ?_
          exact ⟨_, _, rfl, hL, hW⟩
        · iterate 2 (refine kst rfl rfl ?_)
          refine wgetP (b := 139) rfl (oK11 hL rfl) rfl (oP11_11 hL) ?_
          obtain ⟨q1, hW⟩ := hW
          refine wgetP rfl (oK2 hL is_11_11) rfl q1 ?_
          obtain ⟨q2, hW⟩ := hW
          refine walen (kd := 0) rfl q2 (by decide) rfl ?_
          refine wcm_lt rfl hW (fun hW => ?_) (fun hW => ?_)
          · iterate 2 (refine kst rfl rfl ?_)
            refine wgetP (b := 139) rfl (oK11 hL rfl) rfl (oP11_11 hL) ?_
            obtain ⟨q3, hW⟩ := hW
            refine wgetP rfl (oK2 hL is_11_11) rfl q3 ?_
            refine kst rfl rfl ?_
            obtain ⟨q4, hW⟩ := hW
            refine wald rfl (Or.inl q4.1) rfl q4.2.2 q4.2.1 ?_
            refine kst rfl rfl ?_
            refine qcaI rfl rfl (R46 (d := d + 1) (h := h) hL hW) (fun v7 hW => ?_)
            refine wcvI rfl (oK11 hL rfl) rfl rfl (R195 (d := d + 0) (h := h) hL hW) (fun v8 h9 hL hW => ?_)
            refine kre rfl rfl ?_
            exact ⟨_, _, rfl, hL, hW⟩
          · iterate 2 (refine kst rfl rfl ?_)
            refine wcvI rfl (oK11 hL rfl) rfl rfl (R194 (d := d + 1) (h := h) hL hW) (fun v10 h11 hL hW => ?_)
            refine kre rfl rfl ?_
            exact ⟨_, _, rfl, hL, hW⟩
    · iterate 2 (refine kst rfl rfl ?_)
      refine wcvI rfl (oK11 hL rfl) rfl rfl (R194 (d := d + 1) (h := h) hL hW) (fun v12 h13 hL hW => ?_)
      refine kre rfl rfl ?_
      exact ⟨_, _, rfl, hL, hW⟩
/-- 178: FourPots fewest -/
def W178 (a1 : Int32) (h : TH) (C : Int32 → TH → Prop) : Prop :=
  W192  h (fun v1 => W56 v1 a1 h (fun v2 => if ¬ v2 = 0 then (W192  h (fun v3 => W192  h (fun v4 => W57 v4 h (fun v5 => W192  h (fun v6 => W69 v6 a1 h (fun v7 => W1 178 v3 v5 v7 h (fun h8 => W5 178 a1 h8 (fun v9 h10 => W195 v9 h10 (fun v11 h12 => C v11 h12))))))))) else (W194 1 h (fun v13 h14 => C v13 h14))))

theorem R178 {d : Nat} {a1 : Int32} {h : TH} {C : Int32 → TH → Prop} (hL : Lay h) (hW : W178 a1 h C) : xPk (d + 6) 178 [.ref 0, .int a1] h.X (postI C) := by
  unfold W178 at hW
  refine kin (Nat.le_of_ble_eq_true rfl) ?_
  refine kst rfl rfl ?_
  refine qcvM rfl (oK11 hL rfl) rfl rfl (R192 (d := d + 5) (h := h) hL hW) (fun v1 hmv1 hW => ?_)
  refine kst rfl rfl ?_
  refine qcvI rfl (oK3 hL hmv1) rfl rfl (R56 (d := d + 5) (h := h) hmv1 hL hW) (fun v2 hW => ?_)
  refine wif_ne rfl hW (fun hW => ?_) (fun hW => ?_)
  · refine kst rfl rfl ?_
    refine wgetP (b := 178) rfl (oK11 hL rfl) rfl (oP11_14 hL) ?_
    refine kst rfl rfl ?_
    refine qcvM rfl (oK11 hL rfl) rfl rfl (R192 (d := d + 5) (h := h) hL hW) (fun v3 hmv3 hW => ?_)
    refine kst rfl rfl ?_
    refine qcvM rfl (oK11 hL rfl) rfl rfl (R192 (d := d + 5) (h := h) hL hW) (fun v4 hmv4 hW => ?_)
    refine qcvI rfl (oK3 hL hmv4) rfl rfl (R57 (d := d + 5) (h := h) hmv4 hL hW) (fun v5 hW => ?_)
    refine kst rfl rfl ?_
    refine qcvM rfl (oK11 hL rfl) rfl rfl (R192 (d := d + 5) (h := h) hL hW) (fun v6 hmv6 hW => ?_)
    refine kst rfl rfl ?_
    refine qcvI rfl (oK3 hL hmv6) rfl rfl (R69 (d := d + 3) (h := h) hmv6 hL hW) (fun v7 hW => ?_)
    refine wcvV rfl (oK0 hL is_11_14) rfl rfl (R1 (d := d + 3) (h := h) is_11_14 hmv3 hL hW) (fun h8 hL hW => ?_)
    iterate 2 (refine kst rfl rfl ?_)
    refine wgetP (b := 178) rfl (oK11 hL rfl) rfl (oP11_14 hL) ?_
    refine kst rfl rfl ?_
    refine wcvI rfl (oK0 hL is_11_14) rfl rfl (R5 (d := d + 0) (h := h8) is_11_14 hL hW) (fun v9 h10 hL hW => ?_)
    refine wcvI rfl (oK11 hL rfl) rfl rfl (R195 (d := d + 4) (h := h10) hL hW) (fun v11 h12 hL hW => ?_)
    refine kre rfl rfl ?_
    exact ⟨_, _, rfl, hL, hW⟩
  · iterate 2 (refine kst rfl rfl ?_)
    refine wcvI rfl (oK11 hL rfl) rfl rfl (R194 (d := d + 5) (h := h) hL hW) (fun v13 h14 hL hW => ?_)
    refine kre rfl rfl ?_
    exact ⟨_, _, rfl, hL, hW⟩
/-- 179: FourPots curve -/
def W179 (a1 : Int32) (a2 : Int32) (h : TH) (C : Int32 → TH → Prop) : Prop :=
  W192  h (fun v1 => W56 v1 a1 h (fun v2 => if v2 = 0 then (W194 1 h (fun v3 h4 => C v3 h4)) else (if a2 < 0 then (W194 1 h (fun v5 h6 => C v5 h6)) else (if a2 ≤ 12 then (W192  h (fun v7 => W32 152 v7 a2 h (fun h8 => W35 152 a1 h8 (fun v9 h10 => W195 v9 h10 (fun v11 h12 => C v11 h12))))) else (W194 1 h (fun v13 h14 => C v13 h14))))))

theorem R179 {d : Nat} {a1 : Int32} {a2 : Int32} {h : TH} {C : Int32 → TH → Prop} (hL : Lay h) (hW : W179 a1 a2 h C) : xPk (d + 7) 179 [.ref 0, .int a1, .int a2] h.X (postI C) := by
  unfold W179 at hW
  refine kin (Nat.le_of_ble_eq_true rfl) ?_
  refine kst rfl rfl ?_
  refine qcvM rfl (oK11 hL rfl) rfl rfl (R192 (d := d + 6) (h := h) hL hW) (fun v1 hmv1 hW => ?_)
  refine kst rfl rfl ?_
  refine qcvI rfl (oK3 hL hmv1) rfl rfl (R56 (d := d + 6) (h := h) hmv1 hL hW) (fun v2 hW => ?_)
  refine wif_eq rfl hW (fun hW => ?_) (fun hW => ?_)
  · iterate 2 (refine kst rfl rfl ?_)
    refine wcvI rfl (oK11 hL rfl) rfl rfl (R194 (d := d + 6) (h := h) hL hW) (fun v3 h4 hL hW => ?_)
    refine kre rfl rfl ?_
    exact ⟨_, _, rfl, hL, hW⟩
  · refine kst rfl rfl ?_
    refine wif_lt rfl hW (fun hW => ?_) (fun hW => ?_)
    · iterate 2 (refine kst rfl rfl ?_)
      refine wcvI rfl (oK11 hL rfl) rfl rfl (R194 (d := d + 6) (h := h) hL hW) (fun v5 h6 hL hW => ?_)
      refine kre rfl rfl ?_
      exact ⟨_, _, rfl, hL, hW⟩
    · iterate 2 (refine kst rfl rfl ?_)
      refine wcm_le rfl hW (fun hW => ?_) (fun hW => ?_)
      · refine kst rfl rfl ?_
        refine wgetP (b := 152) rfl (oK11 hL rfl) rfl (oP11_12 hL) ?_
        refine kst rfl rfl ?_
        refine qcvM rfl (oK11 hL rfl) rfl rfl (R192 (d := d + 6) (h := h) hL hW) (fun v7 hmv7 hW => ?_)
        refine kst rfl rfl ?_
        refine wcvV rfl (oK2 hL is_11_12) rfl rfl (R32 (d := d + 3) (h := h) is_11_12 hmv7 hL hW) (fun h8 hL hW => ?_)
        iterate 2 (refine kst rfl rfl ?_)
        refine wgetP (b := 152) rfl (oK11 hL rfl) rfl (oP11_12 hL) ?_
        refine kst rfl rfl ?_
        refine wcvI rfl (oK2 hL is_11_12) rfl rfl (R35 (d := d + 0) (h := h8) is_11_12 hL hW) (fun v9 h10 hL hW => ?_)
        refine wcvI rfl (oK11 hL rfl) rfl rfl (R195 (d := d + 5) (h := h10) hL hW) (fun v11 h12 hL hW => ?_)
        refine kre rfl rfl ?_
        exact ⟨_, _, rfl, hL, hW⟩
      · iterate 2 (refine kst rfl rfl ?_)
        refine wcvI rfl (oK11 hL rfl) rfl rfl (R194 (d := d + 6) (h := h) hL hW) (fun v13 h14 hL hW => ?_)
        refine kre rfl rfl ?_
        exact ⟨_, _, rfl, hL, hW⟩
/-- 180: FourPots trustful -/
def W180 (a1 : Int32) (h : TH) (C : Int32 → TH → Prop) : Prop :=
  W192  h (fun v1 => W56 v1 a1 h (fun v2 => if ¬ v2 = 0 then (W192  h (fun v3 => W67 v3 a1 h (fun v4 => W327 v4 h (fun v5 => if v5 ≤ 8 then (W192  h (fun v6 => W327 a1 h (fun v7 => W1 184 v6 v4 v7 h (fun h8 => W5 184 a1 h8 (fun v9 h10 => W195 v9 h10 (fun v11 h12 => C v11 h12)))))) else (W194 4 h (fun v13 h14 => C v13 h14)))))) else (W194 1 h (fun v15 h16 => C v15 h16))))

theorem R180 {d : Nat} {a1 : Int32} {h : TH} {C : Int32 → TH → Prop} (hL : Lay h) (hW : W180 a1 h C) : xPk (d + 6) 180 [.ref 0, .int a1] h.X (postI C) := by
  unfold W180 at hW
  refine kin (Nat.le_of_ble_eq_true rfl) ?_
  refine kst rfl rfl ?_
  refine qcvM rfl (oK11 hL rfl) rfl rfl (R192 (d := d + 5) (h := h) hL hW) (fun v1 hmv1 hW => ?_)
  refine kst rfl rfl ?_
  refine qcvI rfl (oK3 hL hmv1) rfl rfl (R56 (d := d + 5) (h := h) hmv1 hL hW) (fun v2 hW => ?_)
  refine wif_ne rfl hW (fun hW => ?_) (fun hW => ?_)
  · refine kst rfl rfl ?_
    refine qcvM rfl (oK11 hL rfl) rfl rfl (R192 (d := d + 5) (h := h) hL hW) (fun v3 hmv3 hW => ?_)
    refine kst rfl rfl ?_
    refine qcvI rfl (oK3 hL hmv3) rfl rfl (R67 (d := d + 5) (h := h) hmv3 hL hW) (fun v4 hW => ?_)
    iterate 2 (refine kst rfl rfl ?_)
    refine qcaI rfl rfl (R327 (d := d + 5) (h := h) hL hW) (fun v5 hW => ?_)
    refine kst rfl rfl ?_
    refine wcm_le rfl hW (fun hW => ?_) (fun hW => ?_)
    · refine kst rfl rfl ?_
      refine wgetP (b := 184) rfl (oK11 hL rfl) rfl (oP11_15 hL) ?_
      refine kst rfl rfl ?_
      refine qcvM rfl (oK11 hL rfl) rfl rfl (R192 (d := d + 5) (h := h) hL hW) (fun v6 hmv6 hW => ?_)
      iterate 2 (refine kst rfl rfl ?_)
      refine qcaI rfl rfl (R327 (d := d + 5) (h := h) hL hW) (fun v7 hW => ?_)
      refine wcvV rfl (oK0 hL is_11_15) rfl rfl (R1 (d := d + 3) (h := h) is_11_15 hmv6 hL hW) (fun h8 hL hW => ?_)
      iterate 2 (refine kst rfl rfl ?_)
      refine wgetP (b := 184) rfl (oK11 hL rfl) rfl (oP11_15 hL) ?_
      refine kst rfl rfl ?_
      refine wcvI rfl (oK0 hL is_11_15) rfl rfl (R5 (d := d + 0) (h := h8) is_11_15 hL hW) (fun v9 h10 hL hW => ?_)
      refine wcvI rfl (oK11 hL rfl) rfl rfl (R195 (d := d + 4) (h := h10) hL hW) (fun v11 h12 hL hW => ?_)
      refine kre rfl rfl ?_
      exact ⟨_, _, rfl, hL, hW⟩
    · iterate 2 (refine kst rfl rfl ?_)
      refine wcvI rfl (oK11 hL rfl) rfl rfl (R194 (d := d + 5) (h := h) hL hW) (fun v13 h14 hL hW => ?_)
      refine kre rfl rfl ?_
      exact ⟨_, _, rfl, hL, hW⟩
  · iterate 2 (refine kst rfl rfl ?_)
    refine wcvI rfl (oK11 hL rfl) rfl rfl (R194 (d := d + 5) (h := h) hL hW) (fun v15 h16 hL hW => ?_)
    refine kre rfl rfl ?_
    exact ⟨_, _, rfl, hL, hW⟩
/-- 181: FourPots bound -/
def W181 (a1 : Int32) (h : TH) (C : Int32 → TH → Prop) : Prop :=
  W192  h (fun v1 => W56 v1 a1 h (fun v2 => if ¬ v2 = 0 then (W192  h (fun v3 => W69 v3 a1 h (fun v4 => W193 v4 h (fun v5 h6 => C v5 h6)))) else (W194 1 h (fun v7 h8 => C v7 h8))))

theorem R181 {d : Nat} {a1 : Int32} {h : TH} {C : Int32 → TH → Prop} (hL : Lay h) (hW : W181 a1 h C) : xPk (d + 3) 181 [.ref 0, .int a1] h.X (postI C) := by
  unfold W181 at hW
  refine kin (Nat.le_of_ble_eq_true rfl) ?_
  refine kst rfl rfl ?_
  refine qcvM rfl (oK11 hL rfl) rfl rfl (R192 (d := d + 2) (h := h) hL hW) (fun v1 hmv1 hW => ?_)
  refine kst rfl rfl ?_
  refine qcvI rfl (oK3 hL hmv1) rfl rfl (R56 (d := d + 2) (h := h) hmv1 hL hW) (fun v2 hW => ?_)
  refine wif_ne rfl hW (fun hW => ?_) (fun hW => ?_)
  · iterate 2 (refine kst rfl rfl ?_)
    refine qcvM rfl (oK11 hL rfl) rfl rfl (R192 (d := d + 2) (h := h) hL hW) (fun v3 hmv3 hW => ?_)
    refine kst rfl rfl ?_
    refine qcvI rfl (oK3 hL hmv3) rfl rfl (R69 (d := d + 0) (h := h) hmv3 hL hW) (fun v4 hW => ?_)
    refine wcvI rfl (oK11 hL rfl) rfl rfl (R193 (d := d + 2) (h := h) hL hW) (fun v5 h6 hL hW => ?_)
    refine kre rfl rfl ?_
    exact ⟨_, _, rfl, hL, hW⟩
  · iterate 2 (refine kst rfl rfl ?_)
    refine wcvI rfl (oK11 hL rfl) rfl rfl (R194 (d := d + 2) (h := h) hL hW) (fun v7 h8 hL hW => ?_)
    refine kre rfl rfl ?_
    exact ⟨_, _, rfl, hL, hW⟩
/-- 182: FourPots treeRule -/
def W182 (a1 : Int32) (h : TH) (C : Int32 → TH → Prop) : Prop :=
  W192  h (fun v1 => W55 v1 a1 h (fun v2 => if ¬ v2 = 0 then (W192  h (fun v3 => W71 v3 a1 h (fun v4 h5 => if ¬ v4 = (-1) then (W193 v4 h5 (fun v6 h7 => C v6 h7)) else (W194 7 h5 (fun v8 h9 => C v8 h9))))) else (W194 1 h (fun v10 h11 => C v10 h11))))

theorem R182 {d : Nat} {a1 : Int32} {h : TH} {C : Int32 → TH → Prop} (hL : Lay h) (hW : W182 a1 h C) : xPk (d + 4) 182 [.ref 0, .int a1] h.X (postI C) := by
  unfold W182 at hW
  refine kin (Nat.le_of_ble_eq_true rfl) ?_
  refine kst rfl rfl ?_
  refine qcvM rfl (oK11 hL rfl) rfl rfl (R192 (d := d + 3) (h := h) hL hW) (fun v1 hmv1 hW => ?_)
  refine kst rfl rfl ?_
  refine qcvI rfl (oK3 hL hmv1) rfl rfl (R55 (d := d + 3) (h := h) hmv1 hL hW) (fun v2 hW => ?_)
  refine wif_ne rfl hW (fun hW => ?_) (fun hW => ?_)
  · refine kst rfl rfl ?_
    refine qcvM rfl (oK11 hL rfl) rfl rfl (R192 (d := d + 3) (h := h) hL hW) (fun v3 hmv3 hW => ?_)
    refine kst rfl rfl ?_
    refine wcvI rfl (oK3 hL hmv3) rfl rfl (R71 (d := d + 0) (h := h) hmv3 hL hW) (fun v4 h5 hL hW => ?_)
    iterate 3 (refine kst rfl rfl ?_)
    refine wcm_ne rfl hW (fun hW => ?_) (fun hW => ?_)
    · iterate 2 (refine kst rfl rfl ?_)
      refine wcvI rfl (oK11 hL rfl) rfl rfl (R193 (d := d + 3) (h := h5) hL hW) (fun v6 h7 hL hW => ?_)
      refine kre rfl rfl ?_
      exact ⟨_, _, rfl, hL, hW⟩
    · iterate 2 (refine kst rfl rfl ?_)
      refine wcvI rfl (oK11 hL rfl) rfl rfl (R194 (d := d + 3) (h := h5) hL hW) (fun v8 h9 hL hW => ?_)
      refine kst rfl rfl ?_
      refine kre rfl rfl ?_
      exact ⟨_, _, rfl, hL, hW⟩
  · iterate 2 (refine kst rfl rfl ?_)
    refine wcvI rfl (oK11 hL rfl) rfl rfl (R194 (d := d + 3) (h := h) hL hW) (fun v10 h11 hL hW => ?_)
    refine kre rfl rfl ?_
    exact ⟨_, _, rfl, hL, hW⟩
/-- 183: FourPots rounds -/
def W183 (a1 : Int32) (a2 : Int32) (h : TH) (C : Int32 → TH → Prop) : Prop :=
  W192  h (fun v1 => W56 v1 a1 h (fun v2 => if v2 = 0 then (W194 1 h (fun v3 h4 => C v3 h4)) else (if a2 < 1 then (W194 1 h (fun v5 h6 => C v5 h6)) else (if a2 ≤ 4 then (W192  h (fun v7 => W114 v7 a1 a2 h (fun v8 h9 => W195 v8 h9 (fun v10 h11 => C v10 h11)))) else (W194 1 h (fun v12 h13 => C v12 h13))))))

theorem R183 {d : Nat} {a1 : Int32} {a2 : Int32} {h : TH} {C : Int32 → TH → Prop} (hL : Lay h) (hW : W183 a1 a2 h C) : xPk (d + 8) 183 [.ref 0, .int a1, .int a2] h.X (postI C) := by
  unfold W183 at hW
  refine kin (Nat.le_of_ble_eq_true rfl) ?_
  refine kst rfl rfl ?_
  refine qcvM rfl (oK11 hL rfl) rfl rfl (R192 (d := d + 7) (h := h) hL hW) (fun v1 hmv1 hW => ?_)
  refine kst rfl rfl ?_
  refine qcvI rfl (oK3 hL hmv1) rfl rfl (R56 (d := d + 7) (h := h) hmv1 hL hW) (fun v2 hW => ?_)
  refine wif_eq rfl hW (fun hW => ?_) (fun hW => ?_)
  · iterate 2 (refine kst rfl rfl ?_)
    refine wcvI rfl (oK11 hL rfl) rfl rfl (R194 (d := d + 7) (h := h) hL hW) (fun v3 h4 hL hW => ?_)
    refine kre rfl rfl ?_
    exact ⟨_, _, rfl, hL, hW⟩
  · iterate 2 (refine kst rfl rfl ?_)
    refine wcm_lt rfl hW (fun hW => ?_) (fun hW => ?_)
    · iterate 2 (refine kst rfl rfl ?_)
      refine wcvI rfl (oK11 hL rfl) rfl rfl (R194 (d := d + 7) (h := h) hL hW) (fun v5 h6 hL hW => ?_)
      refine kre rfl rfl ?_
      exact ⟨_, _, rfl, hL, hW⟩
    · iterate 2 (refine kst rfl rfl ?_)
      refine wcm_le rfl hW (fun hW => ?_) (fun hW => ?_)
      · iterate 2 (refine kst rfl rfl ?_)
        refine wgetP (b := 190) rfl (oK11 hL rfl) rfl (oP11_16 hL) ?_
        refine kst rfl rfl ?_
        refine qcvM rfl (oK11 hL rfl) rfl rfl (R192 (d := d + 7) (h := h) hL hW) (fun v7 hmv7 hW => ?_)
        iterate 2 (refine kst rfl rfl ?_)
        refine wcvI rfl (oK8 hL rfl) rfl rfl (R114 (d := d + 0) (h := h) hmv7 hL hW) (fun v8 h9 hL hW => ?_)
        refine wcvI rfl (oK11 hL rfl) rfl rfl (R195 (d := d + 6) (h := h9) hL hW) (fun v10 h11 hL hW => ?_)
        refine kre rfl rfl ?_
        exact ⟨_, _, rfl, hL, hW⟩
      · iterate 2 (refine kst rfl rfl ?_)
        refine wcvI rfl (oK11 hL rfl) rfl rfl (R194 (d := d + 7) (h := h) hL hW) (fun v12 h13 hL hW => ?_)
        refine kre rfl rfl ?_
        exact ⟨_, _, rfl, hL, hW⟩
/-- 184: FourPots spared -/
def W184 (a1 : Int32) (a2 : Int32) (h : TH) (C : Int32 → TH → Prop) : Prop :=
  W192  h (fun v1 => W56 v1 a1 h (fun v2 => if v2 = 0 then (W194 1 h (fun v3 h4 => C v3 h4)) else (if a2 < 1 then (W194 1 h (fun v5 h6 => C v5 h6)) else (if a2 ≤ 9 then (W192  h (fun v7 => W31 139 v7 0 h (fun h8 => W35 139 a1 h8 (fun v9 h10 => if ¬ v9 = (-1) then (W192  h10 (fun v11 => W31 152 v11 a2 h10 (fun h12 => W35 152 a1 h12 (fun v13 h14 => W193 (v9 - v13) h14 (fun v15 h16 => C v15 h16))))) else (W194 6 h10 (fun v17 h18 => C v17 h18)))))) else (W194 1 h (fun v19 h20 => C v19 h20))))))

theorem R184 {d : Nat} {a1 : Int32} {a2 : Int32} {h : TH} {C : Int32 → TH → Prop} (hL : Lay h) (hW : W184 a1 a2 h C) : xPk (d + 7) 184 [.ref 0, .int a1, .int a2] h.X (postI C) := by
  unfold W184 at hW
  refine kin (Nat.le_of_ble_eq_true rfl) ?_
  refine kst rfl rfl ?_
  refine qcvM rfl (oK11 hL rfl) rfl rfl (R192 (d := d + 6) (h := h) hL hW) (fun v1 hmv1 hW => ?_)
  refine kst rfl rfl ?_
  refine qcvI rfl (oK3 hL hmv1) rfl rfl (R56 (d := d + 6) (h := h) hmv1 hL hW) (fun v2 hW => ?_)
  refine wif_eq rfl hW (fun hW => ?_) (fun hW => ?_)
  · iterate 2 (refine kst rfl rfl ?_)
    refine wcvI rfl (oK11 hL rfl) rfl rfl (R194 (d := d + 6) (h := h) hL hW) (fun v3 h4 hL hW => ?_)
    refine kre rfl rfl ?_
    exact ⟨_, _, rfl, hL, hW⟩
  · iterate 2 (refine kst rfl rfl ?_)
    refine wcm_lt rfl hW (fun hW => ?_) (fun hW => ?_)
    · iterate 2 (refine kst rfl rfl ?_)
      refine wcvI rfl (oK11 hL rfl) rfl rfl (R194 (d := d + 6) (h := h) hL hW) (fun v5 h6 hL hW => ?_)
      refine kre rfl rfl ?_
      exact ⟨_, _, rfl, hL, hW⟩
    · iterate 2 (refine kst rfl rfl ?_)
      refine wcm_le rfl hW (fun hW => ?_) (fun hW => ?_)
      · refine kst rfl rfl ?_
        refine wgetP (b := 139) rfl (oK11 hL rfl) rfl (oP11_11 hL) ?_
        refine kst rfl rfl ?_
        refine qcvM rfl (oK11 hL rfl) rfl rfl (R192 (d := d + 6) (h := h) hL hW) (fun v7 hmv7 hW => ?_)
        refine kst rfl rfl ?_
        refine wcvV rfl (oK2 hL is_11_11) rfl rfl (R31 (d := d + 3) (h := h) is_11_11 hmv7 hL hW) (fun h8 hL hW => ?_)
        refine kst rfl rfl ?_
        refine wgetP (b := 139) rfl (oK11 hL rfl) rfl (oP11_11 hL) ?_
        refine kst rfl rfl ?_
        refine wcvI rfl (oK2 hL is_11_11) rfl rfl (R35 (d := d + 0) (h := h8) is_11_11 hL hW) (fun v9 h10 hL hW => ?_)
        iterate 3 (refine kst rfl rfl ?_)
        refine wcm_ne rfl hW (fun hW => ?_) (fun hW => ?_)
        · refine kst rfl rfl ?_
          refine wgetP (b := 152) rfl (oK11 hL rfl) rfl (oP11_12 hL) ?_
          refine kst rfl rfl ?_
          refine qcvM rfl (oK11 hL rfl) rfl rfl (R192 (d := d + 6) (h := h10) hL hW) (fun v11 hmv11 hW => ?_)
          refine kst rfl rfl ?_
          refine wcvV rfl (oK2 hL is_11_12) rfl rfl (R31 (d := d + 3) (h := h10) is_11_12 hmv11 hL hW) (fun h12 hL hW => ?_)
          iterate 3 (refine kst rfl rfl ?_)
          refine wgetP (b := 152) rfl (oK11 hL rfl) rfl (oP11_12 hL) ?_
          refine kst rfl rfl ?_
          refine wcvI rfl (oK2 hL is_11_12) rfl rfl (R35 (d := d + 0) (h := h12) is_11_12 hL hW) (fun v13 h14 hL hW => ?_)
          refine kst rfl rfl ?_
          refine wcvI rfl (oK11 hL rfl) rfl rfl (R193 (d := d + 6) (h := h14) hL hW) (fun v15 h16 hL hW => ?_)
          refine kre rfl rfl ?_
          exact ⟨_, _, rfl, hL, hW⟩
        · iterate 2 (refine kst rfl rfl ?_)
          refine wcvI rfl (oK11 hL rfl) rfl rfl (R194 (d := d + 6) (h := h10) hL hW) (fun v17 h18 hL hW => ?_)
          refine kre rfl rfl ?_
          exact ⟨_, _, rfl, hL, hW⟩
      · iterate 2 (refine kst rfl rfl ?_)
        refine wcvI rfl (oK11 hL rfl) rfl rfl (R194 (d := d + 6) (h := h) hL hW) (fun v19 h20 hL hW => ?_)
        refine kre rfl rfl ?_
        exact ⟨_, _, rfl, hL, hW⟩
/-- 199: FourPots tellFraction -/
def B199_39 (a1 : Int32) (a2 : Int32) (x3 : Int32) (h : TH) (C : TH → Prop) : Prop :=
  if x3 ≤ 0 then (C h) else (¬ x3 = 0 ∧ ¬ x3 = 0 ∧ C ((h.sJ 0 1 (((a1 / x3)).toInt64)).sJ 0 2 (((a2 / x3)).toInt64)))
def F199_8 (a1 : Int32) (a2 : Int32) (C : TH → Prop) (X8 : Int32 × Int32 × Int32 × TH → Prop) : Int32 × Int32 × Int32 × TH → Prop := fun
  | (x3, x4, x5, h) =>
    if 64 ≤ x5 then (B199_39 a1 a2 x3 h C) else (if x4 = 0 then (B199_39 a1 a2 x3 h C) else (¬ x4 = 0 ∧ X8 (x4, (irem x3 x4), (x5 + 1), h)))
def B199_8 (a1 : Int32) (a2 : Int32) (x3 : Int32) (x4 : Int32) (x5 : Int32) (h : TH) (C : TH → Prop) : Prop := LFP (F199_8 a1 a2 C) (x3, x4, x5, h)
def W199 (a1 : Int32) (a2 : Int32) (h : TH) (C : TH → Prop) : Prop :=
  B199_8 a1 a2 a2 a1 0 h C

theorem R199_39 {d : Nat} {a1 : Int32} {a2 : Int32} {x3 : Int32} {h : TH} {C : TH → Prop} (hL : Lay h) (hW : B199_39 a1 a2 x3 h C) : xEk d 199 (39, [(0, .ref 0), (1, .int a1), (2, .int a2), (3, .int x3)], [], h.X) (postV C) := by
  unfold B199_39 at hW
  refine kst rfl rfl ?_
  refine wif_le rfl hW (fun hW => ?_) (fun hW => ?_)
  · refine kre rfl rfl ?_
    exact ⟨_, rfl, hL, hW⟩
  · iterate 3 (refine kst rfl rfl ?_)
    obtain ⟨q1, hW⟩ := hW
    refine wdiv rfl q1 ?_
    refine kst rfl rfl ?_
    refine wputJ rfl (oK11 hL rfl) rfl ?_
    replace hL : Lay (h.sJ 0 1 (((a1 / x3)).toInt64)) := lsJ hL
    iterate 3 (refine kst rfl rfl ?_)
    obtain ⟨q2, hW⟩ := hW
    refine wdiv rfl q2 ?_
    refine kst rfl rfl ?_
    refine wputJ rfl (oK11 hL rfl) rfl ?_
    replace hL : Lay ((h.sJ 0 1 (((a1 / x3)).toInt64)).sJ 0 2 (((a2 / x3)).toInt64)) := lsJ hL
    refine kre rfl rfl ?_
    exact ⟨_, rfl, hL, hW⟩
theorem R199_8 {d : Nat} {a1 : Int32} {a2 : Int32} {x3 : Int32} {x4 : Int32} {x5 : Int32} {h : TH} {C : TH → Prop} (hL : Lay h) (hW : B199_8 a1 a2 x3 x4 x5 h C) : xEk d 199 (8, [(0, .ref 0), (1, .int a1), (2, .int a2), (3, .int x3), (4, .int x4), (5, .int x5)], [], h.X) (postV C) := by
  refine hW (fun s => Lay (s.2.2.2) → xEk d 199 (8, [(0, .ref 0), (1, .int a1), (2, .int a2), (3, .int (s.1)), (4, .int (s.2.1)), (5, .int (s.2.2.1))], [], (TH.X (s.2.2.2))) (postV C)) ?_ hL
  rintro ⟨x3, x4, x5, h⟩ hW hL
  have k8 : ∀ s : Int32 × Int32 × Int32 × TH, (fun s => Lay (s.2.2.2) → xEk d 199 (8, [(0, .ref 0), (1, .int a1), (2, .int a2), (3, .int (s.1)), (4, .int (s.2.1)), (5, .int (s.2.2.1))], [], (TH.X (s.2.2.2))) (postV C)) s → Lay (s.2.2.2) → xEk d 199 (8, [(0, .ref 0), (1, .int a1), (2, .int a2), (3, .int (s.1)), (4, .int (s.2.1)), (5, .int (s.2.2.1))], [], (TH.X (s.2.2.2))) (postV C) := fun s hs => hs
  unfold F199_8 at hW
  dsimp only at hW
  iterate 2 (refine kst rfl rfl ?_)
  refine wcm_ge rfl hW (fun hW => ?_) (fun hW => ?_)
  · refine wjp ?_ (R199_39 (h := h) hL hW)
    exact ⟨rfl, rfl, rfl, rfl, trivial⟩
  · refine kst rfl rfl ?_
    refine wif_eq rfl hW (fun hW => ?_) (fun hW => ?_)
    · refine wjp ?_ (R199_39 (h := h) hL hW)
      exact ⟨rfl, rfl, rfl, rfl, trivial⟩
    · iterate 2 (refine kst rfl rfl ?_)
      obtain ⟨q1, hW⟩ := hW
      refine wrem rfl q1 ?_
      iterate 7 (refine kst rfl rfl ?_)
      have z9 := k8 (x4, (irem x3 x4), (x5 + 1), h) hW hL
      refine wjp ?_ z9
      exact ⟨rfl, rfl, rfl, rfl, rfl, rfl, trivial⟩
theorem R199 {d : Nat} {a1 : Int32} {a2 : Int32} {h : TH} {C : TH → Prop} (hL : Lay h) (hW : W199 a1 a2 h C) : xPk d 199 [.ref 0, .int a1, .int a2] h.X (postV C) := by
  unfold W199 at hW
  refine kin (Nat.le_of_ble_eq_true rfl) ?_
  iterate 6 (refine kst rfl rfl ?_)
  refine wjp ?_ (R199_8 (h := h) hL hW)
  exact ⟨rfl, rfl, rfl, rfl, rfl, rfl, trivial⟩
/-- 185: FourPots again -/
def W185 (a1 : Int32) (h : TH) (C : Int32 → TH → Prop) : Prop :=
  W192  h (fun v1 => W56 v1 a1 h (fun v2 => if ¬ v2 = 0 then (W192  h (fun v3 => W68 v3 a1 h (fun v4 => W192  h (fun v5 => W31 139 v5 0 h (fun h6 => W35 139 a1 h6 (fun v7 h8 => if v7 = (-1) then (W197 6 h8 (fun v9 h10 => (v9 = 0 ∨ v9 = 1) ∧ C v9 h10)) else (if ¬ v4 = 0 then (W199 v7 v4 h8 (fun h11 => W196  h11 (fun v12 h13 => (v12 = 0 ∨ v12 = 1) ∧ C v12 h13))) else (W197 6 h8 (fun v14 h15 => (v14 = 0 ∨ v14 = 1) ∧ C v14 h15))))))))) else (W197 1 h (fun v16 h17 => (v16 = 0 ∨ v16 = 1) ∧ C v16 h17))))

theorem R185 {d : Nat} {a1 : Int32} {h : TH} {C : Int32 → TH → Prop} (hL : Lay h) (hW : W185 a1 h C) : xPk (d + 7) 185 [.ref 0, .int a1] h.X (postI C) := by
  unfold W185 at hW
  refine kin (Nat.le_of_ble_eq_true rfl) ?_
  refine kst rfl rfl ?_
  refine qcvM rfl (oK11 hL rfl) rfl rfl (R192 (d := d + 6) (h := h) hL hW) (fun v1 hmv1 hW => ?_)
  refine kst rfl rfl ?_
  refine qcvI rfl (oK3 hL hmv1) rfl rfl (R56 (d := d + 6) (h := h) hmv1 hL hW) (fun v2 hW => ?_)
  refine wif_ne rfl hW (fun hW => ?_) (fun hW => ?_)
  · refine kst rfl rfl ?_
    refine qcvM rfl (oK11 hL rfl) rfl rfl (R192 (d := d + 6) (h := h) hL hW) (fun v3 hmv3 hW => ?_)
    refine kst rfl rfl ?_
    refine qcvI rfl (oK3 hL hmv3) rfl rfl (R68 (d := d + 5) (h := h) hmv3 hL hW) (fun v4 hW => ?_)
    iterate 2 (refine kst rfl rfl ?_)
    refine wgetP (b := 139) rfl (oK11 hL rfl) rfl (oP11_11 hL) ?_
    refine kst rfl rfl ?_
    refine qcvM rfl (oK11 hL rfl) rfl rfl (R192 (d := d + 6) (h := h) hL hW) (fun v5 hmv5 hW => ?_)
    refine kst rfl rfl ?_
    refine wcvV rfl (oK2 hL is_11_11) rfl rfl (R31 (d := d + 3) (h := h) is_11_11 hmv5 hL hW) (fun h6 hL hW => ?_)
    refine kst rfl rfl ?_
    refine wgetP (b := 139) rfl (oK11 hL rfl) rfl (oP11_11 hL) ?_
    refine kst rfl rfl ?_
    refine wcvI rfl (oK2 hL is_11_11) rfl rfl (R35 (d := d + 0) (h := h6) is_11_11 hL hW) (fun v7 h8 hL hW => ?_)
    iterate 3 (refine kst rfl rfl ?_)
    refine wcm_eq rfl hW (fun hW => ?_) (fun hW => ?_)
    · iterate 2 (refine kst rfl rfl ?_)
      refine wcvI rfl (oK11 hL rfl) rfl rfl (R197 (d := d + 6) (h := h8) hL hW) (fun v9 h10 hL hW => ?_)
      obtain ⟨q1, hW⟩ := hW
      refine wrZ rfl q1 ?_
      exact ⟨_, _, rfl, hL, hW⟩
    · refine kst rfl rfl ?_
      refine wif_ne rfl hW (fun hW => ?_) (fun hW => ?_)
      · iterate 3 (refine kst rfl rfl ?_)
        refine wcvV rfl (oK11 hL rfl) rfl rfl (R199 (d := d + 6) (h := h8) hL hW) (fun h11 hL hW => ?_)
        refine kst rfl rfl ?_
        refine wcvI rfl (oK11 hL rfl) rfl rfl (R196 (d := d + 6) (h := h11) hL hW) (fun v12 h13 hL hW => ?_)
        obtain ⟨q1, hW⟩ := hW
        refine wrZ rfl q1 ?_
        exact ⟨_, _, rfl, hL, hW⟩
      · iterate 2 (refine kst rfl rfl ?_)
        refine wcvI rfl (oK11 hL rfl) rfl rfl (R197 (d := d + 6) (h := h8) hL hW) (fun v14 h15 hL hW => ?_)
        obtain ⟨q1, hW⟩ := hW
        refine wrZ rfl q1 ?_
        exact ⟨_, _, rfl, hL, hW⟩
  · iterate 2 (refine kst rfl rfl ?_)
    refine wcvI rfl (oK11 hL rfl) rfl rfl (R197 (d := d + 6) (h := h) hL hW) (fun v16 h17 hL hW => ?_)
    obtain ⟨q1, hW⟩ := hW
    refine wrZ rfl q1 ?_
    exact ⟨_, _, rfl, hL, hW⟩
/-- 186: FourPots cook -/
def W186 (a1 : Int32) (h : TH) (C : Int32 → TH → Prop) : Prop :=
  if a1 < (-1) then (W194 1 h (fun v1 h2 => C v1 h2)) else (if a1 ≤ 9999 then (inb (h.I 0 10) 4 ∧ if ¬ (h.I (58 + 24 * ix (h.I 0 10)) 0) = 0 then (inb (h.I 0 10) 4 ∧ W192  h (fun v3 => W91 (58 + 24 * ix (h.I 0 10)) v3 193 a1 h (fun h4 => W193 ((h4.sI 0 19 1).I 193 0) (h4.sI 0 19 1) (fun v5 h6 => C v5 h6)))) else (W194 6 h (fun v7 h8 => C v7 h8))) else (W194 1 h (fun v9 h10 => C v9 h10)))

theorem R186 {d : Nat} {a1 : Int32} {h : TH} {C : Int32 → TH → Prop} (hL : Lay h) (hW : W186 a1 h C) : xPk (d + 6) 186 [.ref 0, .int a1] h.X (postI C) := by
  unfold W186 at hW
  refine kin (Nat.le_of_ble_eq_true rfl) ?_
  iterate 2 (refine kst rfl rfl ?_)
  refine wcm_lt rfl hW (fun hW => ?_) (fun hW => ?_)
  · iterate 2 (refine kst rfl rfl ?_)
    refine wcvI rfl (oK11 hL rfl) rfl rfl (R194 (d := d + 5) (h := h) hL hW) (fun v1 h2 hL hW => ?_)
    refine kre rfl rfl ?_
    exact ⟨_, _, rfl, hL, hW⟩
  · iterate 2 (refine kst rfl rfl ?_)
    refine wcm_le rfl hW (fun hW => ?_) (fun hW => ?_)
    · refine kst rfl rfl ?_
      refine wgetP (b := 41) rfl (oK11 hL rfl) rfl (oP11_8 hL) ?_
      refine kst rfl rfl ?_
      refine wgetI rfl (oK11 hL rfl) rfl ?_
      obtain ⟨q1, hW⟩ := hW
      refine waald (kd := 6) rfl (aK11_8 hL) (by decide) (aN11_8 hL) (by decide) q1 (aA11_8 hL q1) ?_
      refine wgetI rfl (oK5 hL (aI11_8 q1)) rfl ?_
      refine wif_ne rfl hW (fun hW => ?_) (fun hW => ?_)
      · refine kst rfl rfl ?_
        refine wgetP (b := 41) rfl (oK11 hL rfl) rfl (oP11_8 hL) ?_
        refine kst rfl rfl ?_
        refine wgetI rfl (oK11 hL rfl) rfl ?_
        obtain ⟨q2, hW⟩ := hW
        refine waald (kd := 6) rfl (aK11_8 hL) (by decide) (aN11_8 hL) (by decide) q2 (aA11_8 hL q2) ?_
        refine kst rfl rfl ?_
        refine qcvM rfl (oK11 hL rfl) rfl rfl (R192 (d := d + 5) (h := h) hL hW) (fun v3 hmv3 hW => ?_)
        refine kst rfl rfl ?_
        refine wgetP (b := 193) rfl (oK11 hL rfl) rfl (oP11_17 hL) ?_
        refine kst rfl rfl ?_
        refine wcvV rfl (oK5 hL (aI11_8 q2)) rfl rfl (R91 (d := d + 0) (h := h) (aI11_8 q2) hmv3 is_11_17 hL hW) (fun h4 hL hW => ?_)
        iterate 2 (refine kst rfl rfl ?_)
        refine wputZ rfl (oK11 hL rfl) rfl (by decide) ?_
        replace hL : Lay (h4.sI 0 19 1) := lsI hL
        iterate 2 (refine kst rfl rfl ?_)
        refine wgetP (b := 193) rfl (oK11 hL rfl) rfl (oP11_17 hL) ?_
        refine wgetI rfl (oK1 hL is_11_17) rfl ?_
        refine wcvI rfl (oK11 hL rfl) rfl rfl (R193 (d := d + 5) (h := (h4.sI 0 19 1)) hL hW) (fun v5 h6 hL hW => ?_)
        refine kre rfl rfl ?_
        exact ⟨_, _, rfl, hL, hW⟩
      · iterate 2 (refine kst rfl rfl ?_)
        refine wcvI rfl (oK11 hL rfl) rfl rfl (R194 (d := d + 5) (h := h) hL hW) (fun v7 h8 hL hW => ?_)
        refine kre rfl rfl ?_
        exact ⟨_, _, rfl, hL, hW⟩
    · iterate 2 (refine kst rfl rfl ?_)
      refine wcvI rfl (oK11 hL rfl) rfl rfl (R194 (d := d + 5) (h := h) hL hW) (fun v9 h10 hL hW => ?_)
      refine kre rfl rfl ?_
      exact ⟨_, _, rfl, hL, hW⟩
/-- 187: FourPots cooked -/
def W187 (a1 : Int32) (h : TH) (C : Int32 → TH → Prop) : Prop :=
  if a1 < 0 then (W194 1 h (fun v1 h2 => C v1 h2)) else (if a1 ≤ 6 then (if ¬ (h.I 0 19) = 0 then (W29 193 a1 h (fun v3 => W193 v3 h (fun v4 h5 => C v4 h5))) else (W194 6 h (fun v6 h7 => C v6 h7))) else (W194 1 h (fun v8 h9 => C v8 h9)))

theorem R187 {d : Nat} {a1 : Int32} {h : TH} {C : Int32 → TH → Prop} (hL : Lay h) (hW : W187 a1 h C) : xPk (d + 1) 187 [.ref 0, .int a1] h.X (postI C) := by
  unfold W187 at hW
  refine kin (Nat.le_of_ble_eq_true rfl) ?_
  refine kst rfl rfl ?_
  refine wif_lt rfl hW (fun hW => ?_) (fun hW => ?_)
  · iterate 2 (refine kst rfl rfl ?_)
    refine wcvI rfl (oK11 hL rfl) rfl rfl (R194 (d := d + 0) (h := h) hL hW) (fun v1 h2 hL hW => ?_)
    refine kre rfl rfl ?_
    exact ⟨_, _, rfl, hL, hW⟩
  · iterate 2 (refine kst rfl rfl ?_)
    refine wcm_le rfl hW (fun hW => ?_) (fun hW => ?_)
    · refine kst rfl rfl ?_
      refine wgetI rfl (oK11 hL rfl) rfl ?_
      refine wif_ne rfl hW (fun hW => ?_) (fun hW => ?_)
      · iterate 2 (refine kst rfl rfl ?_)
        refine wgetP (b := 193) rfl (oK11 hL rfl) rfl (oP11_17 hL) ?_
        refine kst rfl rfl ?_
        refine qcvI rfl (oK1 hL is_11_17) rfl rfl (R29 (d := d + 0) (h := h) is_11_17 hL hW) (fun v3 hW => ?_)
        refine wcvI rfl (oK11 hL rfl) rfl rfl (R193 (d := d + 0) (h := h) hL hW) (fun v4 h5 hL hW => ?_)
        refine kre rfl rfl ?_
        exact ⟨_, _, rfl, hL, hW⟩
      · iterate 2 (refine kst rfl rfl ?_)
        refine wcvI rfl (oK11 hL rfl) rfl rfl (R194 (d := d + 0) (h := h) hL hW) (fun v6 h7 hL hW => ?_)
        refine kre rfl rfl ?_
        exact ⟨_, _, rfl, hL, hW⟩
    · iterate 2 (refine kst rfl rfl ?_)
      refine wcvI rfl (oK11 hL rfl) rfl rfl (R194 (d := d + 0) (h := h) hL hW) (fun v8 h9 hL hW => ?_)
      refine kre rfl rfl ?_
      exact ⟨_, _, rfl, hL, hW⟩
/-- 188: FourPots judged -/
def W188 (h : TH) (C : Int32 → TH → Prop) : Prop :=
  inb (h.I 0 10) 4 ∧ if ¬ (h.I (58 + 24 * ix (h.I 0 10)) 0) = 0 then (inb (h.I 0 10) 4 ∧ W192  h (fun v1 => W91 (58 + 24 * ix (h.I 0 10)) v1 195 (-1) h (fun h2 => W195 (h2.I 195 6) h2 (fun v3 h4 => C v3 h4)))) else (W194 6 h (fun v5 h6 => C v5 h6))

theorem R188 {d : Nat} {h : TH} {C : Int32 → TH → Prop} (hL : Lay h) (hW : W188  h C) : xPk (d + 6) 188 [.ref 0] h.X (postI C) := by
  unfold W188 at hW
  refine kin (Nat.le_of_ble_eq_true rfl) ?_
  refine kst rfl rfl ?_
  refine wgetP (b := 41) rfl (oK11 hL rfl) rfl (oP11_8 hL) ?_
  refine kst rfl rfl ?_
  refine wgetI rfl (oK11 hL rfl) rfl ?_
  obtain ⟨q1, hW⟩ := hW
  refine waald (kd := 6) rfl (aK11_8 hL) (by decide) (aN11_8 hL) (by decide) q1 (aA11_8 hL q1) ?_
  refine wgetI rfl (oK5 hL (aI11_8 q1)) rfl ?_
  refine wif_ne rfl hW (fun hW => ?_) (fun hW => ?_)
  · refine kst rfl rfl ?_
    refine wgetP (b := 41) rfl (oK11 hL rfl) rfl (oP11_8 hL) ?_
    refine kst rfl rfl ?_
    refine wgetI rfl (oK11 hL rfl) rfl ?_
    obtain ⟨q2, hW⟩ := hW
    refine waald (kd := 6) rfl (aK11_8 hL) (by decide) (aN11_8 hL) (by decide) q2 (aA11_8 hL q2) ?_
    refine kst rfl rfl ?_
    refine qcvM rfl (oK11 hL rfl) rfl rfl (R192 (d := d + 5) (h := h) hL hW) (fun v1 hmv1 hW => ?_)
    refine kst rfl rfl ?_
    refine wgetP (b := 195) rfl (oK11 hL rfl) rfl (oP11_18 hL) ?_
    refine kst rfl rfl ?_
    refine wcvV rfl (oK5 hL (aI11_8 q2)) rfl rfl (R91 (d := d + 0) (h := h) (aI11_8 q2) hmv1 is_11_18 hL hW) (fun h2 hL hW => ?_)
    iterate 2 (refine kst rfl rfl ?_)
    refine wgetP (b := 195) rfl (oK11 hL rfl) rfl (oP11_18 hL) ?_
    refine wgetI rfl (oK1 hL is_11_18) rfl ?_
    refine wcvI rfl (oK11 hL rfl) rfl rfl (R195 (d := d + 4) (h := h2) hL hW) (fun v3 h4 hL hW => ?_)
    refine kre rfl rfl ?_
    exact ⟨_, _, rfl, hL, hW⟩
  · iterate 2 (refine kst rfl rfl ?_)
    refine wcvI rfl (oK11 hL rfl) rfl rfl (R194 (d := d + 5) (h := h) hL hW) (fun v5 h6 hL hW => ?_)
    refine kre rfl rfl ?_
    exact ⟨_, _, rfl, hL, hW⟩
/-- 189: FourPots odds -/
def B189_41 (a1 : Int32) (a2 : Int32) (a3 : Int32) (h : TH) (C : Int32 → TH → Prop) : Prop :=
  W197 1 h (fun v3 h4 => (v3 = 0 ∨ v3 = 1) ∧ C v3 h4)
def F189_83 (a1 : Int32) (a2 : Int32) (a3 : Int32) (C : Int32 → TH → Prop) (X83 : Int32 × Int32 × TH → Prop) : Int32 × Int32 × TH → Prop := fun
  | (x5, x6, h) =>
    if a3 ≤ x6 then (W199 x5 a3 h (fun h3 => W196  h3 (fun v4 h5 => (v4 = 0 ∨ v4 = 1) ∧ C v4 h5))) else (inb (h.I 0 10) 4 ∧ W192  h (fun v6 => W91 (58 + 24 * ix (h.I 0 10)) v6 195 (a2 + x6) h (fun h7 => W17 195 h7 (fun v8 => if ¬ (a1 &&& (v8 ^^^ (-1))) = 0 then (X83 (x5, (x6 + 1), h7)) else (X83 ((x5 + 1), (x6 + 1), h7))))))
def B189_83 (a1 : Int32) (a2 : Int32) (a3 : Int32) (x5 : Int32) (x6 : Int32) (h : TH) (C : Int32 → TH → Prop) : Prop := LFP (F189_83 a1 a2 a3 C) (x5, x6, h)
def W189 (a1 : Int32) (a2 : Int32) (a3 : Int32) (h : TH) (C : Int32 → TH → Prop) : Prop :=
  W192  h (fun v1 => W56 v1 a1 h (fun v2 => if v2 = 0 then (B189_41 a1 a2 a3 h C) else (if a2 < 0 then (B189_41 a1 a2 a3 h C) else (if a3 < 1 then (B189_41 a1 a2 a3 h C) else (if 30 < a3 then (B189_41 a1 a2 a3 h C) else (if ((9999 - a3) + 1) < a2 then (B189_41 a1 a2 a3 h C) else (inb (h.I 0 10) 4 ∧ if ¬ (h.I (58 + 24 * ix (h.I 0 10)) 0) = 0 then (B189_83 a1 a2 a3 0 0 h C) else (W197 6 h (fun v3 h4 => (v3 = 0 ∨ v3 = 1) ∧ C v3 h4)))))))))

theorem R189_41 {d : Nat} {a1 : Int32} {a2 : Int32} {a3 : Int32} {h : TH} {C : Int32 → TH → Prop} (hL : Lay h) (hW : B189_41 a1 a2 a3 h C) : xEk (d + 6) 189 (41, [(0, .ref 0), (1, .int a1), (2, .int a2), (3, .int a3)], [], h.X) (postI C) := by
  unfold B189_41 at hW
  iterate 3 (refine kst rfl rfl ?_)
  refine kif_ne rfl (fun c9 => absurd c9 (by decide)) (fun _ => ?_)
  iterate 2 (refine kst rfl rfl ?_)
  refine wcvI rfl (oK11 hL rfl) rfl rfl (R197 (d := d + 5) (h := h) hL hW) (fun v3 h4 hL hW => ?_)
  obtain ⟨q1, hW⟩ := hW
  refine wrZ rfl q1 ?_
  exact ⟨_, _, rfl, hL, hW⟩
theorem R189_83 {d : Nat} {a1 : Int32} {a2 : Int32} {a3 : Int32} {x5 : Int32} {x6 : Int32} {h : TH} {C : Int32 → TH → Prop} (hL : Lay h) (hW : B189_83 a1 a2 a3 x5 x6 h C) : xEk (d + 6) 189 (83, [(0, .ref 0), (1, .int a1), (2, .int a2), (3, .int a3), (5, .int x5), (6, .int x6)], [], h.X) (postI C) := by
  refine hW (fun s => Lay (s.2.2) → xEk (d + 6) 189 (83, [(0, .ref 0), (1, .int a1), (2, .int a2), (3, .int a3), (5, .int (s.1)), (6, .int (s.2.1))], [], (TH.X (s.2.2))) (postI C)) ?_ hL
  rintro ⟨x5, x6, h⟩ hW hL
  have k83 : ∀ s : Int32 × Int32 × TH, (fun s => Lay (s.2.2) → xEk (d + 6) 189 (83, [(0, .ref 0), (1, .int a1), (2, .int a2), (3, .int a3), (5, .int (s.1)), (6, .int (s.2.1))], [], (TH.X (s.2.2))) (postI C)) s → Lay (s.2.2) → xEk (d + 6) 189 (83, [(0, .ref 0), (1, .int a1), (2, .int a2), (3, .int a3), (5, .int (s.1)), (6, .int (s.2.1))], [], (TH.X (s.2.2))) (postI C) := fun s hs => hs
  unfold F189_83 at hW
  dsimp only at hW
  iterate 2 (refine kst rfl rfl ?_)
  refine wcm_ge rfl hW (fun hW => ?_) (fun hW => ?_)
  · iterate 3 (refine kst rfl rfl ?_)
    refine wcvV rfl (oK11 hL rfl) rfl rfl (R199 (d := d + 5) (h := h) hL hW) (fun h3 hL hW => ?_)
    refine kst rfl rfl ?_
    refine wcvI rfl (oK11 hL rfl) rfl rfl (R196 (d := d + 5) (h := h3) hL hW) (fun v4 h5 hL hW => ?_)
    obtain ⟨q2, hW⟩ := hW
    refine wrZ rfl q2 ?_
    exact ⟨_, _, rfl, hL, hW⟩
  · refine kst rfl rfl ?_
    refine wgetP (b := 41) rfl (oK11 hL rfl) rfl (oP11_8 hL) ?_
    refine kst rfl rfl ?_
    refine wgetI rfl (oK11 hL rfl) rfl ?_
    obtain ⟨q2, hW⟩ := hW
    refine waald (kd := 6) rfl (aK11_8 hL) (by decide) (aN11_8 hL) (by decide) q2 (aA11_8 hL q2) ?_
    refine kst rfl rfl ?_
    refine qcvM rfl (oK11 hL rfl) rfl rfl (R192 (d := d + 5) (h := h) hL hW) (fun v6 hmv6 hW => ?_)
    refine kst rfl rfl ?_
    refine wgetP (b := 195) rfl (oK11 hL rfl) rfl (oP11_18 hL) ?_
    iterate 3 (refine kst rfl rfl ?_)
    refine wcvV rfl (oK5 hL (aI11_8 q2)) rfl rfl (R91 (d := d + 0) (h := h) (aI11_8 q2) hmv6 is_11_18 hL hW) (fun h7 hL hW => ?_)
    iterate 2 (refine kst rfl rfl ?_)
    refine wgetP (b := 195) rfl (oK11 hL rfl) rfl (oP11_18 hL) ?_
    refine qcvI rfl (oK1 hL is_11_18) rfl rfl (R17 (d := d + 5) (h := h7) is_11_18 hL hW) (fun v8 hW => ?_)
    iterate 3 (refine kst rfl rfl ?_)
    refine wif_ne rfl hW (fun hW => ?_) (fun hW => ?_)
    · iterate 2 (refine kst rfl rfl ?_)
      have z9 := k83 (x5, (x6 + 1), h7) hW hL
      refine wjp ?_ z9
      exact ⟨rfl, rfl, rfl, rfl, rfl, rfl, trivial⟩
    · iterate 3 (refine kst rfl rfl ?_)
      have z9 := k83 ((x5 + 1), (x6 + 1), h7) hW hL
      refine wjp ?_ z9
      exact ⟨rfl, rfl, rfl, rfl, rfl, rfl, trivial⟩
theorem R189 {d : Nat} {a1 : Int32} {a2 : Int32} {a3 : Int32} {h : TH} {C : Int32 → TH → Prop} (hL : Lay h) (hW : W189 a1 a2 a3 h C) : xPk (d + 6) 189 [.ref 0, .int a1, .int a2, .int a3] h.X (postI C) := by
  unfold W189 at hW
  refine kin (Nat.le_of_ble_eq_true rfl) ?_
  refine kst rfl rfl ?_
  refine qcvM rfl (oK11 hL rfl) rfl rfl (R192 (d := d + 5) (h := h) hL hW) (fun v1 hmv1 hW => ?_)
  refine kst rfl rfl ?_
  refine qcvI rfl (oK3 hL hmv1) rfl rfl (R56 (d := d + 5) (h := h) hmv1 hL hW) (fun v2 hW => ?_)
  refine wif_eq rfl hW (fun hW => ?_) (fun hW => ?_)
  · refine wjp ?_ (R189_41 (h := h) hL hW)
    exact ⟨rfl, rfl, rfl, rfl, trivial⟩
  · refine kst rfl rfl ?_
    refine wif_lt rfl hW (fun hW => ?_) (fun hW => ?_)
    · refine wjp ?_ (R189_41 (h := h) hL hW)
      exact ⟨rfl, rfl, rfl, rfl, trivial⟩
    · iterate 2 (refine kst rfl rfl ?_)
      refine wcm_lt rfl hW (fun hW => ?_) (fun hW => ?_)
      · refine wjp ?_ (R189_41 (h := h) hL hW)
        exact ⟨rfl, rfl, rfl, rfl, trivial⟩
      · iterate 2 (refine kst rfl rfl ?_)
        refine wcm_gt rfl hW (fun hW => ?_) (fun hW => ?_)
        · refine wjp ?_ (R189_41 (h := h) hL hW)
          exact ⟨rfl, rfl, rfl, rfl, trivial⟩
        · iterate 6 (refine kst rfl rfl ?_)
          refine wcm_gt rfl hW (fun hW => ?_) (fun hW => ?_)
          · refine wjp ?_ (R189_41 (h := h) hL hW)
            exact ⟨rfl, rfl, rfl, rfl, trivial⟩
          · iterate 4 (refine kst rfl rfl ?_)
            refine kif_ne rfl (fun _ => ?_) (fun c9 => absurd c9 (by decide))
            refine kst rfl rfl ?_
            refine wgetP (b := 41) rfl (oK11 hL rfl) rfl (oP11_8 hL) ?_
            refine kst rfl rfl ?_
            refine wgetI rfl (oK11 hL rfl) rfl ?_
            obtain ⟨q1, hW⟩ := hW
            refine waald (kd := 6) rfl (aK11_8 hL) (by decide) (aN11_8 hL) (by decide) q1 (aA11_8 hL q1) ?_
            refine wgetI rfl (oK5 hL (aI11_8 q1)) rfl ?_
            refine wif_ne rfl hW (fun hW => ?_) (fun hW => ?_)
            · iterate 4 (refine kst rfl rfl ?_)
              refine wjp ?_ (R189_83 (h := h) hL hW)
              exact ⟨rfl, rfl, rfl, rfl, rfl, rfl, trivial⟩
            · iterate 2 (refine kst rfl rfl ?_)
              refine wcvI rfl (oK11 hL rfl) rfl rfl (R197 (d := d + 5) (h := h) hL hW) (fun v3 h4 hL hW => ?_)
              obtain ⟨q2, hW⟩ := hW
              refine wrZ rfl q2 ?_
              exact ⟨_, _, rfl, hL, hW⟩
/-- 190: FourPots mark -/
def W190 (h : TH) (C : Int32 → TH → Prop) : Prop :=
  if (h.I 0 10) < 3 then (inb ((h.I 0 10) + 1) 4 ∧ inb (h.I 0 10) 4 ∧ W53 (43 + 24 * ix ((h.I 0 10) + 1)) (43 + 24 * ix (h.I 0 10)) h (fun h1 => inb ((h1.I 0 10) + 1) 4 ∧ inb (h1.I 0 10) 4 ∧ W89 (58 + 24 * ix ((h1.I 0 10) + 1)) (58 + 24 * ix (h1.I 0 10)) h1 (fun h2 => inb ((h2.I 0 10) + 1) 4 ∧ inb (h2.I 0 10) 4 ∧ W15 (65 + 24 * ix ((h2.I 0 10) + 1)) (65 + 24 * ix (h2.I 0 10)) h2 (fun h3 => W193 ((h3.sI 0 10 ((h3.I 0 10) + 1)).I 0 10) (h3.sI 0 10 ((h3.I 0 10) + 1)) (fun v4 h5 => C v4 h5))))) else (W194 4 h (fun v6 h7 => C v6 h7))

theorem R190 {d : Nat} {h : TH} {C : Int32 → TH → Prop} (hL : Lay h) (hW : W190  h C) : xPk (d + 2) 190 [.ref 0] h.X (postI C) := by
  unfold W190 at hW
  refine kin (Nat.le_of_ble_eq_true rfl) ?_
  refine kst rfl rfl ?_
  refine wgetI rfl (oK11 hL rfl) rfl ?_
  refine kst rfl rfl ?_
  refine wcm_lt rfl hW (fun hW => ?_) (fun hW => ?_)
  · refine kst rfl rfl ?_
    refine wgetP (b := 40) rfl (oK11 hL rfl) rfl (oP11_7 hL) ?_
    refine kst rfl rfl ?_
    refine wgetI rfl (oK11 hL rfl) rfl ?_
    iterate 2 (refine kst rfl rfl ?_)
    obtain ⟨q1, hW⟩ := hW
    refine waald (kd := 5) rfl (aK11_7 hL) (by decide) (aN11_7 hL) (by decide) q1 (aA11_7 hL q1) ?_
    refine kst rfl rfl ?_
    refine wgetP (b := 40) rfl (oK11 hL rfl) rfl (oP11_7 hL) ?_
    refine kst rfl rfl ?_
    refine wgetI rfl (oK11 hL rfl) rfl ?_
    obtain ⟨q2, hW⟩ := hW
    refine waald (kd := 5) rfl (aK11_7 hL) (by decide) (aN11_7 hL) (by decide) q2 (aA11_7 hL q2) ?_
    refine wcvV rfl (oK3 hL (aI11_7 q1)) rfl rfl (R53 (d := d + 0) (h := h) (aI11_7 q1) (aI11_7 q2) hL hW) (fun h1 hL hW => ?_)
    refine kst rfl rfl ?_
    refine wgetP (b := 41) rfl (oK11 hL rfl) rfl (oP11_8 hL) ?_
    refine kst rfl rfl ?_
    refine wgetI rfl (oK11 hL rfl) rfl ?_
    iterate 2 (refine kst rfl rfl ?_)
    obtain ⟨q3, hW⟩ := hW
    refine waald (kd := 6) rfl (aK11_8 hL) (by decide) (aN11_8 hL) (by decide) q3 (aA11_8 hL q3) ?_
    refine kst rfl rfl ?_
    refine wgetP (b := 41) rfl (oK11 hL rfl) rfl (oP11_8 hL) ?_
    refine kst rfl rfl ?_
    refine wgetI rfl (oK11 hL rfl) rfl ?_
    obtain ⟨q4, hW⟩ := hW
    refine waald (kd := 6) rfl (aK11_8 hL) (by decide) (aN11_8 hL) (by decide) q4 (aA11_8 hL q4) ?_
    refine wcvV rfl (oK5 hL (aI11_8 q3)) rfl rfl (R89 (d := d + 1) (h := h1) (aI11_8 q3) (aI11_8 q4) hL hW) (fun h2 hL hW => ?_)
    refine kst rfl rfl ?_
    refine wgetP (b := 42) rfl (oK11 hL rfl) rfl (oP11_9 hL) ?_
    refine kst rfl rfl ?_
    refine wgetI rfl (oK11 hL rfl) rfl ?_
    iterate 2 (refine kst rfl rfl ?_)
    obtain ⟨q5, hW⟩ := hW
    refine waald (kd := 4) rfl (aK11_9 hL) (by decide) (aN11_9 hL) (by decide) q5 (aA11_9 hL q5) ?_
    refine kst rfl rfl ?_
    refine wgetP (b := 42) rfl (oK11 hL rfl) rfl (oP11_9 hL) ?_
    refine kst rfl rfl ?_
    refine wgetI rfl (oK11 hL rfl) rfl ?_
    obtain ⟨q6, hW⟩ := hW
    refine waald (kd := 4) rfl (aK11_9 hL) (by decide) (aN11_9 hL) (by decide) q6 (aA11_9 hL q6) ?_
    refine wcvV rfl (oK1 hL (aI11_9 q5)) rfl rfl (R15 (d := d + 0) (h := h2) (aI11_9 q5) (aI11_9 q6) hL hW) (fun h3 hL hW => ?_)
    iterate 2 (refine kst rfl rfl ?_)
    refine wgetI rfl (oK11 hL rfl) rfl ?_
    iterate 2 (refine kst rfl rfl ?_)
    refine wputI rfl (oK11 hL rfl) rfl ?_
    replace hL : Lay (h3.sI 0 10 ((h3.I 0 10) + 1)) := lsI hL
    iterate 2 (refine kst rfl rfl ?_)
    refine wgetI rfl (oK11 hL rfl) rfl ?_
    refine wcvI rfl (oK11 hL rfl) rfl rfl (R193 (d := d + 1) (h := (h3.sI 0 10 ((h3.I 0 10) + 1))) hL hW) (fun v4 h5 hL hW => ?_)
    refine kre rfl rfl ?_
    exact ⟨_, _, rfl, hL, hW⟩
  · iterate 2 (refine kst rfl rfl ?_)
    refine wcvI rfl (oK11 hL rfl) rfl rfl (R194 (d := d + 1) (h := h) hL hW) (fun v6 h7 hL hW => ?_)
    refine kre rfl rfl ?_
    exact ⟨_, _, rfl, hL, hW⟩
/-- 191: FourPots back -/
def W191 (h : TH) (C : Int32 → TH → Prop) : Prop :=
  if 0 < (h.I 0 10) then (W193 ((h.sI 0 10 ((h.I 0 10) - 1)).I 0 10) (h.sI 0 10 ((h.I 0 10) - 1)) (fun v1 h2 => C v1 h2)) else (W194 6 h (fun v3 h4 => C v3 h4))

theorem R191 {d : Nat} {h : TH} {C : Int32 → TH → Prop} (hL : Lay h) (hW : W191  h C) : xPk (d + 1) 191 [.ref 0] h.X (postI C) := by
  unfold W191 at hW
  refine kin (Nat.le_of_ble_eq_true rfl) ?_
  refine kst rfl rfl ?_
  refine wgetI rfl (oK11 hL rfl) rfl ?_
  refine wif_gt rfl hW (fun hW => ?_) (fun hW => ?_)
  · iterate 2 (refine kst rfl rfl ?_)
    refine wgetI rfl (oK11 hL rfl) rfl ?_
    iterate 2 (refine kst rfl rfl ?_)
    refine wputI rfl (oK11 hL rfl) rfl ?_
    replace hL : Lay (h.sI 0 10 ((h.I 0 10) - 1)) := lsI hL
    iterate 2 (refine kst rfl rfl ?_)
    refine wgetI rfl (oK11 hL rfl) rfl ?_
    refine wcvI rfl (oK11 hL rfl) rfl rfl (R193 (d := d + 0) (h := (h.sI 0 10 ((h.I 0 10) - 1))) hL hW) (fun v1 h2 hL hW => ?_)
    refine kre rfl rfl ?_
    exact ⟨_, _, rfl, hL, hW⟩
  · iterate 2 (refine kst rfl rfl ?_)
    refine wcvI rfl (oK11 hL rfl) rfl rfl (R194 (d := d + 0) (h := h) hL hW) (fun v3 h4 hL hW => ?_)
    refine kre rfl rfl ?_
    exact ⟨_, _, rfl, hL, hW⟩
/-- 201: FourPotsModel status -/
def W201 (h : TH) (C : Int32 → Prop) : Prop :=
  C (h.I 197 2)

theorem R201 {d : Nat} {h : TH} {C : Int32 → Prop} (hL : Lay h) (hW : W201  h C) : xPk d 201 [.ref 197] h.X (qostI h C) := by
  unfold W201 at hW
  refine kin (Nat.le_of_ble_eq_true rfl) ?_
  refine kst rfl rfl ?_
  refine wgetI rfl (oK12 hL rfl) rfl ?_
  refine kre rfl rfl ?_
  exact ⟨_, rfl, hW⟩
/-- 202: FourPotsModel top -/
def W202 (h : TH) (C : Int64 → Prop) : Prop :=
  C (h.J 197 3)

theorem R202 {d : Nat} {h : TH} {C : Int64 → Prop} (hL : Lay h) (hW : W202  h C) : xPk d 202 [.ref 197] h.X (qostL h C) := by
  unfold W202 at hW
  refine kin (Nat.le_of_ble_eq_true rfl) ?_
  refine kst rfl rfl ?_
  refine wgetJ rfl (oK12 hL rfl) rfl ?_
  refine kre rfl rfl ?_
  exact ⟨_, rfl, hW⟩
/-- 203: FourPotsModel bottom -/
def W203 (h : TH) (C : Int64 → Prop) : Prop :=
  C (h.J 197 4)

theorem R203 {d : Nat} {h : TH} {C : Int64 → Prop} (hL : Lay h) (hW : W203  h C) : xPk d 203 [.ref 197] h.X (qostL h C) := by
  unfold W203 at hW
  refine kin (Nat.le_of_ble_eq_true rfl) ?_
  refine kst rfl rfl ?_
  refine wgetJ rfl (oK12 hL rfl) rfl ?_
  refine kre rfl rfl ?_
  exact ⟨_, rfl, hW⟩
/-- 204: FourPotsModel is -/
def W204 (a1 : Int32) (h : TH) (C : Int32 → TH → Prop) : Prop :=
  if ¬ a1 = 0 then (C 0 (h.sI 197 2 a1)) else (C 1 (h.sI 197 2 a1))

theorem R204 {d : Nat} {a1 : Int32} {h : TH} {C : Int32 → TH → Prop} (hL : Lay h) (hW : W204 a1 h C) : xPk d 204 [.ref 197, .int a1] h.X (postI C) := by
  unfold W204 at hW
  refine kin (Nat.le_of_ble_eq_true rfl) ?_
  iterate 2 (refine kst rfl rfl ?_)
  refine wputI rfl (oK12 hL rfl) rfl ?_
  replace hL : Lay (h.sI 197 2 a1) := lsI hL
  refine kst rfl rfl ?_
  refine wif_ne rfl hW (fun hW => ?_) (fun hW => ?_)
  · refine kst rfl rfl ?_
    refine kre rfl rfl ?_
    exact ⟨_, _, rfl, hL, hW⟩
  · iterate 2 (refine kst rfl rfl ?_)
    refine kre rfl rfl ?_
    exact ⟨_, _, rfl, hL, hW⟩
/-- 205: FourPotsModel refuse -/
def W205 (a1 : Int32) (h : TH) (C : Int32 → TH → Prop) : Prop :=
  C (-1) (h.sI 197 2 a1)

theorem R205 {d : Nat} {a1 : Int32} {h : TH} {C : Int32 → TH → Prop} (hL : Lay h) (hW : W205 a1 h C) : xPk d 205 [.ref 197, .int a1] h.X (postI C) := by
  unfold W205 at hW
  refine kin (Nat.le_of_ble_eq_true rfl) ?_
  iterate 2 (refine kst rfl rfl ?_)
  refine wputI rfl (oK12 hL rfl) rfl ?_
  replace hL : Lay (h.sI 197 2 a1) := lsI hL
  refine kst rfl rfl ?_
  refine kre rfl rfl ?_
  exact ⟨_, _, rfl, hL, hW⟩
/-- 206: FourPotsModel gives -/
def W206 (a1 : Int32) (h : TH) (C : Int32 → TH → Prop) : Prop :=
  C a1 (h.sI 197 2 0)

theorem R206 {d : Nat} {a1 : Int32} {h : TH} {C : Int32 → TH → Prop} (hL : Lay h) (hW : W206 a1 h C) : xPk d 206 [.ref 197, .int a1] h.X (postI C) := by
  unfold W206 at hW
  refine kin (Nat.le_of_ble_eq_true rfl) ?_
  iterate 2 (refine kst rfl rfl ?_)
  refine wputI rfl (oK12 hL rfl) rfl ?_
  replace hL : Lay (h.sI 197 2 0) := lsI hL
  refine kst rfl rfl ?_
  refine kre rfl rfl ?_
  exact ⟨_, _, rfl, hL, hW⟩
/-- 207: FourPotsModel tellsBy -/
def F207_6 (a1 : Int64) (a2 : Int64) (C : Int32 → TH → Prop) (X6 : Int64 × Int64 × TH → Prop) : Int64 × Int64 × TH → Prop := fun
  | (x5, x7, h) =>
    if (lg_cmp x7 0) = 0 then (¬ x5 = 0 ∧ ¬ x5 = 0 ∧ W204 0 ((h.sJ 197 3 (a1 / x5)).sJ 197 4 (a2 / x5)) (fun v1 h2 => (v1 = 0 ∨ v1 = 1) ∧ C v1 h2)) else (¬ x7 = 0 ∧ X6 (x7, (lrem x5 x7), h))
def B207_6 (a1 : Int64) (a2 : Int64) (x5 : Int64) (x7 : Int64) (h : TH) (C : Int32 → TH → Prop) : Prop := LFP (F207_6 a1 a2 C) (x5, x7, h)
def W207 (a1 : Int64) (a2 : Int64) (h : TH) (C : Int32 → TH → Prop) : Prop :=
  B207_6 a1 a2 a1 a2 h C

theorem R207_6 {d : Nat} {a1 : Int64} {a2 : Int64} {x5 : Int64} {x7 : Int64} {h : TH} {C : Int32 → TH → Prop} (hL : Lay h) (hW : B207_6 a1 a2 x5 x7 h C) : xEk (d + 1) 207 (6, [(0, .ref 197), (1, .long a1), (3, .long a2), (5, .long x5), (7, .long x7)], [], h.X) (postI C) := by
  refine hW (fun s => Lay (s.2.2) → xEk (d + 1) 207 (6, [(0, .ref 197), (1, .long a1), (3, .long a2), (5, .long (s.1)), (7, .long (s.2.1))], [], (TH.X (s.2.2))) (postI C)) ?_ hL
  rintro ⟨x5, x7, h⟩ hW hL
  have k6 : ∀ s : Int64 × Int64 × TH, (fun s => Lay (s.2.2) → xEk (d + 1) 207 (6, [(0, .ref 197), (1, .long a1), (3, .long a2), (5, .long (s.1)), (7, .long (s.2.1))], [], (TH.X (s.2.2))) (postI C)) s → Lay (s.2.2) → xEk (d + 1) 207 (6, [(0, .ref 197), (1, .long a1), (3, .long a2), (5, .long (s.1)), (7, .long (s.2.1))], [], (TH.X (s.2.2))) (postI C) := fun s hs => hs
  unfold F207_6 at hW
  dsimp only at hW
  iterate 3 (refine kst rfl rfl ?_)
  refine wif_eq rfl hW (fun hW => ?_) (fun hW => ?_)
  · iterate 3 (refine kst rfl rfl ?_)
    obtain ⟨q1, hW⟩ := hW
    refine wldiv rfl q1 ?_
    refine wputJ rfl (oK12 hL rfl) rfl ?_
    replace hL : Lay (h.sJ 197 3 (a1 / x5)) := lsJ hL
    iterate 3 (refine kst rfl rfl ?_)
    obtain ⟨q2, hW⟩ := hW
    refine wldiv rfl q2 ?_
    refine wputJ rfl (oK12 hL rfl) rfl ?_
    replace hL : Lay ((h.sJ 197 3 (a1 / x5)).sJ 197 4 (a2 / x5)) := lsJ hL
    iterate 2 (refine kst rfl rfl ?_)
    refine wcvI rfl (oK12 hL rfl) rfl rfl (R204 (d := d + 0) (h := ((h.sJ 197 3 (a1 / x5)).sJ 197 4 (a2 / x5))) hL hW) (fun v1 h2 hL hW => ?_)
    obtain ⟨q3, hW⟩ := hW
    refine wrZ rfl q3 ?_
    exact ⟨_, _, rfl, hL, hW⟩
  · iterate 2 (refine kst rfl rfl ?_)
    obtain ⟨q1, hW⟩ := hW
    refine wlrem rfl q1 ?_
    iterate 6 (refine kst rfl rfl ?_)
    have z9 := k6 (x7, (lrem x5 x7), h) hW hL
    refine wjp ?_ z9
    exact ⟨rfl, rfl, rfl, rfl, rfl, trivial⟩
theorem R207 {d : Nat} {a1 : Int64} {a2 : Int64} {h : TH} {C : Int32 → TH → Prop} (hL : Lay h) (hW : W207 a1 a2 h C) : xPk (d + 1) 207 [.ref 197, .long a1, .long a2] h.X (postI C) := by
  unfold W207 at hW
  refine kin (Nat.le_of_ble_eq_true rfl) ?_
  iterate 4 (refine kst rfl rfl ?_)
  refine wjp ?_ (R207_6 (h := h) hL hW)
  exact ⟨rfl, rfl, rfl, rfl, rfl, trivial⟩
/-- 208: FourPotsModel isTray -/
def W208 (a1 : Int32) (h : TH) (C : Int32 → Prop) : Prop :=
  if a1 < 0 then (C 0) else (if 4 ≤ a1 then (C 0) else (C 1))

theorem R208 {d : Nat} {a1 : Int32} {h : TH} {C : Int32 → Prop} (hL : Lay h) (hW : W208 a1 h C) : xPk d 208 [.int a1] h.X (qostI h C) := by
  unfold W208 at hW
  refine kin (Nat.le_of_ble_eq_true rfl) ?_
  refine kst rfl rfl ?_
  refine wif_lt rfl hW (fun hW => ?_) (fun hW => ?_)
  · refine kst rfl rfl ?_
    refine kre rfl rfl ?_
    exact ⟨_, rfl, hW⟩
  · iterate 2 (refine kst rfl rfl ?_)
    refine wcm_ge rfl hW (fun hW => ?_) (fun hW => ?_)
    · refine kst rfl rfl ?_
      refine kre rfl rfl ?_
      exact ⟨_, rfl, hW⟩
    · iterate 2 (refine kst rfl rfl ?_)
      refine kre rfl rfl ?_
      exact ⟨_, rfl, hW⟩
/-- 209: FourPotsModel cut -/
def W209 (a1 : Int64) (a2 : Int32) (h : TH) (C : Int64 → Prop) : Prop :=
  if ¬ a2 = 0 then (if ¬ a2 = 1 then (if ¬ a2 = 2 then (C a1) else (C (((a1).toInt32).toInt64))) else (C ((((a1).toInt32).toInt16.toInt32).toInt64))) else (C ((((a1).toInt32).toInt8.toInt32).toInt64))

theorem R209 {d : Nat} {a1 : Int64} {a2 : Int32} {h : TH} {C : Int64 → Prop} (hL : Lay h) (hW : W209 a1 a2 h C) : xPk d 209 [.long a1, .int a2] h.X (qostL h C) := by
  unfold W209 at hW
  refine kin (Nat.le_of_ble_eq_true rfl) ?_
  refine kst rfl rfl ?_
  refine wif_ne rfl hW (fun hW => ?_) (fun hW => ?_)
  · iterate 2 (refine kst rfl rfl ?_)
    refine wcm_ne rfl hW (fun hW => ?_) (fun hW => ?_)
    · iterate 2 (refine kst rfl rfl ?_)
      refine wcm_ne rfl hW (fun hW => ?_) (fun hW => ?_)
      · refine kst rfl rfl ?_
        refine kre rfl rfl ?_
        exact ⟨_, rfl, hW⟩
      · iterate 4 (refine kst rfl rfl ?_)
        refine kre rfl rfl ?_
        exact ⟨_, rfl, hW⟩
    · iterate 5 (refine kst rfl rfl ?_)
      refine kre rfl rfl ?_
      exact ⟨_, rfl, hW⟩
  · iterate 5 (refine kst rfl rfl ?_)
    refine kre rfl rfl ?_
    exact ⟨_, rfl, hW⟩
/-- 210: FourPotsModel tray -/
def F210_49 (a1 : Int32) (a3 : Int32) (C : Int32 → TH → Prop) (X49 : Int32 × TH → Prop) : Int32 × TH → Prop := fun
  | (x4, h) =>
    if a3 ≤ x4 then (W204 0 h (fun v10 h11 => (v10 = 0 ∨ v10 = 1) ∧ C v10 h11)) else (inb ((60 * a1) + x4) 240 ∧ X49 ((x4 + 1), (h.sJ 202 (ix ((60 * a1) + x4)) 0)))
def B210_49 (a1 : Int32) (a3 : Int32) (x4 : Int32) (h : TH) (C : Int32 → TH → Prop) : Prop := LFP (F210_49 a1 a3 C) (x4, h)
def W210 (a1 : Int32) (a2 : Int32) (a3 : Int32) (h : TH) (C : Int32 → TH → Prop) : Prop :=
  W208 a1 h (fun v1 => if v1 = 0 then (W204 1 h (fun v2 h3 => (v2 = 0 ∨ v2 = 1) ∧ C v2 h3)) else (if a2 < 0 then (W204 1 h (fun v4 h5 => (v4 = 0 ∨ v4 = 1) ∧ C v4 h5)) else (if 3 < a2 then (W204 1 h (fun v6 h7 => (v6 = 0 ∨ v6 = 1) ∧ C v6 h7)) else (if a3 < 0 then (W204 1 h (fun v8 h9 => (v8 = 0 ∨ v8 = 1) ∧ C v8 h9)) else (if a3 ≤ 60 then (inb a1 4 ∧ inb a1 4 ∧ B210_49 a1 a3 0 ((h.sI 200 (ix a1) a2).sI 201 (ix a1) a3) C) else (W204 1 h (fun v10 h11 => (v10 = 0 ∨ v10 = 1) ∧ C v10 h11)))))))

theorem R210_49 {d : Nat} {a1 : Int32} {a3 : Int32} {x4 : Int32} {h : TH} {C : Int32 → TH → Prop} (hL : Lay h) (hW : B210_49 a1 a3 x4 h C) : xEk (d + 1) 210 (49, [(0, .ref 197), (1, .int a1), (3, .int a3), (4, .int x4)], [], h.X) (postI C) := by
  refine hW (fun s => Lay (s.2) → xEk (d + 1) 210 (49, [(0, .ref 197), (1, .int a1), (3, .int a3), (4, .int (s.1))], [], (TH.X (s.2))) (postI C)) ?_ hL
  rintro ⟨x4, h⟩ hW hL
  have k49 : ∀ s : Int32 × TH, (fun s => Lay (s.2) → xEk (d + 1) 210 (49, [(0, .ref 197), (1, .int a1), (3, .int a3), (4, .int (s.1))], [], (TH.X (s.2))) (postI C)) s → Lay (s.2) → xEk (d + 1) 210 (49, [(0, .ref 197), (1, .int a1), (3, .int a3), (4, .int (s.1))], [], (TH.X (s.2))) (postI C) := fun s hs => hs
  unfold F210_49 at hW
  dsimp only at hW
  iterate 2 (refine kst rfl rfl ?_)
  refine wcm_ge rfl hW (fun hW => ?_) (fun hW => ?_)
  · iterate 2 (refine kst rfl rfl ?_)
    refine wcvI rfl (oK12 hL rfl) rfl rfl (R204 (d := d + 0) (h := h) hL hW) (fun v10 h11 hL hW => ?_)
    obtain ⟨q3, hW⟩ := hW
    refine wrZ rfl q3 ?_
    exact ⟨_, _, rfl, hL, hW⟩
  · refine kst rfl rfl ?_
    refine wgetP (b := 202) rfl (oK12 hL rfl) rfl (oP12_7 hL) ?_
    iterate 6 (refine kst rfl rfl ?_)
    obtain ⟨q3, hW⟩ := hW
    refine wlast rfl (aK12_7 hL) (aN12_7 hL) (by decide) q3 ?_
    replace hL : Lay (h.sJ 202 (ix ((60 * a1) + x4)) 0) := lsJ hL
    iterate 2 (refine kst rfl rfl ?_)
    have z9 := k49 ((x4 + 1), (h.sJ 202 (ix ((60 * a1) + x4)) 0)) hW hL
    refine wjp ?_ z9
    exact ⟨rfl, rfl, rfl, rfl, trivial⟩
theorem R210 {d : Nat} {a1 : Int32} {a2 : Int32} {a3 : Int32} {h : TH} {C : Int32 → TH → Prop} (hL : Lay h) (hW : W210 a1 a2 a3 h C) : xPk (d + 1) 210 [.ref 197, .int a1, .int a2, .int a3] h.X (postI C) := by
  unfold W210 at hW
  refine kin (Nat.le_of_ble_eq_true rfl) ?_
  refine kst rfl rfl ?_
  refine qcaI rfl rfl (R208 (d := d + 0) (h := h) hL hW) (fun v1 hW => ?_)
  refine wif_eq rfl hW (fun hW => ?_) (fun hW => ?_)
  · iterate 2 (refine kst rfl rfl ?_)
    refine wcvI rfl (oK12 hL rfl) rfl rfl (R204 (d := d + 0) (h := h) hL hW) (fun v2 h3 hL hW => ?_)
    obtain ⟨q1, hW⟩ := hW
    refine wrZ rfl q1 ?_
    exact ⟨_, _, rfl, hL, hW⟩
  · refine kst rfl rfl ?_
    refine wif_lt rfl hW (fun hW => ?_) (fun hW => ?_)
    · iterate 2 (refine kst rfl rfl ?_)
      refine wcvI rfl (oK12 hL rfl) rfl rfl (R204 (d := d + 0) (h := h) hL hW) (fun v4 h5 hL hW => ?_)
      obtain ⟨q1, hW⟩ := hW
      refine wrZ rfl q1 ?_
      exact ⟨_, _, rfl, hL, hW⟩
    · iterate 2 (refine kst rfl rfl ?_)
      refine wcm_gt rfl hW (fun hW => ?_) (fun hW => ?_)
      · iterate 2 (refine kst rfl rfl ?_)
        refine wcvI rfl (oK12 hL rfl) rfl rfl (R204 (d := d + 0) (h := h) hL hW) (fun v6 h7 hL hW => ?_)
        obtain ⟨q1, hW⟩ := hW
        refine wrZ rfl q1 ?_
        exact ⟨_, _, rfl, hL, hW⟩
      · refine kst rfl rfl ?_
        refine wif_lt rfl hW (fun hW => ?_) (fun hW => ?_)
        · iterate 2 (refine kst rfl rfl ?_)
          refine wcvI rfl (oK12 hL rfl) rfl rfl (R204 (d := d + 0) (h := h) hL hW) (fun v8 h9 hL hW => ?_)
          obtain ⟨q1, hW⟩ := hW
          refine wrZ rfl q1 ?_
          exact ⟨_, _, rfl, hL, hW⟩
        · iterate 2 (refine kst rfl rfl ?_)
          refine wcm_le rfl hW (fun hW => ?_) (fun hW => ?_)
          · refine kst rfl rfl ?_
            refine wgetP (b := 200) rfl (oK12 hL rfl) rfl (oP12_5 hL) ?_
            iterate 2 (refine kst rfl rfl ?_)
            obtain ⟨q1, hW⟩ := hW
            refine wast rfl (aK12_5 hL) (aN12_5 hL) (by decide) q1 ?_
            replace hL : Lay (h.sI 200 (ix a1) a2) := lsI hL
            refine kst rfl rfl ?_
            refine wgetP (b := 201) rfl (oK12 hL rfl) rfl (oP12_6 hL) ?_
            iterate 2 (refine kst rfl rfl ?_)
            obtain ⟨q2, hW⟩ := hW
            refine wast rfl (aK12_6 hL) (aN12_6 hL) (by decide) q2 ?_
            replace hL : Lay ((h.sI 200 (ix a1) a2).sI 201 (ix a1) a3) := lsI hL
            iterate 2 (refine kst rfl rfl ?_)
            refine wjp ?_ (R210_49 (h := ((h.sI 200 (ix a1) a2).sI 201 (ix a1) a3)) hL hW)
            exact ⟨rfl, rfl, rfl, rfl, trivial⟩
          · iterate 2 (refine kst rfl rfl ?_)
            refine wcvI rfl (oK12 hL rfl) rfl rfl (R204 (d := d + 0) (h := h) hL hW) (fun v10 h11 hL hW => ?_)
            obtain ⟨q1, hW⟩ := hW
            refine wrZ rfl q1 ?_
            exact ⟨_, _, rfl, hL, hW⟩
/-- 211: FourPotsModel wrongPlace -/
def W211 (a1 : Int32) (a2 : Int32) (h : TH) (C : Int32 → Prop) : Prop :=
  W208 a1 h (fun v1 => if ¬ v1 = 0 then (inb a1 4 ∧ if ¬ (h.I 201 (ix a1)) = (-1) then (if a2 < 0 then (C 3) else (inb a1 4 ∧ if a2 < (h.I 201 (ix a1)) then (C 0) else (C 3))) else (C 2)) else (C 1))

theorem R211 {d : Nat} {a1 : Int32} {a2 : Int32} {h : TH} {C : Int32 → Prop} (hL : Lay h) (hW : W211 a1 a2 h C) : xPk (d + 1) 211 [.ref 197, .int a1, .int a2] h.X (qostI h C) := by
  unfold W211 at hW
  refine kin (Nat.le_of_ble_eq_true rfl) ?_
  refine kst rfl rfl ?_
  refine qcaI rfl rfl (R208 (d := d + 0) (h := h) hL hW) (fun v1 hW => ?_)
  refine wif_ne rfl hW (fun hW => ?_) (fun hW => ?_)
  · refine kst rfl rfl ?_
    refine wgetP (b := 201) rfl (oK12 hL rfl) rfl (oP12_6 hL) ?_
    refine kst rfl rfl ?_
    obtain ⟨q1, hW⟩ := hW
    refine wald rfl (Or.inl (aK12_6 hL)) (aN12_6 hL) (by decide) q1 ?_
    refine kst rfl rfl ?_
    refine wcm_ne rfl hW (fun hW => ?_) (fun hW => ?_)
    · refine kst rfl rfl ?_
      refine wif_lt rfl hW (fun hW => ?_) (fun hW => ?_)
      · iterate 2 (refine kst rfl rfl ?_)
        refine kre rfl rfl ?_
        exact ⟨_, rfl, hW⟩
      · iterate 2 (refine kst rfl rfl ?_)
        refine wgetP (b := 201) rfl (oK12 hL rfl) rfl (oP12_6 hL) ?_
        refine kst rfl rfl ?_
        obtain ⟨q2, hW⟩ := hW
        refine wald rfl (Or.inl (aK12_6 hL)) (aN12_6 hL) (by decide) q2 ?_
        refine wcm_lt rfl hW (fun hW => ?_) (fun hW => ?_)
        · refine kst rfl rfl ?_
          refine kre rfl rfl ?_
          exact ⟨_, rfl, hW⟩
        · iterate 2 (refine kst rfl rfl ?_)
          refine kre rfl rfl ?_
          exact ⟨_, rfl, hW⟩
    · iterate 2 (refine kst rfl rfl ?_)
      refine kre rfl rfl ?_
      exact ⟨_, rfl, hW⟩
  · iterate 2 (refine kst rfl rfl ?_)
    refine kre rfl rfl ?_
    exact ⟨_, rfl, hW⟩
/-- 212: FourPotsModel write -/
def W212 (a1 : Int32) (a2 : Int32) (a3 : Int64) (h : TH) (C : Int32 → TH → Prop) : Prop :=
  W211 a1 a2 h (fun v1 => if ¬ v1 = 0 then (W204 v1 h (fun v2 h3 => (v2 = 0 ∨ v2 = 1) ∧ C v2 h3)) else (inb a1 4 ∧ W209 a3 (h.I 200 (ix a1)) h (fun v4 => inb ((60 * a1) + a2) 240 ∧ W204 v1 (h.sJ 202 (ix ((60 * a1) + a2)) v4) (fun v5 h6 => (v5 = 0 ∨ v5 = 1) ∧ C v5 h6))))

theorem R212 {d : Nat} {a1 : Int32} {a2 : Int32} {a3 : Int64} {h : TH} {C : Int32 → TH → Prop} (hL : Lay h) (hW : W212 a1 a2 a3 h C) : xPk (d + 2) 212 [.ref 197, .int a1, .int a2, .long a3] h.X (postI C) := by
  unfold W212 at hW
  refine kin (Nat.le_of_ble_eq_true rfl) ?_
  iterate 3 (refine kst rfl rfl ?_)
  refine qcvI rfl (oK12 hL rfl) rfl rfl (R211 (d := d + 0) (h := h) hL hW) (fun v1 hW => ?_)
  iterate 2 (refine kst rfl rfl ?_)
  refine wif_ne rfl hW (fun hW => ?_) (fun hW => ?_)
  · iterate 2 (refine kst rfl rfl ?_)
    refine wcvI rfl (oK12 hL rfl) rfl rfl (R204 (d := d + 1) (h := h) hL hW) (fun v2 h3 hL hW => ?_)
    obtain ⟨q1, hW⟩ := hW
    refine wrZ rfl q1 ?_
    exact ⟨_, _, rfl, hL, hW⟩
  · refine kst rfl rfl ?_
    refine wgetP (b := 202) rfl (oK12 hL rfl) rfl (oP12_7 hL) ?_
    iterate 7 (refine kst rfl rfl ?_)
    refine wgetP (b := 200) rfl (oK12 hL rfl) rfl (oP12_5 hL) ?_
    refine kst rfl rfl ?_
    obtain ⟨q1, hW⟩ := hW
    refine wald rfl (Or.inl (aK12_5 hL)) (aN12_5 hL) (by decide) q1 ?_
    refine qcaL rfl rfl (R209 (d := d + 1) (h := h) hL hW) (fun v4 hW => ?_)
    obtain ⟨q2, hW⟩ := hW
    refine wlast rfl (aK12_7 hL) (aN12_7 hL) (by decide) q2 ?_
    replace hL : Lay (h.sJ 202 (ix ((60 * a1) + a2)) v4) := lsJ hL
    iterate 2 (refine kst rfl rfl ?_)
    refine wcvI rfl (oK12 hL rfl) rfl rfl (R204 (d := d + 1) (h := (h.sJ 202 (ix ((60 * a1) + a2)) v4)) hL hW) (fun v5 h6 hL hW => ?_)
    obtain ⟨q3, hW⟩ := hW
    refine wrZ rfl q3 ?_
    exact ⟨_, _, rfl, hL, hW⟩
/-- 213: FourPotsModel read -/
def W213 (a1 : Int32) (a2 : Int32) (h : TH) (C : Int64 → TH → Prop) : Prop :=
  W211 a1 a2 h (fun v1 => if ((h.sI 197 2 v1).I 197 2) ≤ 0 then (inb ((60 * a1) + a2) 240 ∧ C ((h.sI 197 2 v1).J 202 (ix ((60 * a1) + a2))) (h.sI 197 2 v1)) else (C (-1) (h.sI 197 2 v1)))

theorem R213 {d : Nat} {a1 : Int32} {a2 : Int32} {h : TH} {C : Int64 → TH → Prop} (hL : Lay h) (hW : W213 a1 a2 h C) : xPk (d + 2) 213 [.ref 197, .int a1, .int a2] h.X (postL C) := by
  unfold W213 at hW
  refine kin (Nat.le_of_ble_eq_true rfl) ?_
  iterate 4 (refine kst rfl rfl ?_)
  refine qcvI rfl (oK12 hL rfl) rfl rfl (R211 (d := d + 0) (h := h) hL hW) (fun v1 hW => ?_)
  refine wputI rfl (oK12 hL rfl) rfl ?_
  replace hL : Lay (h.sI 197 2 v1) := lsI hL
  refine kst rfl rfl ?_
  refine wgetI rfl (oK12 hL rfl) rfl ?_
  refine wif_le rfl hW (fun hW => ?_) (fun hW => ?_)
  · refine kst rfl rfl ?_
    refine wgetP (b := 202) rfl (oK12 hL rfl) rfl (oP12_7 hL) ?_
    iterate 5 (refine kst rfl rfl ?_)
    obtain ⟨q1, hW⟩ := hW
    refine wlald rfl (aK12_7 hL) (aN12_7 hL) (by decide) q1 ?_
    refine kre rfl rfl ?_
    exact ⟨_, _, rfl, hL, hW⟩
  · iterate 2 (refine kst rfl rfl ?_)
    refine kre rfl rfl ?_
    exact ⟨_, _, rfl, hL, hW⟩
/-- 214: FourPotsModel pour -/
def B214_143 (a1 : Int32) (a2 : Int32) (a3 : Int32) (a4 : Int32) (a5 : Int32) (x6 : Int32) (s0 : Int32) (h : TH) (C : Int32 → TH → Prop) (X118 : Int32 × TH → Prop) : Prop :=
  inb (((60 * a1) + a2) + s0) 240 ∧ inb (((60 * a3) + a4) + s0) 240 ∧ X118 ((x6 + 1), (h.sJ 202 (ix (((60 * a3) + a4) + s0)) (h.J 202 (ix (((60 * a1) + a2) + s0)))))
def F214_118 (a1 : Int32) (a2 : Int32) (a3 : Int32) (a4 : Int32) (a5 : Int32) (C : Int32 → TH → Prop) (X118 : Int32 × TH → Prop) : Int32 × TH → Prop := fun
  | (x6, h) =>
    if a5 ≤ x6 then (W204 0 h (fun v15 h16 => (v15 = 0 ∨ v15 = 1) ∧ C v15 h16)) else (if a4 ≤ a2 then (B214_143 a1 a2 a3 a4 a5 x6 x6 h C X118) else (B214_143 a1 a2 a3 a4 a5 x6 ((a5 - 1) - x6) h C X118))
def B214_118 (a1 : Int32) (a2 : Int32) (a3 : Int32) (a4 : Int32) (a5 : Int32) (x6 : Int32) (h : TH) (C : Int32 → TH → Prop) : Prop := LFP (F214_118 a1 a2 a3 a4 a5 C) (x6, h)
def W214 (a1 : Int32) (a2 : Int32) (a3 : Int32) (a4 : Int32) (a5 : Int32) (h : TH) (C : Int32 → TH → Prop) : Prop :=
  W208 a1 h (fun v1 => if v1 = 0 then (W204 1 h (fun v2 h3 => (v2 = 0 ∨ v2 = 1) ∧ C v2 h3)) else (W208 a3 h (fun v4 => if v4 = 0 then (W204 1 h (fun v5 h6 => (v5 = 0 ∨ v5 = 1) ∧ C v5 h6)) else (if a2 < 0 then (W204 1 h (fun v7 h8 => (v7 = 0 ∨ v7 = 1) ∧ C v7 h8)) else (if a4 < 0 then (W204 1 h (fun v9 h10 => (v9 = 0 ∨ v9 = 1) ∧ C v9 h10)) else (if 0 ≤ a5 then (inb a1 4 ∧ if (h.I 201 (ix a1)) = (-1) then (W204 2 h (fun v11 h12 => (v11 = 0 ∨ v11 = 1) ∧ C v11 h12)) else (inb a3 4 ∧ if ¬ (h.I 201 (ix a3)) = (-1) then (inb a1 4 ∧ inb a3 4 ∧ if (h.I 200 (ix a1)) = (h.I 200 (ix a3)) then (inb a1 4 ∧ if ((h.I 201 (ix a1)) - a2) < a5 then (W204 3 h (fun v13 h14 => (v13 = 0 ∨ v13 = 1) ∧ C v13 h14)) else (inb a3 4 ∧ if a5 ≤ ((h.I 201 (ix a3)) - a4) then (B214_118 a1 a2 a3 a4 a5 0 h C) else (W204 3 h (fun v15 h16 => (v15 = 0 ∨ v15 = 1) ∧ C v15 h16)))) else (W204 8 h (fun v17 h18 => (v17 = 0 ∨ v17 = 1) ∧ C v17 h18))) else (W204 2 h (fun v19 h20 => (v19 = 0 ∨ v19 = 1) ∧ C v19 h20)))) else (W204 1 h (fun v21 h22 => (v21 = 0 ∨ v21 = 1) ∧ C v21 h22))))))))

theorem R214_143 {d : Nat} {a1 : Int32} {a2 : Int32} {a3 : Int32} {a4 : Int32} {a5 : Int32} {x6 : Int32} {s0 : Int32} {h : TH} {C : Int32 → TH → Prop} {X118 : Int32 × TH → Prop} (k118 : ∀ s : Int32 × TH, X118 s → Lay (s.2) → xEk (d + 1) 214 (118, [(0, .ref 197), (1, .int a1), (2, .int a2), (3, .int a3), (4, .int a4), (5, .int a5), (6, .int (s.1))], [], (TH.X (s.2))) (postI C)) (hL : Lay h) (hW : B214_143 a1 a2 a3 a4 a5 x6 s0 h C X118) : xEk (d + 1) 214 (143, [(0, .ref 197), (1, .int a1), (2, .int a2), (3, .int a3), (4, .int a4), (5, .int a5), (6, .int x6)], [.int s0], h.X) (postI C) := by
  unfold B214_143 at hW
  iterate 2 (refine kst rfl rfl ?_)
  refine wgetP (b := 202) rfl (oK12 hL rfl) rfl (oP12_7 hL) ?_
  iterate 8 (refine kst rfl rfl ?_)
  refine wgetP (b := 202) rfl (oK12 hL rfl) rfl (oP12_7 hL) ?_
  iterate 7 (refine kst rfl rfl ?_)
  obtain ⟨q7, hW⟩ := hW
  refine wlald rfl (aK12_7 hL) (aN12_7 hL) (by decide) q7 ?_
  obtain ⟨q8, hW⟩ := hW
  refine wlast rfl (aK12_7 hL) (aN12_7 hL) (by decide) q8 ?_
  replace hL : Lay (h.sJ 202 (ix (((60 * a3) + a4) + s0)) (h.J 202 (ix (((60 * a1) + a2) + s0)))) := lsJ hL
  iterate 2 (refine kst rfl rfl ?_)
  have z9 := k118 ((x6 + 1), (h.sJ 202 (ix (((60 * a3) + a4) + s0)) (h.J 202 (ix (((60 * a1) + a2) + s0))))) hW hL
  refine wjp ?_ z9
  exact ⟨rfl, rfl, rfl, rfl, rfl, rfl, rfl, trivial⟩
theorem R214_118 {d : Nat} {a1 : Int32} {a2 : Int32} {a3 : Int32} {a4 : Int32} {a5 : Int32} {x6 : Int32} {h : TH} {C : Int32 → TH → Prop} (hL : Lay h) (hW : B214_118 a1 a2 a3 a4 a5 x6 h C) : xEk (d + 1) 214 (118, [(0, .ref 197), (1, .int a1), (2, .int a2), (3, .int a3), (4, .int a4), (5, .int a5), (6, .int x6)], [], h.X) (postI C) := by
  refine hW (fun s => Lay (s.2) → xEk (d + 1) 214 (118, [(0, .ref 197), (1, .int a1), (2, .int a2), (3, .int a3), (4, .int a4), (5, .int a5), (6, .int (s.1))], [], (TH.X (s.2))) (postI C)) ?_ hL
  rintro ⟨x6, h⟩ hW hL
  have k118 : ∀ s : Int32 × TH, (fun s => Lay (s.2) → xEk (d + 1) 214 (118, [(0, .ref 197), (1, .int a1), (2, .int a2), (3, .int a3), (4, .int a4), (5, .int a5), (6, .int (s.1))], [], (TH.X (s.2))) (postI C)) s → Lay (s.2) → xEk (d + 1) 214 (118, [(0, .ref 197), (1, .int a1), (2, .int a2), (3, .int a3), (4, .int a4), (5, .int a5), (6, .int (s.1))], [], (TH.X (s.2))) (postI C) := fun s hs => hs
  unfold F214_118 at hW
  dsimp only at hW
  iterate 2 (refine kst rfl rfl ?_)
  refine wcm_ge rfl hW (fun hW => ?_) (fun hW => ?_)
  · iterate 2 (refine kst rfl rfl ?_)
    refine wcvI rfl (oK12 hL rfl) rfl rfl (R204 (d := d + 0) (h := h) hL hW) (fun v15 h16 hL hW => ?_)
    obtain ⟨q7, hW⟩ := hW
    refine wrZ rfl q7 ?_
    exact ⟨_, _, rfl, hL, hW⟩
  · iterate 2 (refine kst rfl rfl ?_)
    refine wcm_ge rfl hW (fun hW => ?_) (fun hW => ?_)
    · refine kst rfl rfl ?_
      refine wjp ?_ (R214_143 (h := h) k118 hL hW)
      exact ⟨rfl, rfl, rfl, rfl, rfl, rfl, rfl, trivial⟩
    · iterate 6 (refine kst rfl rfl ?_)
      refine wjp ?_ (R214_143 (h := h) k118 hL hW)
      exact ⟨rfl, rfl, rfl, rfl, rfl, rfl, rfl, trivial⟩
theorem R214 {d : Nat} {a1 : Int32} {a2 : Int32} {a3 : Int32} {a4 : Int32} {a5 : Int32} {h : TH} {C : Int32 → TH → Prop} (hL : Lay h) (hW : W214 a1 a2 a3 a4 a5 h C) : xPk (d + 1) 214 [.ref 197, .int a1, .int a2, .int a3, .int a4, .int a5] h.X (postI C) := by
  unfold W214 at hW
  refine kin (Nat.le_of_ble_eq_true rfl) ?_
  refine kst rfl rfl ?_
  refine qcaI rfl rfl (R208 (d := d + 0) (h := h) hL hW) (fun v1 hW => ?_)
  refine wif_eq rfl hW (fun hW => ?_) (fun hW => ?_)
  · iterate 2 (refine kst rfl rfl ?_)
    refine wcvI rfl (oK12 hL rfl) rfl rfl (R204 (d := d + 0) (h := h) hL hW) (fun v2 h3 hL hW => ?_)
    obtain ⟨q1, hW⟩ := hW
    refine wrZ rfl q1 ?_
    exact ⟨_, _, rfl, hL, hW⟩
  · refine kst rfl rfl ?_
    refine qcaI rfl rfl (R208 (d := d + 0) (h := h) hL hW) (fun v4 hW => ?_)
    refine wif_eq rfl hW (fun hW => ?_) (fun hW => ?_)
    · iterate 2 (refine kst rfl rfl ?_)
      refine wcvI rfl (oK12 hL rfl) rfl rfl (R204 (d := d + 0) (h := h) hL hW) (fun v5 h6 hL hW => ?_)
      obtain ⟨q1, hW⟩ := hW
      refine wrZ rfl q1 ?_
      exact ⟨_, _, rfl, hL, hW⟩
    · refine kst rfl rfl ?_
      refine wif_lt rfl hW (fun hW => ?_) (fun hW => ?_)
      · iterate 2 (refine kst rfl rfl ?_)
        refine wcvI rfl (oK12 hL rfl) rfl rfl (R204 (d := d + 0) (h := h) hL hW) (fun v7 h8 hL hW => ?_)
        obtain ⟨q1, hW⟩ := hW
        refine wrZ rfl q1 ?_
        exact ⟨_, _, rfl, hL, hW⟩
      · refine kst rfl rfl ?_
        refine wif_lt rfl hW (fun hW => ?_) (fun hW => ?_)
        · iterate 2 (refine kst rfl rfl ?_)
          refine wcvI rfl (oK12 hL rfl) rfl rfl (R204 (d := d + 0) (h := h) hL hW) (fun v9 h10 hL hW => ?_)
          obtain ⟨q1, hW⟩ := hW
          refine wrZ rfl q1 ?_
          exact ⟨_, _, rfl, hL, hW⟩
        · refine kst rfl rfl ?_
          refine wif_ge rfl hW (fun hW => ?_) (fun hW => ?_)
          · refine kst rfl rfl ?_
            refine wgetP (b := 201) rfl (oK12 hL rfl) rfl (oP12_6 hL) ?_
            refine kst rfl rfl ?_
            obtain ⟨q1, hW⟩ := hW
            refine wald rfl (Or.inl (aK12_6 hL)) (aN12_6 hL) (by decide) q1 ?_
            refine kst rfl rfl ?_
            refine wcm_eq rfl hW (fun hW => ?_) (fun hW => ?_)
            · iterate 2 (refine kst rfl rfl ?_)
              refine wcvI rfl (oK12 hL rfl) rfl rfl (R204 (d := d + 0) (h := h) hL hW) (fun v11 h12 hL hW => ?_)
              obtain ⟨q2, hW⟩ := hW
              refine wrZ rfl q2 ?_
              exact ⟨_, _, rfl, hL, hW⟩
            · refine kst rfl rfl ?_
              refine wgetP (b := 201) rfl (oK12 hL rfl) rfl (oP12_6 hL) ?_
              refine kst rfl rfl ?_
              obtain ⟨q2, hW⟩ := hW
              refine wald rfl (Or.inl (aK12_6 hL)) (aN12_6 hL) (by decide) q2 ?_
              refine kst rfl rfl ?_
              refine wcm_ne rfl hW (fun hW => ?_) (fun hW => ?_)
              · refine kst rfl rfl ?_
                refine wgetP (b := 200) rfl (oK12 hL rfl) rfl (oP12_5 hL) ?_
                refine kst rfl rfl ?_
                obtain ⟨q3, hW⟩ := hW
                refine wald rfl (Or.inl (aK12_5 hL)) (aN12_5 hL) (by decide) q3 ?_
                refine kst rfl rfl ?_
                refine wgetP (b := 200) rfl (oK12 hL rfl) rfl (oP12_5 hL) ?_
                refine kst rfl rfl ?_
                obtain ⟨q4, hW⟩ := hW
                refine wald rfl (Or.inl (aK12_5 hL)) (aN12_5 hL) (by decide) q4 ?_
                refine wcm_eq rfl hW (fun hW => ?_) (fun hW => ?_)
                · iterate 2 (refine kst rfl rfl ?_)
                  refine wgetP (b := 201) rfl (oK12 hL rfl) rfl (oP12_6 hL) ?_
                  refine kst rfl rfl ?_
                  obtain ⟨q5, hW⟩ := hW
                  refine wald rfl (Or.inl (aK12_6 hL)) (aN12_6 hL) (by decide) q5 ?_
                  iterate 2 (refine kst rfl rfl ?_)
                  refine wcm_gt rfl hW (fun hW => ?_) (fun hW => ?_)
                  · iterate 2 (refine kst rfl rfl ?_)
                    refine wcvI rfl (oK12 hL rfl) rfl rfl (R204 (d := d + 0) (h := h) hL hW) (fun v13 h14 hL hW => ?_)
                    obtain ⟨q6, hW⟩ := hW
                    refine wrZ rfl q6 ?_
                    exact ⟨_, _, rfl, hL, hW⟩
                  · iterate 2 (refine kst rfl rfl ?_)
                    refine wgetP (b := 201) rfl (oK12 hL rfl) rfl (oP12_6 hL) ?_
                    refine kst rfl rfl ?_
                    obtain ⟨q6, hW⟩ := hW
                    refine wald rfl (Or.inl (aK12_6 hL)) (aN12_6 hL) (by decide) q6 ?_
                    iterate 2 (refine kst rfl rfl ?_)
                    refine wcm_le rfl hW (fun hW => ?_) (fun hW => ?_)
                    · iterate 2 (refine kst rfl rfl ?_)
                      refine wjp ?_ (R214_118 (h := h) hL hW)
                      exact ⟨rfl, rfl, rfl, rfl, rfl, rfl, rfl, trivial⟩
                    · iterate 2 (refine kst rfl rfl ?_)
                      refine wcvI rfl (oK12 hL rfl) rfl rfl (R204 (d := d + 0) (h := h) hL hW) (fun v15 h16 hL hW => ?_)
                      obtain ⟨q7, hW⟩ := hW
                      refine wrZ rfl q7 ?_
                      exact ⟨_, _, rfl, hL, hW⟩
                · iterate 2 (refine kst rfl rfl ?_)
                  refine wcvI rfl (oK12 hL rfl) rfl rfl (R204 (d := d + 0) (h := h) hL hW) (fun v17 h18 hL hW => ?_)
                  obtain ⟨q5, hW⟩ := hW
                  refine wrZ rfl q5 ?_
                  exact ⟨_, _, rfl, hL, hW⟩
              · iterate 2 (refine kst rfl rfl ?_)
                refine wcvI rfl (oK12 hL rfl) rfl rfl (R204 (d := d + 0) (h := h) hL hW) (fun v19 h20 hL hW => ?_)
                obtain ⟨q3, hW⟩ := hW
                refine wrZ rfl q3 ?_
                exact ⟨_, _, rfl, hL, hW⟩
          · iterate 2 (refine kst rfl rfl ?_)
            refine wcvI rfl (oK12 hL rfl) rfl rfl (R204 (d := d + 0) (h := h) hL hW) (fun v21 h22 hL hW => ?_)
            obtain ⟨q1, hW⟩ := hW
            refine wrZ rfl q1 ?_
            exact ⟨_, _, rfl, hL, hW⟩
/-- 215: FourPotsModel isFrom -/
def W215 (a1 : Int64) (a2 : Int64) (a3 : Int64) (h : TH) (C : Int32 → Prop) : Prop :=
  if (lg_cmp a1 a2) < 0 then (C 0) else (if 0 < (lg_cmp a1 a3) then (C 0) else (C 1))

theorem R215 {d : Nat} {a1 : Int64} {a2 : Int64} {a3 : Int64} {h : TH} {C : Int32 → Prop} (hL : Lay h) (hW : W215 a1 a2 a3 h C) : xPk d 215 [.long a1, .long a2, .long a3] h.X (qostI h C) := by
  unfold W215 at hW
  refine kin (Nat.le_of_ble_eq_true rfl) ?_
  iterate 3 (refine kst rfl rfl ?_)
  refine wif_lt rfl hW (fun hW => ?_) (fun hW => ?_)
  · refine kst rfl rfl ?_
    refine kre rfl rfl ?_
    exact ⟨_, rfl, hW⟩
  · iterate 3 (refine kst rfl rfl ?_)
    refine wif_gt rfl hW (fun hW => ?_) (fun hW => ?_)
    · refine kst rfl rfl ?_
      refine kre rfl rfl ?_
      exact ⟨_, rfl, hW⟩
    · iterate 2 (refine kst rfl rfl ?_)
      refine kre rfl rfl ?_
      exact ⟨_, rfl, hW⟩
/-- 217: FourPotsModel four -/
def F217_3 (a1 : Int32) (C : TH → Prop) (X3 : Int32 × TH → Prop) : Int32 × TH → Prop := fun
  | (x2, h) =>
    if x2 < 0 then (C h) else (inb (h.I 197 10) 900 ∧ X3 ((x2 + (-8)), ((h.sI 203 (ix (h.I 197 10)) (((ishr a1 x2)).toInt8.toInt32).toInt8.toInt32).sI 197 10 (((h.sI 203 (ix (h.I 197 10)) (((ishr a1 x2)).toInt8.toInt32).toInt8.toInt32).I 197 10) + 1))))
def B217_3 (a1 : Int32) (x2 : Int32) (h : TH) (C : TH → Prop) : Prop := LFP (F217_3 a1 C) (x2, h)
def W217 (a1 : Int32) (h : TH) (C : TH → Prop) : Prop :=
  B217_3 a1 24 h C

theorem R217_3 {d : Nat} {a1 : Int32} {x2 : Int32} {h : TH} {C : TH → Prop} (hL : Lay h) (hW : B217_3 a1 x2 h C) : xEk d 217 (3, [(0, .ref 197), (1, .int a1), (2, .int x2)], [], h.X) (postV C) := by
  refine hW (fun s => Lay (s.2) → xEk d 217 (3, [(0, .ref 197), (1, .int a1), (2, .int (s.1))], [], (TH.X (s.2))) (postV C)) ?_ hL
  rintro ⟨x2, h⟩ hW hL
  have k3 : ∀ s : Int32 × TH, (fun s => Lay (s.2) → xEk d 217 (3, [(0, .ref 197), (1, .int a1), (2, .int (s.1))], [], (TH.X (s.2))) (postV C)) s → Lay (s.2) → xEk d 217 (3, [(0, .ref 197), (1, .int a1), (2, .int (s.1))], [], (TH.X (s.2))) (postV C) := fun s hs => hs
  unfold F217_3 at hW
  dsimp only at hW
  refine kst rfl rfl ?_
  refine wif_lt rfl hW (fun hW => ?_) (fun hW => ?_)
  · refine kre rfl rfl ?_
    exact ⟨_, rfl, hL, hW⟩
  · refine kst rfl rfl ?_
    refine wgetP (b := 203) rfl (oK12 hL rfl) rfl (oP12_8 hL) ?_
    refine kst rfl rfl ?_
    refine wgetI rfl (oK12 hL rfl) rfl ?_
    iterate 4 (refine kst rfl rfl ?_)
    obtain ⟨q1, hW⟩ := hW
    refine wbast rfl (aK12_8 hL) (aN12_8 hL) (by decide) q1 ?_
    replace hL : Lay (h.sI 203 (ix (h.I 197 10)) (((ishr a1 x2)).toInt8.toInt32).toInt8.toInt32) := lsI hL
    iterate 2 (refine kst rfl rfl ?_)
    refine wgetI rfl (oK12 hL rfl) rfl ?_
    iterate 2 (refine kst rfl rfl ?_)
    refine wputI rfl (oK12 hL rfl) rfl ?_
    replace hL : Lay ((h.sI 203 (ix (h.I 197 10)) (((ishr a1 x2)).toInt8.toInt32).toInt8.toInt32).sI 197 10 (((h.sI 203 (ix (h.I 197 10)) (((ishr a1 x2)).toInt8.toInt32).toInt8.toInt32).I 197 10) + 1)) := lsI hL
    iterate 2 (refine kst rfl rfl ?_)
    have z9 := k3 ((x2 + (-8)), ((h.sI 203 (ix (h.I 197 10)) (((ishr a1 x2)).toInt8.toInt32).toInt8.toInt32).sI 197 10 (((h.sI 203 (ix (h.I 197 10)) (((ishr a1 x2)).toInt8.toInt32).toInt8.toInt32).I 197 10) + 1))) hW hL
    refine wjp ?_ z9
    exact ⟨rfl, rfl, rfl, trivial⟩
theorem R217 {d : Nat} {a1 : Int32} {h : TH} {C : TH → Prop} (hL : Lay h) (hW : W217 a1 h C) : xPk d 217 [.ref 197, .int a1] h.X (postV C) := by
  unfold W217 at hW
  refine kin (Nat.le_of_ble_eq_true rfl) ?_
  iterate 2 (refine kst rfl rfl ?_)
  refine wjp ?_ (R217_3 (h := h) hL hW)
  exact ⟨rfl, rfl, rfl, trivial⟩
/-- 216: FourPotsModel feed -/
def W216 (a1 : Int32) (a2 : Int32) (a3 : Int32) (a4 : Int32) (a5 : Int32) (h : TH) (C : Int32 → TH → Prop) : Prop :=
  if ((h.I 197 10) + 20) ≤ 900 then (W217 a1 h (fun h1 => W217 a2 h1 (fun h2 => W217 a3 h2 (fun h3 => W217 a4 h3 (fun h4 => W217 a5 h4 (fun h5 => C (h5.I 197 10) h5)))))) else (C (-1) h)

theorem R216 {d : Nat} {a1 : Int32} {a2 : Int32} {a3 : Int32} {a4 : Int32} {a5 : Int32} {h : TH} {C : Int32 → TH → Prop} (hL : Lay h) (hW : W216 a1 a2 a3 a4 a5 h C) : xPk (d + 1) 216 [.ref 197, .int a1, .int a2, .int a3, .int a4, .int a5] h.X (postI C) := by
  unfold W216 at hW
  refine kin (Nat.le_of_ble_eq_true rfl) ?_
  refine kst rfl rfl ?_
  refine wgetI rfl (oK12 hL rfl) rfl ?_
  iterate 3 (refine kst rfl rfl ?_)
  refine wcm_le rfl hW (fun hW => ?_) (fun hW => ?_)
  · iterate 2 (refine kst rfl rfl ?_)
    refine wcvV rfl (oK12 hL rfl) rfl rfl (R217 (d := d + 0) (h := h) hL hW) (fun h1 hL hW => ?_)
    iterate 2 (refine kst rfl rfl ?_)
    refine wcvV rfl (oK12 hL rfl) rfl rfl (R217 (d := d + 0) (h := h1) hL hW) (fun h2 hL hW => ?_)
    iterate 2 (refine kst rfl rfl ?_)
    refine wcvV rfl (oK12 hL rfl) rfl rfl (R217 (d := d + 0) (h := h2) hL hW) (fun h3 hL hW => ?_)
    iterate 2 (refine kst rfl rfl ?_)
    refine wcvV rfl (oK12 hL rfl) rfl rfl (R217 (d := d + 0) (h := h3) hL hW) (fun h4 hL hW => ?_)
    iterate 2 (refine kst rfl rfl ?_)
    refine wcvV rfl (oK12 hL rfl) rfl rfl (R217 (d := d + 0) (h := h4) hL hW) (fun h5 hL hW => ?_)
    refine kst rfl rfl ?_
    refine wgetI rfl (oK12 hL rfl) rfl ?_
    refine kre rfl rfl ?_
    exact ⟨_, _, rfl, hL, hW⟩
  · refine kst rfl rfl ?_
    refine kre rfl rfl ?_
    exact ⟨_, _, rfl, hL, hW⟩
/-- 218: FourPotsModel byteAt -/
def W218 (a1 : Int32) (h : TH) (C : Int32 → Prop) : Prop :=
  if (h.I 197 11) ≤ a1 then (C (-1)) else (inb a1 900 ∧ C ((h.I 204 (ix a1)) &&& 255))

theorem R218 {d : Nat} {a1 : Int32} {h : TH} {C : Int32 → Prop} (hL : Lay h) (hW : W218 a1 h C) : xPk d 218 [.ref 197, .int a1] h.X (qostI h C) := by
  unfold W218 at hW
  refine kin (Nat.le_of_ble_eq_true rfl) ?_
  iterate 2 (refine kst rfl rfl ?_)
  refine wgetI rfl (oK12 hL rfl) rfl ?_
  refine wcm_ge rfl hW (fun hW => ?_) (fun hW => ?_)
  · refine kst rfl rfl ?_
    refine kre rfl rfl ?_
    exact ⟨_, rfl, hW⟩
  · refine kst rfl rfl ?_
    refine wgetP (b := 204) rfl (oK12 hL rfl) rfl (oP12_9 hL) ?_
    refine kst rfl rfl ?_
    obtain ⟨q1, hW⟩ := hW
    refine wbald rfl (Or.inr (aK12_9 hL)) (aN12_9 hL) (by decide) q1 ?_
    iterate 3 (refine kst rfl rfl ?_)
    refine kre rfl rfl ?_
    exact ⟨_, rfl, hW⟩
/-- 219: FourPotsModel isSmall -/
def W219 (a1 : Int32) (h : TH) (C : Int32 → Prop) : Prop :=
  if a1 < 97 then (C 0) else (if 122 < a1 then (C 0) else (C 1))

theorem R219 {d : Nat} {a1 : Int32} {h : TH} {C : Int32 → Prop} (hL : Lay h) (hW : W219 a1 h C) : xPk d 219 [.int a1] h.X (qostI h C) := by
  unfold W219 at hW
  refine kin (Nat.le_of_ble_eq_true rfl) ?_
  iterate 2 (refine kst rfl rfl ?_)
  refine wcm_lt rfl hW (fun hW => ?_) (fun hW => ?_)
  · refine kst rfl rfl ?_
    refine kre rfl rfl ?_
    exact ⟨_, rfl, hW⟩
  · iterate 2 (refine kst rfl rfl ?_)
    refine wcm_gt rfl hW (fun hW => ?_) (fun hW => ?_)
    · refine kst rfl rfl ?_
      refine kre rfl rfl ?_
      exact ⟨_, rfl, hW⟩
    · iterate 2 (refine kst rfl rfl ?_)
      refine kre rfl rfl ?_
      exact ⟨_, rfl, hW⟩
/-- 220: FourPotsModel isDigit -/
def W220 (a1 : Int32) (h : TH) (C : Int32 → Prop) : Prop :=
  if a1 < 48 then (C 0) else (if 57 < a1 then (C 0) else (C 1))

theorem R220 {d : Nat} {a1 : Int32} {h : TH} {C : Int32 → Prop} (hL : Lay h) (hW : W220 a1 h C) : xPk d 220 [.int a1] h.X (qostI h C) := by
  unfold W220 at hW
  refine kin (Nat.le_of_ble_eq_true rfl) ?_
  iterate 2 (refine kst rfl rfl ?_)
  refine wcm_lt rfl hW (fun hW => ?_) (fun hW => ?_)
  · refine kst rfl rfl ?_
    refine kre rfl rfl ?_
    exact ⟨_, rfl, hW⟩
  · iterate 2 (refine kst rfl rfl ?_)
    refine wcm_gt rfl hW (fun hW => ?_) (fun hW => ?_)
    · refine kst rfl rfl ?_
      refine kre rfl rfl ?_
      exact ⟨_, rfl, hW⟩
    · iterate 2 (refine kst rfl rfl ?_)
      refine kre rfl rfl ?_
      exact ⟨_, rfl, hW⟩
/-- 221: FourPotsModel ahead -/
def B221_26 (h : TH) (C : TH → Prop) (X0 : TH → Prop) : Prop :=
  X0 (h.sI 197 14 ((h.I 197 14) + 1))
def F221_128 (C : TH → Prop) (X128 : TH → Prop) : TH → Prop := fun
  | h =>
    W218 (h.I 197 14) h (fun v8 => W220 v8 h (fun v9 => if v9 = 0 then (if ((h.I 197 14) - (h.I 197 13)) ≤ 4 then (C (h.sI 197 12 3)) else (C (h.sI 197 12 1))) else (W218 (h.I 197 14) h (fun v10 => X128 ((h.sI 197 15 (imin 100000 (((10 * (h.I 197 15)) + v10) - 48))).sI 197 14 (((h.sI 197 15 (imin 100000 (((10 * (h.I 197 15)) + v10) - 48))).I 197 14) + 1))))))
def B221_128 (h : TH) (C : TH → Prop) : Prop := LFP (F221_128 C) h
def F221_81 (C : TH → Prop) (X81 : TH → Prop) : TH → Prop := fun
  | h =>
    W218 (h.I 197 14) h (fun v8 => W219 v8 h (fun v9 => if v9 = 0 then (C (h.sI 197 12 2)) else (X81 (h.sI 197 14 ((h.I 197 14) + 1)))))
def B221_81 (h : TH) (C : TH → Prop) : Prop := LFP (F221_81 C) h
def F221_0 (C : TH → Prop) (X0 : TH → Prop) : TH → Prop := fun
  | h =>
    W218 (h.I 197 14) h (fun v1 => if v1 = 32 then (B221_26 h C X0) else (W218 (h.I 197 14) h (fun v2 => if ¬ v2 = 10 then (W218 ((h.sI 197 13 (h.I 197 14)).I 197 14) (h.sI 197 13 (h.I 197 14)) (fun v3 => if ¬ v3 = (-1) then (W219 v3 ((h.sI 197 13 (h.I 197 14)).sI 197 15 v3) (fun v4 => if v4 = 0 then (W220 v3 ((h.sI 197 13 (h.I 197 14)).sI 197 15 v3) (fun v5 => if v5 = 0 then (if ¬ v3 = 59 then (∀ h6, h6 = (((h.sI 197 13 (h.I 197 14)).sI 197 15 v3).sI 197 14 ((((h.sI 197 13 (h.I 197 14)).sI 197 15 v3).I 197 14) + 1)) → C (h6.sI 197 12 1)) else (∀ h7, h7 = (((h.sI 197 13 (h.I 197 14)).sI 197 15 v3).sI 197 14 ((((h.sI 197 13 (h.I 197 14)).sI 197 15 v3).I 197 14) + 1)) → C (h7.sI 197 12 4))) else (B221_128 (((h.sI 197 13 (h.I 197 14)).sI 197 15 v3).sI 197 15 0) C))) else (B221_81 ((h.sI 197 13 (h.I 197 14)).sI 197 15 v3) C))) else (C (((h.sI 197 13 (h.I 197 14)).sI 197 15 v3).sI 197 12 0)))) else (B221_26 h C X0))))
def B221_0 (h : TH) (C : TH → Prop) : Prop := LFP (F221_0 C) h
def W221 (h : TH) (C : TH → Prop) : Prop :=
  B221_0 h C

theorem R221_26 {d : Nat} {h : TH} {C : TH → Prop} {X0 : TH → Prop} (k0 : ∀ s : TH, X0 s → Lay (s) → xEk (d + 1) 221 (0, [(0, .ref 197)], [], (TH.X (s))) (postV C)) (hL : Lay h) (hW : B221_26 h C X0) : xEk (d + 1) 221 (26, [(0, .ref 197)], [], h.X) (postV C) := by
  unfold B221_26 at hW
  iterate 2 (refine kst rfl rfl ?_)
  refine wgetI rfl (oK12 hL rfl) rfl ?_
  iterate 2 (refine kst rfl rfl ?_)
  refine wputI rfl (oK12 hL rfl) rfl ?_
  replace hL : Lay (h.sI 197 14 ((h.I 197 14) + 1)) := lsI hL
  refine kst rfl rfl ?_
  have z9 := k0 (h.sI 197 14 ((h.I 197 14) + 1)) hW hL
  refine wjp ?_ z9
  exact ⟨rfl, trivial⟩
theorem R221_128 {d : Nat} {h : TH} {C : TH → Prop} (hL : Lay h) (hW : B221_128 h C) : xEk (d + 1) 221 (128, [(0, .ref 197)], [], h.X) (postV C) := by
  refine hW (fun s => Lay (s) → xEk (d + 1) 221 (128, [(0, .ref 197)], [], (TH.X (s))) (postV C)) ?_ hL
  rintro h hW hL
  have k128 : ∀ s : TH, (fun s => Lay (s) → xEk (d + 1) 221 (128, [(0, .ref 197)], [], (TH.X (s))) (postV C)) s → Lay (s) → xEk (d + 1) 221 (128, [(0, .ref 197)], [], (TH.X (s))) (postV C) := fun s hs => hs
  unfold F221_128 at hW
  dsimp only at hW
  iterate 2 (refine kst rfl rfl ?_)
  refine wgetI rfl (oK12 hL rfl) rfl ?_
  refine qcvI rfl (oK12 hL rfl) rfl rfl (R218 (d := d + 0) (h := h) hL hW) (fun v8 hW => ?_)
  refine qcaI rfl rfl (R220 (d := d + 0) (h := h) hL hW) (fun v9 hW => ?_)
  refine wif_eq rfl hW (fun hW => ?_) (fun hW => ?_)
  · iterate 2 (refine kst rfl rfl ?_)
    refine wgetI rfl (oK12 hL rfl) rfl ?_
    refine kst rfl rfl ?_
    refine wgetI rfl (oK12 hL rfl) rfl ?_
    iterate 2 (refine kst rfl rfl ?_)
    refine wcm_le rfl hW (fun hW => ?_) (fun hW => ?_)
    · refine kst rfl rfl ?_
      refine wputI rfl (oK12 hL rfl) rfl ?_
      replace hL : Lay (h.sI 197 12 3) := lsI hL
      refine kst rfl rfl ?_
      refine kre rfl rfl ?_
      exact ⟨_, rfl, hL, hW⟩
    · iterate 2 (refine kst rfl rfl ?_)
      refine wputI rfl (oK12 hL rfl) rfl ?_
      replace hL : Lay (h.sI 197 12 1) := lsI hL
      refine kst rfl rfl ?_
      refine kre rfl rfl ?_
      exact ⟨_, rfl, hL, hW⟩
  · iterate 4 (refine kst rfl rfl ?_)
    refine wgetI rfl (oK12 hL rfl) rfl ?_
    iterate 3 (refine kst rfl rfl ?_)
    refine wgetI rfl (oK12 hL rfl) rfl ?_
    refine qcvI rfl (oK12 hL rfl) rfl rfl (R218 (d := d + 0) (h := h) hL hW) (fun v10 hW => ?_)
    iterate 4 (refine kst rfl rfl ?_)
    refine wputI rfl (oK12 hL rfl) rfl ?_
    replace hL : Lay (h.sI 197 15 (imin 100000 (((10 * (h.I 197 15)) + v10) - 48))) := lsI hL
    iterate 2 (refine kst rfl rfl ?_)
    refine wgetI rfl (oK12 hL rfl) rfl ?_
    iterate 2 (refine kst rfl rfl ?_)
    refine wputI rfl (oK12 hL rfl) rfl ?_
    replace hL : Lay ((h.sI 197 15 (imin 100000 (((10 * (h.I 197 15)) + v10) - 48))).sI 197 14 (((h.sI 197 15 (imin 100000 (((10 * (h.I 197 15)) + v10) - 48))).I 197 14) + 1)) := lsI hL
    refine kst rfl rfl ?_
    have z9 := k128 ((h.sI 197 15 (imin 100000 (((10 * (h.I 197 15)) + v10) - 48))).sI 197 14 (((h.sI 197 15 (imin 100000 (((10 * (h.I 197 15)) + v10) - 48))).I 197 14) + 1)) hW hL
    refine wjp ?_ z9
    exact ⟨rfl, trivial⟩
theorem R221_81 {d : Nat} {h : TH} {C : TH → Prop} (hL : Lay h) (hW : B221_81 h C) : xEk (d + 1) 221 (81, [(0, .ref 197)], [], h.X) (postV C) := by
  refine hW (fun s => Lay (s) → xEk (d + 1) 221 (81, [(0, .ref 197)], [], (TH.X (s))) (postV C)) ?_ hL
  rintro h hW hL
  have k81 : ∀ s : TH, (fun s => Lay (s) → xEk (d + 1) 221 (81, [(0, .ref 197)], [], (TH.X (s))) (postV C)) s → Lay (s) → xEk (d + 1) 221 (81, [(0, .ref 197)], [], (TH.X (s))) (postV C) := fun s hs => hs
  unfold F221_81 at hW
  dsimp only at hW
  iterate 2 (refine kst rfl rfl ?_)
  refine wgetI rfl (oK12 hL rfl) rfl ?_
  refine qcvI rfl (oK12 hL rfl) rfl rfl (R218 (d := d + 0) (h := h) hL hW) (fun v8 hW => ?_)
  refine qcaI rfl rfl (R219 (d := d + 0) (h := h) hL hW) (fun v9 hW => ?_)
  refine wif_eq rfl hW (fun hW => ?_) (fun hW => ?_)
  · iterate 2 (refine kst rfl rfl ?_)
    refine wputI rfl (oK12 hL rfl) rfl ?_
    replace hL : Lay (h.sI 197 12 2) := lsI hL
    refine kst rfl rfl ?_
    refine kre rfl rfl ?_
    exact ⟨_, rfl, hL, hW⟩
  · iterate 2 (refine kst rfl rfl ?_)
    refine wgetI rfl (oK12 hL rfl) rfl ?_
    iterate 2 (refine kst rfl rfl ?_)
    refine wputI rfl (oK12 hL rfl) rfl ?_
    replace hL : Lay (h.sI 197 14 ((h.I 197 14) + 1)) := lsI hL
    refine kst rfl rfl ?_
    have z9 := k81 (h.sI 197 14 ((h.I 197 14) + 1)) hW hL
    refine wjp ?_ z9
    exact ⟨rfl, trivial⟩
theorem R221_0 {d : Nat} {h : TH} {C : TH → Prop} (hL : Lay h) (hW : B221_0 h C) : xEk (d + 1) 221 (0, [(0, .ref 197)], [], h.X) (postV C) := by
  refine hW (fun s => Lay (s) → xEk (d + 1) 221 (0, [(0, .ref 197)], [], (TH.X (s))) (postV C)) ?_ hL
  rintro h hW hL
  have k0 : ∀ s : TH, (fun s => Lay (s) → xEk (d + 1) 221 (0, [(0, .ref 197)], [], (TH.X (s))) (postV C)) s → Lay (s) → xEk (d + 1) 221 (0, [(0, .ref 197)], [], (TH.X (s))) (postV C) := fun s hs => hs
  unfold F221_0 at hW
  dsimp only at hW
  iterate 2 (refine kst rfl rfl ?_)
  refine wgetI rfl (oK12 hL rfl) rfl ?_
  refine qcvI rfl (oK12 hL rfl) rfl rfl (R218 (d := d + 0) (h := h) hL hW) (fun v1 hW => ?_)
  refine kst rfl rfl ?_
  refine wcm_eq rfl hW (fun hW => ?_) (fun hW => ?_)
  · refine wjp ?_ (R221_26 (h := h) k0 hL hW)
    exact ⟨rfl, trivial⟩
  · iterate 2 (refine kst rfl rfl ?_)
    refine wgetI rfl (oK12 hL rfl) rfl ?_
    refine qcvI rfl (oK12 hL rfl) rfl rfl (R218 (d := d + 0) (h := h) hL hW) (fun v2 hW => ?_)
    refine kst rfl rfl ?_
    refine wcm_ne rfl hW (fun hW => ?_) (fun hW => ?_)
    · iterate 2 (refine kst rfl rfl ?_)
      refine wgetI rfl (oK12 hL rfl) rfl ?_
      refine wputI rfl (oK12 hL rfl) rfl ?_
      replace hL : Lay (h.sI 197 13 (h.I 197 14)) := lsI hL
      iterate 2 (refine kst rfl rfl ?_)
      refine wgetI rfl (oK12 hL rfl) rfl ?_
      refine qcvI rfl (oK12 hL rfl) rfl rfl (R218 (d := d + 0) (h := (h.sI 197 13 (h.I 197 14))) hL hW) (fun v3 hW => ?_)
      iterate 3 (refine kst rfl rfl ?_)
      refine wputI rfl (oK12 hL rfl) rfl ?_
      replace hL : Lay ((h.sI 197 13 (h.I 197 14)).sI 197 15 v3) := lsI hL
      iterate 2 (refine kst rfl rfl ?_)
      refine wcm_ne rfl hW (fun hW => ?_) (fun hW => ?_)
      · refine kst rfl rfl ?_
        refine qcaI rfl rfl (R219 (d := d + 0) (h := ((h.sI 197 13 (h.I 197 14)).sI 197 15 v3)) hL hW) (fun v4 hW => ?_)
        refine wif_eq rfl hW (fun hW => ?_) (fun hW => ?_)
        · refine kst rfl rfl ?_
          refine qcaI rfl rfl (R220 (d := d + 0) (h := ((h.sI 197 13 (h.I 197 14)).sI 197 15 v3)) hL hW) (fun v5 hW => ?_)
          refine wif_eq rfl hW (fun hW => ?_) (fun hW => ?_)
          · iterate 2 (refine kst rfl rfl ?_)
            refine wgetI rfl (oK12 hL rfl) rfl ?_
            iterate 2 (refine kst rfl rfl ?_)
            refine wputI rfl (oK12 hL rfl) rfl ?_
            replace hL : Lay (((h.sI 197 13 (h.I 197 14)).sI 197 15 v3).sI 197 14 ((((h.sI 197 13 (h.I 197 14)).sI 197 15 v3).I 197 14) + 1)) := lsI hL
            iterate 3 (refine kst rfl rfl ?_)
            refine wcm_ne rfl hW (fun hW => ?_) (fun hW => ?_)
            · refine kst rfl rfl ?_
              refine whb (h := (((h.sI 197 13 (h.I 197 14)).sI 197 15 v3).sI 197 14 ((((h.sI 197 13 (h.I 197 14)).sI 197 15 v3).I 197 14) + 1))) (fun h6 eh6 => ?_)
              replace hW := hW h6 eh6
              replace hL : Lay h6 := by rw [eh6]; exact hL
              clear eh6
              refine wputI rfl (oK12 hL rfl) rfl ?_
              replace hL : Lay (h6.sI 197 12 1) := lsI hL
              refine kre rfl rfl ?_
              exact ⟨_, rfl, hL, hW⟩
            · iterate 2 (refine kst rfl rfl ?_)
              refine whb (h := (((h.sI 197 13 (h.I 197 14)).sI 197 15 v3).sI 197 14 ((((h.sI 197 13 (h.I 197 14)).sI 197 15 v3).I 197 14) + 1))) (fun h7 eh7 => ?_)
              replace hW := hW h7 eh7
              replace hL : Lay h7 := by rw [eh7]; exact hL
              clear eh7
              refine wputI rfl (oK12 hL rfl) rfl ?_
              replace hL : Lay (h7.sI 197 12 4) := lsI hL
              refine kre rfl rfl ?_
              exact ⟨_, rfl, hL, hW⟩
          · iterate 2 (refine kst rfl rfl ?_)
            refine wputI rfl (oK12 hL rfl) rfl ?_
            replace hL : Lay (((h.sI 197 13 (h.I 197 14)).sI 197 15 v3).sI 197 15 0) := lsI hL
            refine wjp ?_ (R221_128 (h := (((h.sI 197 13 (h.I 197 14)).sI 197 15 v3).sI 197 15 0)) hL hW)
            exact ⟨rfl, trivial⟩
        · refine wjp ?_ (R221_81 (h := ((h.sI 197 13 (h.I 197 14)).sI 197 15 v3)) hL hW)
          exact ⟨rfl, trivial⟩
      · iterate 2 (refine kst rfl rfl ?_)
        refine wputI rfl (oK12 hL rfl) rfl ?_
        replace hL : Lay (((h.sI 197 13 (h.I 197 14)).sI 197 15 v3).sI 197 12 0) := lsI hL
        refine kst rfl rfl ?_
        refine kre rfl rfl ?_
        exact ⟨_, rfl, hL, hW⟩
    · refine wjp ?_ (R221_26 (h := h) k0 hL hW)
      exact ⟨rfl, trivial⟩
theorem R221 {d : Nat} {h : TH} {C : TH → Prop} (hL : Lay h) (hW : W221  h C) : xPk (d + 1) 221 [.ref 197] h.X (postV C) := by
  unfold W221 at hW
  refine kin (Nat.le_of_ble_eq_true rfl) ?_
  refine wjp ?_ (R221_0 (h := h) hL hW)
  exact ⟨rfl, trivial⟩
