/-! WHAT EACH METHOD NEEDS: W: the condition; R: the small machine keeps it (printed by wgen.py) -/
/-- 3: Fewest weighHalf -/
def F3_7 (a1 : Nat) (a3 : Int32) (x3 : Int32) (C : TH → Prop) (X7 : Int32 × TH → Prop) : Int32 × TH → Prop := fun
  | (x4, h) =>
    if x3 ≤ x4 then (C h) else (h.K a1 = 100 ∧ if (nI (h.N a1)) ≤ (x3 + x4) then (C h) else (okA h a1 100 x4 ∧ okA h a1 100 (x3 + x4) ∧ X7 ((x4 + 1), (h.sI a1 (ix (x3 + x4)) ((h.I a1 (ix x4)) + a3)))))
def B3_7 (a1 : Nat) (a3 : Int32) (x3 : Int32) (x4 : Int32) (h : TH) (C : TH → Prop) : Prop := LFP (F3_7 a1 a3 x3 C) (x4, h)
def W3 (a1 : Nat) (a2 : Int32) (a3 : Int32) (h : TH) (C : TH → Prop) : Prop :=
  B3_7 a1 a3 (ishl 1 a2) 0 h C

theorem R3_7 {d : Nat} {a1 : Nat} {a3 : Int32} {x3 : Int32} {x4 : Int32} {h : TH} {C : TH → Prop} (hL : Lay h) (hW : B3_7 a1 a3 x3 x4 h C) : xEk d 3 (7, [(0, .ref a1), (2, .int a3), (3, .int x3), (4, .int x4)], [], h.X) (postV C) := by
  refine hW (fun s => Lay (s.2) → xEk d 3 (7, [(0, .ref a1), (2, .int a3), (3, .int x3), (4, .int (s.1))], [], (TH.X (s.2))) (postV C)) ?_ hL
  rintro ⟨x4, h⟩ hW hL
  have k7 : ∀ s : Int32 × TH, (fun s => Lay (s.2) → xEk d 3 (7, [(0, .ref a1), (2, .int a3), (3, .int x3), (4, .int (s.1))], [], (TH.X (s.2))) (postV C)) s → Lay (s.2) → xEk d 3 (7, [(0, .ref a1), (2, .int a3), (3, .int x3), (4, .int (s.1))], [], (TH.X (s.2))) (postV C) := fun s hs => hs
  unfold F3_7 at hW
  dsimp only at hW
  iterate 2 (refine kst rfl rfl ?_)
  refine wcm_ge rfl hW (fun hW => ?_) (fun hW => ?_)
  · refine kre rfl rfl ?_
    exact ⟨_, rfl, hL, hW⟩
  · iterate 4 (refine kst rfl rfl ?_)
    obtain ⟨q1, hW⟩ := hW
    refine walen (kd := 0) rfl q1 (by decide) rfl ?_
    refine wcm_ge rfl hW (fun hW => ?_) (fun hW => ?_)
    · refine kre rfl rfl ?_
      exact ⟨_, rfl, hL, hW⟩
    · iterate 6 (refine kst rfl rfl ?_)
      obtain ⟨q2, hW⟩ := hW
      refine wald rfl (Or.inl q2.1) rfl q2.2.2 q2.2.1 ?_
      iterate 2 (refine kst rfl rfl ?_)
      obtain ⟨q3, hW⟩ := hW
      refine wast rfl q3.1 rfl q3.2.2 q3.2.1 ?_
      replace hL : Lay (h.sI a1 (ix (x3 + x4)) ((h.I a1 (ix x4)) + a3)) := lsI hL
      iterate 2 (refine kst rfl rfl ?_)
      have z9 := k7 ((x4 + 1), (h.sI a1 (ix (x3 + x4)) ((h.I a1 (ix x4)) + a3))) hW hL
      refine wjp ?_ z9
      exact ⟨rfl, rfl, rfl, rfl, trivial⟩
theorem R3 {d : Nat} {a1 : Nat} {a2 : Int32} {a3 : Int32} {h : TH} {C : TH → Prop} (hL : Lay h) (hW : W3 a1 a2 a3 h C) : xPk d 3 [.ref a1, .int a2, .int a3] h.X (postV C) := by
  unfold W3 at hW
  refine kin (Nat.le_of_ble_eq_true rfl) ?_
  iterate 6 (refine kst rfl rfl ?_)
  refine wjp ?_ (R3_7 (h := h) hL hW)
  exact ⟨rfl, rfl, rfl, rfl, trivial⟩
/-- 2: Fewest weigh -/
def B2_84 (t : Nat) (x1 : Int32) (s0 : Nat) (s1 : Int32) (s2 : Int32) (h : TH) (C : TH → Prop) (X7 : Int32 × TH → Prop) : Prop :=
  X7 ((x1 + 1), (h.sI s0 10 (s1 * s2)))
def B2_63 (t : Nat) (x1 : Int32) (x2 : Int32) (h : TH) (C : TH → Prop) (X7 : Int32 × TH → Prop) : Prop :=
  if x2 ≤ 0 then (X7 ((x1 + 1), h)) else (if (h.I t 0) = 0 then (B2_84 t x1 t (h.I t 10) 2 h C X7) else (B2_84 t x1 t (h.I t 10) 3 h C X7))
def B2_32 (t : Nat) (x1 : Int32) (s0 : Int32) (h : TH) (C : TH → Prop) (X7 : Int32 × TH → Prop) : Prop :=
  if 6 ≤ x1 then (W3 (t + 5) (x1 - 6) s0 h (fun h1 => B2_63 t x1 s0 h1 C X7)) else (W3 (t + 4) x1 s0 h (fun h2 => B2_63 t x1 s0 h2 C X7))
def F2_7 (t : Nat) (C : TH → Prop) (X7 : Int32 × TH → Prop) : Int32 × TH → Prop := fun
  | (x1, h) =>
    if 12 ≤ x1 then (C h) else (if ((h.I t 3) &&& (ishl 1 x1)) = 0 then (B2_32 t x1 0 h C X7) else (B2_32 t x1 (h.I t 10) h C X7))
def B2_7 (t : Nat) (x1 : Int32) (h : TH) (C : TH → Prop) : Prop := LFP (F2_7 t C) (x1, h)
def W2 (t : Nat) (h : TH) (C : TH → Prop) : Prop :=
  B2_7 t 0 (h.sI t 10 1) C

theorem R2_84 {d : Nat} {t : Nat} {x1 : Int32} {s0 : Nat} {s1 : Int32} {s2 : Int32} {h : TH} {C : TH → Prop} {X7 : Int32 × TH → Prop} (k7 : ∀ s : Int32 × TH, X7 s → Lay (s.2) → xEk (d + 1) 2 (7, [(0, .ref t), (1, .int (s.1))], [], (TH.X (s.2))) (postV C)) (ht : is0 t) (hs0 : is0 s0) (hL : Lay h) (hW : B2_84 t x1 s0 s1 s2 h C X7) : xEk (d + 1) 2 (84, [(0, .ref t), (1, .int x1)], [.int s2, .int s1, .ref s0], h.X) (postV C) := by
  unfold B2_84 at hW
  refine kst rfl rfl ?_
  refine wputI rfl (oK0 hL hs0) rfl ?_
  replace hL : Lay (h.sI s0 10 (s1 * s2)) := lsI hL
  iterate 2 (refine kst rfl rfl ?_)
  have z9 := k7 ((x1 + 1), (h.sI s0 10 (s1 * s2))) hW hL
  refine wjp ?_ z9
  exact ⟨rfl, rfl, trivial⟩
theorem R2_63 {d : Nat} {t : Nat} {x1 : Int32} {x2 : Int32} {h : TH} {C : TH → Prop} {X7 : Int32 × TH → Prop} (k7 : ∀ s : Int32 × TH, X7 s → Lay (s.2) → xEk (d + 1) 2 (7, [(0, .ref t), (1, .int (s.1))], [], (TH.X (s.2))) (postV C)) (ht : is0 t) (hL : Lay h) (hW : B2_63 t x1 x2 h C X7) : xEk (d + 1) 2 (63, [(0, .ref t), (1, .int x1), (2, .int x2)], [], h.X) (postV C) := by
  unfold B2_63 at hW
  refine kst rfl rfl ?_
  refine wif_le rfl hW (fun hW => ?_) (fun hW => ?_)
  · iterate 2 (refine kst rfl rfl ?_)
    have z9 := k7 ((x1 + 1), h) hW hL
    refine wjp ?_ z9
    exact ⟨rfl, rfl, trivial⟩
  · iterate 2 (refine kst rfl rfl ?_)
    refine wgetI rfl (oK0 hL ht) rfl ?_
    refine kst rfl rfl ?_
    refine wgetI rfl (oK0 hL ht) rfl ?_
    refine wif_eq rfl hW (fun hW => ?_) (fun hW => ?_)
    · refine kst rfl rfl ?_
      refine wjp ?_ (R2_84 (h := h) k7 ht ht hL hW)
      exact ⟨rfl, rfl, trivial⟩
    · iterate 2 (refine kst rfl rfl ?_)
      refine wjp ?_ (R2_84 (h := h) k7 ht ht hL hW)
      exact ⟨rfl, rfl, trivial⟩
theorem R2_32 {d : Nat} {t : Nat} {x1 : Int32} {s0 : Int32} {h : TH} {C : TH → Prop} {X7 : Int32 × TH → Prop} (k7 : ∀ s : Int32 × TH, X7 s → Lay (s.2) → xEk (d + 1) 2 (7, [(0, .ref t), (1, .int (s.1))], [], (TH.X (s.2))) (postV C)) (ht : is0 t) (hL : Lay h) (hW : B2_32 t x1 s0 h C X7) : xEk (d + 1) 2 (32, [(0, .ref t), (1, .int x1)], [.int s0], h.X) (postV C) := by
  unfold B2_32 at hW
  iterate 3 (refine kst rfl rfl ?_)
  refine wcm_ge rfl hW (fun hW => ?_) (fun hW => ?_)
  · refine kst rfl rfl ?_
    refine wgetP (b := (t + 5)) rfl (oK0 hL ht) rfl (oP0_9 hL ht) ?_
    iterate 4 (refine kst rfl rfl ?_)
    refine wcaV rfl rfl (R3 (d := d + 0) (h := h) hL hW) (fun h1 hL hW => ?_)
    refine wjp ?_ (R2_63 (h := h1) k7 ht hL hW)
    exact ⟨rfl, rfl, rfl, trivial⟩
  · refine kst rfl rfl ?_
    refine wgetP (b := (t + 4)) rfl (oK0 hL ht) rfl (oP0_8 hL ht) ?_
    iterate 2 (refine kst rfl rfl ?_)
    refine wcaV rfl rfl (R3 (d := d + 0) (h := h) hL hW) (fun h2 hL hW => ?_)
    refine kst rfl rfl ?_
    refine wjp ?_ (R2_63 (h := h2) k7 ht hL hW)
    exact ⟨rfl, rfl, rfl, trivial⟩
theorem R2_7 {d : Nat} {t : Nat} {x1 : Int32} {h : TH} {C : TH → Prop} (ht : is0 t) (hL : Lay h) (hW : B2_7 t x1 h C) : xEk (d + 1) 2 (7, [(0, .ref t), (1, .int x1)], [], h.X) (postV C) := by
  refine hW (fun s => Lay (s.2) → xEk (d + 1) 2 (7, [(0, .ref t), (1, .int (s.1))], [], (TH.X (s.2))) (postV C)) ?_ hL
  rintro ⟨x1, h⟩ hW hL
  have k7 : ∀ s : Int32 × TH, (fun s => Lay (s.2) → xEk (d + 1) 2 (7, [(0, .ref t), (1, .int (s.1))], [], (TH.X (s.2))) (postV C)) s → Lay (s.2) → xEk (d + 1) 2 (7, [(0, .ref t), (1, .int (s.1))], [], (TH.X (s.2))) (postV C) := fun s hs => hs
  unfold F2_7 at hW
  dsimp only at hW
  iterate 2 (refine kst rfl rfl ?_)
  refine wcm_ge rfl hW (fun hW => ?_) (fun hW => ?_)
  · refine kre rfl rfl ?_
    exact ⟨_, rfl, hL, hW⟩
  · refine kst rfl rfl ?_
    refine wgetI rfl (oK0 hL ht) rfl ?_
    iterate 4 (refine kst rfl rfl ?_)
    refine wif_eq rfl hW (fun hW => ?_) (fun hW => ?_)
    · refine kst rfl rfl ?_
      refine wjp ?_ (R2_32 (h := h) k7 ht hL hW)
      exact ⟨rfl, rfl, trivial⟩
    · refine kst rfl rfl ?_
      refine wgetI rfl (oK0 hL ht) rfl ?_
      refine kst rfl rfl ?_
      refine wjp ?_ (R2_32 (h := h) k7 ht hL hW)
      exact ⟨rfl, rfl, trivial⟩
theorem R2 {d : Nat} {t : Nat} {h : TH} {C : TH → Prop} (ht : is0 t) (hL : Lay h) (hW : W2 t h C) : xPk (d + 1) 2 [.ref t] h.X (postV C) := by
  unfold W2 at hW
  refine kin (Nat.le_of_ble_eq_true rfl) ?_
  iterate 2 (refine kst rfl rfl ?_)
  refine wputI rfl (oK0 hL ht) rfl ?_
  replace hL : Lay (h.sI t 10 1) := lsI hL
  iterate 2 (refine kst rfl rfl ?_)
  refine wjp ?_ (R2_7 (h := (h.sI t 10 1)) ht hL hW)
  exact ⟨rfl, rfl, trivial⟩
/-- 4: Fewest weightOf -/
def W4 (t : Nat) (a1 : Int32) (h : TH) (C : Int32 → Prop) : Prop :=
  inb (a1 &&& 63) 64 ∧ inb ((ishr a1 6) &&& 63) 64 ∧ C ((h.I (t + 4) (ix (a1 &&& 63))) + (h.I (t + 5) (ix ((ishr a1 6) &&& 63))))

theorem R4 {d : Nat} {t : Nat} {a1 : Int32} {h : TH} {C : Int32 → Prop} (ht : is0 t) (hL : Lay h) (hW : W4 t a1 h C) : xPk d 4 [.ref t, .int a1] h.X (qostI h C) := by
  unfold W4 at hW
  refine kin (Nat.le_of_ble_eq_true rfl) ?_
  refine kst rfl rfl ?_
  refine wgetP (b := (t + 4)) rfl (oK0 hL ht) rfl (oP0_8 hL ht) ?_
  iterate 3 (refine kst rfl rfl ?_)
  obtain ⟨q1, hW⟩ := hW
  refine wald rfl (Or.inl (aK0_8 hL ht)) (aN0_8 hL ht) (by decide) q1 ?_
  refine kst rfl rfl ?_
  refine wgetP (b := (t + 5)) rfl (oK0 hL ht) rfl (oP0_9 hL ht) ?_
  iterate 5 (refine kst rfl rfl ?_)
  obtain ⟨q2, hW⟩ := hW
  refine wald rfl (Or.inl (aK0_9 hL ht)) (aN0_9 hL ht) (by decide) q2 ?_
  refine kst rfl rfl ?_
  refine kre rfl rfl ?_
  exact ⟨_, rfl, hW⟩
/-- 12: Fewest add -/
def W12 (t : Nat) (a1 : Int32) (a2 : Int32) (h : TH) (C : TH → Prop) : Prop :=
  W4 t a1 h (fun v1 => W4 t a2 h (fun v2 => h.P t 7 = some (h.R t 7) ∧ okA h (h.R t 7) 102 (v1 + (2 * v2)) ∧ if ¬ (h.I (h.R t 7) (ix (v1 + (2 * v2)))) = 0 then (C h) else (if (h.I t 11) < (h.I t 10) then (h.P t 7 = some (h.R t 7) ∧ okA h (h.R t 7) 102 (v1 + (2 * v2)) ∧ (h.sI (h.R t 7) (ix (v1 + (2 * v2))) (1 &&& 1)).P t 5 = some ((h.sI (h.R t 7) (ix (v1 + (2 * v2))) (1 &&& 1)).R t 5) ∧ okA (h.sI (h.R t 7) (ix (v1 + (2 * v2))) (1 &&& 1)) ((h.sI (h.R t 7) (ix (v1 + (2 * v2))) (1 &&& 1)).R t 5) 100 ((h.sI (h.R t 7) (ix (v1 + (2 * v2))) (1 &&& 1)).I t 11) ∧ ∀ h3, h3 = ((h.sI (h.R t 7) (ix (v1 + (2 * v2))) (1 &&& 1)).sI ((h.sI (h.R t 7) (ix (v1 + (2 * v2))) (1 &&& 1)).R t 5) (ix ((h.sI (h.R t 7) (ix (v1 + (2 * v2))) (1 &&& 1)).I t 11)) ((a2 * 4096) + a1)) → h3.P t 6 = some (h3.R t 6) ∧ okA h3 (h3.R t 6) 100 (h3.I t 11) ∧ C ((h3.sI (h3.R t 6) (ix (h3.I t 11)) (h3.I t 13)).sI t 11 (((h3.sI (h3.R t 6) (ix (h3.I t 11)) (h3.I t 13)).I t 11) + 1))) else (C h))))

theorem R12 {d : Nat} {t : Nat} {a1 : Int32} {a2 : Int32} {h : TH} {C : TH → Prop} (ht : is0 t) (hL : Lay h) (hW : W12 t a1 a2 h C) : xPk (d + 1) 12 [.ref t, .int a1, .int a2] h.X (postV C) := by
  unfold W12 at hW
  refine kin (Nat.le_of_ble_eq_true rfl) ?_
  iterate 2 (refine kst rfl rfl ?_)
  refine qcvI rfl (oK0 hL ht) rfl rfl (R4 (d := d + 0) (h := h) ht hL hW) (fun v1 hW => ?_)
  iterate 3 (refine kst rfl rfl ?_)
  refine qcvI rfl (oK0 hL ht) rfl rfl (R4 (d := d + 0) (h := h) ht hL hW) (fun v2 hW => ?_)
  iterate 4 (refine kst rfl rfl ?_)
  obtain ⟨q1, hW⟩ := hW
  refine wgetP rfl (oK0 hL ht) rfl q1 ?_
  refine kst rfl rfl ?_
  obtain ⟨q2, hW⟩ := hW
  refine wbald rfl (Or.inl q2.1) rfl q2.2.2 q2.2.1 ?_
  refine wif_ne rfl hW (fun hW => ?_) (fun hW => ?_)
  · refine kre rfl rfl ?_
    exact ⟨_, rfl, hL, hW⟩
  · refine kst rfl rfl ?_
    refine wgetI rfl (oK0 hL ht) rfl ?_
    refine kst rfl rfl ?_
    refine wgetI rfl (oK0 hL ht) rfl ?_
    refine wcm_lt rfl hW (fun hW => ?_) (fun hW => ?_)
    · refine kst rfl rfl ?_
      obtain ⟨q3, hW⟩ := hW
      refine wgetP rfl (oK0 hL ht) rfl q3 ?_
      iterate 2 (refine kst rfl rfl ?_)
      obtain ⟨q4, hW⟩ := hW
      refine wzast rfl q4.1 rfl q4.2.2 q4.2.1 ?_
      replace hL : Lay (h.sI (h.R t 7) (ix (v1 + (2 * v2))) (1 &&& 1)) := lsI hL
      refine kst rfl rfl ?_
      obtain ⟨q5, hW⟩ := hW
      refine wgetP rfl (oK0 hL ht) rfl q5 ?_
      refine kst rfl rfl ?_
      refine wgetI rfl (oK0 hL ht) rfl ?_
      iterate 5 (refine kst rfl rfl ?_)
      obtain ⟨q6, hW⟩ := hW
      refine wast rfl q6.1 rfl q6.2.2 q6.2.1 ?_
      replace hL : Lay ((h.sI (h.R t 7) (ix (v1 + (2 * v2))) (1 &&& 1)).sI ((h.sI (h.R t 7) (ix (v1 + (2 * v2))) (1 &&& 1)).R t 5) (ix ((h.sI (h.R t 7) (ix (v1 + (2 * v2))) (1 &&& 1)).I t 11)) ((a2 * 4096) + a1)) := lsI hL
      refine kst rfl rfl ?_
      refine whb (h := ((h.sI (h.R t 7) (ix (v1 + (2 * v2))) (1 &&& 1)).sI ((h.sI (h.R t 7) (ix (v1 + (2 * v2))) (1 &&& 1)).R t 5) (ix ((h.sI (h.R t 7) (ix (v1 + (2 * v2))) (1 &&& 1)).I t 11)) ((a2 * 4096) + a1))) (fun h3 eh3 => ?_)
      replace hW := hW h3 eh3
      replace hL : Lay h3 := by rw [eh3]; exact hL
      clear eh3
      obtain ⟨q7, hW⟩ := hW
      refine wgetP rfl (oK0 hL ht) rfl q7 ?_
      refine kst rfl rfl ?_
      refine wgetI rfl (oK0 hL ht) rfl ?_
      refine kst rfl rfl ?_
      refine wgetI rfl (oK0 hL ht) rfl ?_
      obtain ⟨q8, hW⟩ := hW
      refine wast rfl q8.1 rfl q8.2.2 q8.2.1 ?_
      replace hL : Lay (h3.sI (h3.R t 6) (ix (h3.I t 11)) (h3.I t 13)) := lsI hL
      iterate 2 (refine kst rfl rfl ?_)
      refine wgetI rfl (oK0 hL ht) rfl ?_
      iterate 2 (refine kst rfl rfl ?_)
      refine wputI rfl (oK0 hL ht) rfl ?_
      replace hL : Lay ((h3.sI (h3.R t 6) (ix (h3.I t 11)) (h3.I t 13)).sI t 11 (((h3.sI (h3.R t 6) (ix (h3.I t 11)) (h3.I t 13)).I t 11) + 1)) := lsI hL
      refine kre rfl rfl ?_
      exact ⟨_, rfl, hL, hW⟩
    · refine kre rfl rfl ?_
      exact ⟨_, rfl, hL, hW⟩
/-- 1: Fewest use -/
def F1_100 (t : Nat) (a3 : Int32) (C : TH → Prop) (X100 : Int32 × TH → Prop) : Int32 × TH → Prop := fun
  | (x4, h) =>
    if (h.I t 10) ≤ x4 then (W12 t 0 0 (((h.sI t 11 0).sI t 12 0).sI t 13 a3) (fun h2 => C h2)) else (h.P t 7 = some (h.R t 7) ∧ okA h (h.R t 7) 102 x4 ∧ X100 ((x4 + 1), (h.sI (h.R t 7) (ix x4) (0 &&& 1))))
def B1_100 (t : Nat) (a3 : Int32) (x4 : Int32) (h : TH) (C : TH → Prop) : Prop := LFP (F1_100 t a3 C) (x4, h)
def B1_33 (t : Nat) (a1 : Nat) (a2 : Int32) (a3 : Int32) (h : TH) (C : TH → Prop) : Prop :=
  W2 t (((h.sI t 2 (h.I a1 0)).sI t 3 a2).sI t 4 a3) (fun h1 => h1.P t 5 = some (h1.R t 5) ∧ h1.K (h1.R t 5) = 100 ∧ if (h1.I t 10) ≤ (nI (h1.N (h1.R t 5))) then (B1_100 t a3 0 h1 C) else (inb (h1.I t 10) 60001 ∧ h1.n < 1000000 ∧ inb (((h1.new 100 (ix (h1.I t 10)) (ix (h1.I t 10))).sP t 5 h1.n).I t 10) 60001 ∧ ((h1.new 100 (ix (h1.I t 10)) (ix (h1.I t 10))).sP t 5 h1.n).n < 1000000 ∧ ∀ h2, h2 = (((h1.new 100 (ix (h1.I t 10)) (ix (h1.I t 10))).sP t 5 h1.n).new 100 (ix (((h1.new 100 (ix (h1.I t 10)) (ix (h1.I t 10))).sP t 5 h1.n).I t 10)) (ix (((h1.new 100 (ix (h1.I t 10)) (ix (h1.I t 10))).sP t 5 h1.n).I t 10))) → inb ((h2.sP t 6 (((h1.new 100 (ix (h1.I t 10)) (ix (h1.I t 10))).sP t 5 h1.n).n)).I t 10) 60001 ∧ (h2.sP t 6 (((h1.new 100 (ix (h1.I t 10)) (ix (h1.I t 10))).sP t 5 h1.n).n)).n < 1000000 ∧ ∀ h3, h3 = ((h2.sP t 6 (((h1.new 100 (ix (h1.I t 10)) (ix (h1.I t 10))).sP t 5 h1.n).n)).new 102 (ix ((h2.sP t 6 (((h1.new 100 (ix (h1.I t 10)) (ix (h1.I t 10))).sP t 5 h1.n).n)).I t 10)) (ix ((h2.sP t 6 (((h1.new 100 (ix (h1.I t 10)) (ix (h1.I t 10))).sP t 5 h1.n).n)).I t 10))) → B1_100 t a3 0 (h3.sP t 7 ((h2.sP t 6 (((h1.new 100 (ix (h1.I t 10)) (ix (h1.I t 10))).sP t 5 h1.n).n)).n)) C))
def W1 (t : Nat) (a1 : Nat) (a2 : Int32) (a3 : Int32) (h : TH) (C : TH → Prop) : Prop :=
  if ¬ ((h.sP t 1 a1).I t 2) = ((h.sP t 1 a1).I a1 0) then (B1_33 t a1 a2 a3 (h.sP t 1 a1) C) else (if ¬ ((h.sP t 1 a1).I t 3) = a2 then (B1_33 t a1 a2 a3 (h.sP t 1 a1) C) else (if a3 < ((h.sP t 1 a1).I t 4) then (B1_33 t a1 a2 a3 (h.sP t 1 a1) C) else (C (h.sP t 1 a1))))

theorem R1_100 {d : Nat} {t : Nat} {a3 : Int32} {x4 : Int32} {h : TH} {C : TH → Prop} (ht : is0 t) (hL : Lay h) (hW : B1_100 t a3 x4 h C) : xEk (d + 2) 1 (100, [(0, .ref t), (3, .int a3), (4, .int x4)], [], h.X) (postV C) := by
  refine hW (fun s => Lay (s.2) → xEk (d + 2) 1 (100, [(0, .ref t), (3, .int a3), (4, .int (s.1))], [], (TH.X (s.2))) (postV C)) ?_ hL
  rintro ⟨x4, h⟩ hW hL
  have k100 : ∀ s : Int32 × TH, (fun s => Lay (s.2) → xEk (d + 2) 1 (100, [(0, .ref t), (3, .int a3), (4, .int (s.1))], [], (TH.X (s.2))) (postV C)) s → Lay (s.2) → xEk (d + 2) 1 (100, [(0, .ref t), (3, .int a3), (4, .int (s.1))], [], (TH.X (s.2))) (postV C) := fun s hs => hs
  unfold F1_100 at hW
  dsimp only at hW
  iterate 2 (refine kst rfl rfl ?_)
  refine wgetI rfl (oK0 hL ht) rfl ?_
  refine wcm_ge rfl hW (fun hW => ?_) (fun hW => ?_)
  · iterate 2 (refine kst rfl rfl ?_)
    refine wputI rfl (oK0 hL ht) rfl ?_
    replace hL : Lay (h.sI t 11 0) := lsI hL
    iterate 2 (refine kst rfl rfl ?_)
    refine wputI rfl (oK0 hL ht) rfl ?_
    replace hL : Lay ((h.sI t 11 0).sI t 12 0) := lsI hL
    iterate 2 (refine kst rfl rfl ?_)
    refine wputI rfl (oK0 hL ht) rfl ?_
    replace hL : Lay (((h.sI t 11 0).sI t 12 0).sI t 13 a3) := lsI hL
    iterate 3 (refine kst rfl rfl ?_)
    refine wcvV rfl (oK0 hL ht) rfl rfl (R12 (d := d + 0) (h := (((h.sI t 11 0).sI t 12 0).sI t 13 a3)) ht hL hW) (fun h2 hL hW => ?_)
    refine kre rfl rfl ?_
    exact ⟨_, rfl, hL, hW⟩
  · refine kst rfl rfl ?_
    obtain ⟨q3, hW⟩ := hW
    refine wgetP rfl (oK0 hL ht) rfl q3 ?_
    iterate 2 (refine kst rfl rfl ?_)
    obtain ⟨q4, hW⟩ := hW
    refine wzast rfl q4.1 rfl q4.2.2 q4.2.1 ?_
    replace hL : Lay (h.sI (h.R t 7) (ix x4) (0 &&& 1)) := lsI hL
    iterate 2 (refine kst rfl rfl ?_)
    have z9 := k100 ((x4 + 1), (h.sI (h.R t 7) (ix x4) (0 &&& 1))) hW hL
    refine wjp ?_ z9
    exact ⟨rfl, rfl, rfl, trivial⟩
theorem R1_33 {d : Nat} {t : Nat} {a1 : Nat} {a2 : Int32} {a3 : Int32} {h : TH} {C : TH → Prop} (ht : is0 t) (ha1 : is3 a1) (hL : Lay h) (hW : B1_33 t a1 a2 a3 h C) : xEk (d + 2) 1 (33, [(0, .ref t), (1, .ref a1), (2, .int a2), (3, .int a3)], [], h.X) (postV C) := by
  unfold B1_33 at hW
  iterate 2 (refine kst rfl rfl ?_)
  refine wgetI rfl (oK3 hL ha1) rfl ?_
  refine wputI rfl (oK0 hL ht) rfl ?_
  replace hL : Lay (h.sI t 2 (h.I a1 0)) := lsI hL
  iterate 2 (refine kst rfl rfl ?_)
  refine wputI rfl (oK0 hL ht) rfl ?_
  replace hL : Lay ((h.sI t 2 (h.I a1 0)).sI t 3 a2) := lsI hL
  iterate 2 (refine kst rfl rfl ?_)
  refine wputI rfl (oK0 hL ht) rfl ?_
  replace hL : Lay (((h.sI t 2 (h.I a1 0)).sI t 3 a2).sI t 4 a3) := lsI hL
  refine kst rfl rfl ?_
  refine wcvV rfl (oK0 hL ht) rfl rfl (R2 (d := d + 0) (h := (((h.sI t 2 (h.I a1 0)).sI t 3 a2).sI t 4 a3)) ht hL hW) (fun h1 hL hW => ?_)
  refine kst rfl rfl ?_
  obtain ⟨q1, hW⟩ := hW
  refine wgetP rfl (oK0 hL ht) rfl q1 ?_
  obtain ⟨q2, hW⟩ := hW
  refine walen (kd := 0) rfl q2 (by decide) rfl ?_
  refine kst rfl rfl ?_
  refine wgetI rfl (oK0 hL ht) rfl ?_
  refine wcm_ge rfl hW (fun hW => ?_) (fun hW => ?_)
  · iterate 2 (refine kst rfl rfl ?_)
    refine wjp ?_ (R1_100 (h := h1) ht hL hW)
    exact ⟨rfl, rfl, rfl, trivial⟩
  · iterate 2 (refine kst rfl rfl ?_)
    refine wgetI rfl (oK0 hL ht) rfl ?_
    obtain ⟨q3, hW⟩ := hW
    obtain ⟨q4, hW⟩ := hW
    refine wnewA rfl (by decide) q3 ?_
    replace hL := lnew hL (k := 100) (l := (ix (h1.I t 10))) (m := (ix (h1.I t 10))) q4
    refine wputP rfl (oK0 hL ht) rfl ?_
    replace hL := ls0_5 hL ht (b := h1.n)
    iterate 2 (refine kst rfl rfl ?_)
    refine wgetI rfl (oK0 hL ht) rfl ?_
    obtain ⟨q5, hW⟩ := hW
    obtain ⟨q6, hW⟩ := hW
    refine wnewA rfl (by decide) q5 ?_
    replace hL := lnew hL (k := 100) (l := (ix (((h1.new 100 (ix (h1.I t 10)) (ix (h1.I t 10))).sP t 5 h1.n).I t 10))) (m := (ix (((h1.new 100 (ix (h1.I t 10)) (ix (h1.I t 10))).sP t 5 h1.n).I t 10))) q6
    refine whb (h := (((h1.new 100 (ix (h1.I t 10)) (ix (h1.I t 10))).sP t 5 h1.n).new 100 (ix (((h1.new 100 (ix (h1.I t 10)) (ix (h1.I t 10))).sP t 5 h1.n).I t 10)) (ix (((h1.new 100 (ix (h1.I t 10)) (ix (h1.I t 10))).sP t 5 h1.n).I t 10)))) (fun h2 eh2 => ?_)
    replace hW := hW h2 eh2
    replace hL : Lay h2 := by rw [eh2]; exact hL
    clear eh2
    refine wputP rfl (oK0 hL ht) rfl ?_
    replace hL := ls0_6 hL ht (b := ((h1.new 100 (ix (h1.I t 10)) (ix (h1.I t 10))).sP t 5 h1.n).n)
    iterate 2 (refine kst rfl rfl ?_)
    refine wgetI rfl (oK0 hL ht) rfl ?_
    obtain ⟨q7, hW⟩ := hW
    obtain ⟨q8, hW⟩ := hW
    refine wnewA rfl (by decide) q7 ?_
    replace hL := lnew hL (k := 102) (l := (ix ((h2.sP t 6 (((h1.new 100 (ix (h1.I t 10)) (ix (h1.I t 10))).sP t 5 h1.n).n)).I t 10))) (m := (ix ((h2.sP t 6 (((h1.new 100 (ix (h1.I t 10)) (ix (h1.I t 10))).sP t 5 h1.n).n)).I t 10))) q8
    refine whb (h := ((h2.sP t 6 (((h1.new 100 (ix (h1.I t 10)) (ix (h1.I t 10))).sP t 5 h1.n).n)).new 102 (ix ((h2.sP t 6 (((h1.new 100 (ix (h1.I t 10)) (ix (h1.I t 10))).sP t 5 h1.n).n)).I t 10)) (ix ((h2.sP t 6 (((h1.new 100 (ix (h1.I t 10)) (ix (h1.I t 10))).sP t 5 h1.n).n)).I t 10)))) (fun h3 eh3 => ?_)
    replace hW := hW h3 eh3
    replace hL : Lay h3 := by rw [eh3]; exact hL
    clear eh3
    refine wputP rfl (oK0 hL ht) rfl ?_
    replace hL := ls0_7 hL ht (b := (h2.sP t 6 (((h1.new 100 (ix (h1.I t 10)) (ix (h1.I t 10))).sP t 5 h1.n).n)).n)
    iterate 2 (refine kst rfl rfl ?_)
    refine wjp ?_ (R1_100 (h := (h3.sP t 7 ((h2.sP t 6 (((h1.new 100 (ix (h1.I t 10)) (ix (h1.I t 10))).sP t 5 h1.n).n)).n))) ht hL hW)
    exact ⟨rfl, rfl, rfl, trivial⟩
theorem R1 {d : Nat} {t : Nat} {a1 : Nat} {a2 : Int32} {a3 : Int32} {h : TH} {C : TH → Prop} (ht : is0 t) (ha1 : is3 a1) (hL : Lay h) (hW : W1 t a1 a2 a3 h C) : xPk (d + 2) 1 [.ref t, .ref a1, .int a2, .int a3] h.X (postV C) := by
  unfold W1 at hW
  refine kin (Nat.le_of_ble_eq_true rfl) ?_
  iterate 2 (refine kst rfl rfl ?_)
  refine wputP rfl (oK0 hL ht) rfl ?_
  replace hL := ls0_1 hL ht (b := a1)
  refine kst rfl rfl ?_
  refine wgetI rfl (oK0 hL ht) rfl ?_
  refine kst rfl rfl ?_
  refine wgetI rfl (oK3 hL ha1) rfl ?_
  refine wcm_ne rfl hW (fun hW => ?_) (fun hW => ?_)
  · refine wjp ?_ (R1_33 (h := (h.sP t 1 a1)) ht ha1 hL hW)
    exact ⟨rfl, rfl, rfl, rfl, trivial⟩
  · refine kst rfl rfl ?_
    refine wgetI rfl (oK0 hL ht) rfl ?_
    refine kst rfl rfl ?_
    refine wcm_ne rfl hW (fun hW => ?_) (fun hW => ?_)
    · refine wjp ?_ (R1_33 (h := (h.sP t 1 a1)) ht ha1 hL hW)
      exact ⟨rfl, rfl, rfl, rfl, trivial⟩
    · iterate 2 (refine kst rfl rfl ?_)
      refine wgetI rfl (oK0 hL ht) rfl ?_
      refine wcm_lt rfl hW (fun hW => ?_) (fun hW => ?_)
      · refine wjp ?_ (R1_33 (h := (h.sP t 1 a1)) ht ha1 hL hW)
        exact ⟨rfl, rfl, rfl, rfl, trivial⟩
      · refine kre rfl rfl ?_
        exact ⟨_, rfl, hL, hW⟩
/-- 327: java/lang/Integer bitCount -/
def W327 (a1 : Int32) (h : TH) (C : Int32 → Prop) : Prop :=
  ∀ e1, e1 = (((a1 - ((iushr a1 1) &&& 1431655765)) &&& 858993459) + ((iushr (a1 - ((iushr a1 1) &&& 1431655765)) 2) &&& 858993459)) → ∀ e2, e2 = (((e1 + (iushr e1 4)) &&& 252645135) + (iushr ((e1 + (iushr e1 4)) &&& 252645135) 8)) → C ((e2 + (iushr e2 16)) &&& 63)

theorem R327 {d : Nat} {a1 : Int32} {h : TH} {C : Int32 → Prop} (hL : Lay h) (hW : W327 a1 h C) : xPk d 327 [.int a1] h.X (qostI h C) := by
  unfold W327 at hW
  refine kin (Nat.le_of_ble_eq_true rfl) ?_
  iterate 18 (refine kst rfl rfl ?_)
  replace hW := hW _ rfl
  iterate 14 (refine kst rfl rfl ?_)
  replace hW := hW _ rfl
  iterate 9 (refine kst rfl rfl ?_)
  refine kre rfl rfl ?_
  exact ⟨_, rfl, hW⟩
/-- 8: Fewest tryShow -/
def W8 (t : Nat) (a1 : Int32) (a2 : Int32) (a3 : Int32) (h : TH) (C : TH → Prop) : Prop :=
  h.P t 1 = some (h.R t 1) ∧ is3 (h.R t 1) ∧ inb a3 12 ∧ if ¬ ((h.I ((h.R t 1) + 6) (ix a3)) &&& ((a1 ||| a2) ^^^ (-1))) = 0 then (C h) else (W12 t a1 (a2 &&& ((ishl 1 a3) ^^^ (-1))) h (fun h1 => C h1))

theorem R8 {d : Nat} {t : Nat} {a1 : Int32} {a2 : Int32} {a3 : Int32} {h : TH} {C : TH → Prop} (ht : is0 t) (hL : Lay h) (hW : W8 t a1 a2 a3 h C) : xPk (d + 2) 8 [.ref t, .int a1, .int a2, .int a3] h.X (postV C) := by
  unfold W8 at hW
  refine kin (Nat.le_of_ble_eq_true rfl) ?_
  refine kst rfl rfl ?_
  obtain ⟨q1, hW⟩ := hW
  obtain ⟨q2, hW⟩ := hW
  refine wgetP rfl (oK0 hL ht) rfl q1 ?_
  refine wgetP (b := ((h.R t 1) + 6)) rfl (oK3 hL q2) rfl (oP3_10 hL q2) ?_
  refine kst rfl rfl ?_
  obtain ⟨q3, hW⟩ := hW
  refine wald rfl (Or.inl (aK3_10 hL q2)) (aN3_10 hL q2) (by decide) q3 ?_
  iterate 6 (refine kst rfl rfl ?_)
  refine wif_ne rfl hW (fun hW => ?_) (fun hW => ?_)
  · refine kre rfl rfl ?_
    exact ⟨_, rfl, hL, hW⟩
  · iterate 9 (refine kst rfl rfl ?_)
    refine wcvV rfl (oK0 hL ht) rfl rfl (R12 (d := d + 0) (h := h) ht hL hW) (fun h1 hL hW => ?_)
    refine kre rfl rfl ?_
    exact ⟨_, rfl, hL, hW⟩
/-- 63: Menu goneWith -/
def W63 (t : Nat) (a1 : Int32) (h : TH) (C : Int32 → Prop) : Prop :=
  inb a1 12 ∧ C ((h.I (t + 10) (ix a1)) &&& (h.I t 4))

theorem R63 {d : Nat} {t : Nat} {a1 : Int32} {h : TH} {C : Int32 → Prop} (ht : is3 t) (hL : Lay h) (hW : W63 t a1 h C) : xPk d 63 [.ref t, .int a1] h.X (qostI h C) := by
  unfold W63 at hW
  refine kin (Nat.le_of_ble_eq_true rfl) ?_
  refine kst rfl rfl ?_
  refine wgetP (b := (t + 10)) rfl (oK3 hL ht) rfl (oP3_14 hL ht) ?_
  refine kst rfl rfl ?_
  obtain ⟨q1, hW⟩ := hW
  refine wald rfl (Or.inl (aK3_14 hL ht)) (aN3_14 hL ht) (by decide) q1 ?_
  refine kst rfl rfl ?_
  refine wgetI rfl (oK3 hL ht) rfl ?_
  refine kst rfl rfl ?_
  refine kre rfl rfl ?_
  exact ⟨_, rfl, hW⟩
/-- 9: Fewest tryMake -/
def W9 (t : Nat) (a1 : Int32) (a2 : Int32) (a3 : Int32) (a4 : Int32) (h : TH) (C : TH → Prop) : Prop :=
  h.P t 1 = some (h.R t 1) ∧ is3 (h.R t 1) ∧ inb a3 12 ∧ h.P t 1 = some (h.R t 1) ∧ is3 (h.R t 1) ∧ inb a3 12 ∧ if ¬ ((h.I ((h.R t 1) + 10) (ix a3)) &&& ((a1 ||| a2) ^^^ (-1))) = 0 then (C h) else (if ¬ ((h.I ((h.R t 1) + 9) (ix a3)) &&& (a1 ||| a2)) = 0 then (C h) else (W327 (h.I ((h.R t 1) + 9) (ix a3)) h (fun v1 => if a4 < v1 then (C h) else (h.P t 1 = some (h.R t 1) ∧ is3 (h.R t 1) ∧ W63 (h.R t 1) a3 h (fun v2 => W12 t ((a1 ||| (h.I ((h.R t 1) + 9) (ix a3))) &&& (v2 ^^^ (-1))) (a2 &&& (v2 ^^^ (-1))) h (fun h3 => C h3))))))

theorem R9 {d : Nat} {t : Nat} {a1 : Int32} {a2 : Int32} {a3 : Int32} {a4 : Int32} {h : TH} {C : TH → Prop} (ht : is0 t) (hL : Lay h) (hW : W9 t a1 a2 a3 a4 h C) : xPk (d + 2) 9 [.ref t, .int a1, .int a2, .int a3, .int a4] h.X (postV C) := by
  unfold W9 at hW
  refine kin (Nat.le_of_ble_eq_true rfl) ?_
  refine kst rfl rfl ?_
  obtain ⟨q1, hW⟩ := hW
  obtain ⟨q2, hW⟩ := hW
  refine wgetP rfl (oK0 hL ht) rfl q1 ?_
  refine wgetP (b := ((h.R t 1) + 9)) rfl (oK3 hL q2) rfl (oP3_13 hL q2) ?_
  refine kst rfl rfl ?_
  obtain ⟨q3, hW⟩ := hW
  refine wald rfl (Or.inl (aK3_13 hL q2)) (aN3_13 hL q2) (by decide) q3 ?_
  iterate 6 (refine kst rfl rfl ?_)
  obtain ⟨q4, hW⟩ := hW
  obtain ⟨q5, hW⟩ := hW
  refine wgetP rfl (oK0 hL ht) rfl q4 ?_
  refine wgetP (b := ((h.R t 1) + 10)) rfl (oK3 hL q5) rfl (oP3_14 hL q5) ?_
  refine kst rfl rfl ?_
  obtain ⟨q6, hW⟩ := hW
  refine wald rfl (Or.inl (aK3_14 hL q5)) (aN3_14 hL q5) (by decide) q6 ?_
  iterate 4 (refine kst rfl rfl ?_)
  refine wif_ne rfl hW (fun hW => ?_) (fun hW => ?_)
  · refine kre rfl rfl ?_
    exact ⟨_, rfl, hL, hW⟩
  · iterate 3 (refine kst rfl rfl ?_)
    refine wif_ne rfl hW (fun hW => ?_) (fun hW => ?_)
    · refine kre rfl rfl ?_
      exact ⟨_, rfl, hL, hW⟩
    · refine kst rfl rfl ?_
      refine qcaI rfl rfl (R327 (d := d + 1) (h := h) hL hW) (fun v1 hW => ?_)
      refine kst rfl rfl ?_
      refine wcm_gt rfl hW (fun hW => ?_) (fun hW => ?_)
      · refine kre rfl rfl ?_
        exact ⟨_, rfl, hL, hW⟩
      · refine kst rfl rfl ?_
        obtain ⟨q7, hW⟩ := hW
        obtain ⟨q8, hW⟩ := hW
        refine wgetP rfl (oK0 hL ht) rfl q7 ?_
        refine kst rfl rfl ?_
        refine qcvI rfl (oK3 hL q8) rfl rfl (R63 (d := d + 1) (h := h) q8 hL hW) (fun v2 hW => ?_)
        iterate 14 (refine kst rfl rfl ?_)
        refine wcvV rfl (oK0 hL ht) rfl rfl (R12 (d := d + 0) (h := h) ht hL hW) (fun h3 hL hW => ?_)
        refine kre rfl rfl ?_
        exact ⟨_, rfl, hL, hW⟩
/-- 60: Menu isPoured -/
def W60 (t : Nat) (a1 : Int32) (h : TH) (C : Int32 → Prop) : Prop :=
  if ((h.I t 3) &&& (ishl 1 a1)) = 0 then (C 0) else (C 1)

theorem R60 {d : Nat} {t : Nat} {a1 : Int32} {h : TH} {C : Int32 → Prop} (ht : is3 t) (hL : Lay h) (hW : W60 t a1 h C) : xPk d 60 [.ref t, .int a1] h.X (qostI h C) := by
  unfold W60 at hW
  refine kin (Nat.le_of_ble_eq_true rfl) ?_
  refine kst rfl rfl ?_
  refine wgetI rfl (oK3 hL ht) rfl ?_
  iterate 4 (refine kst rfl rfl ?_)
  refine wif_eq rfl hW (fun hW => ?_) (fun hW => ?_)
  · refine kst rfl rfl ?_
    refine kre rfl rfl ?_
    exact ⟨_, rfl, hW⟩
  · iterate 2 (refine kst rfl rfl ?_)
    refine kre rfl rfl ?_
    exact ⟨_, rfl, hW⟩
/-- 61: Menu isAlone -/
def W61 (t : Nat) (a1 : Int32) (h : TH) (C : Int32 → Prop) : Prop :=
  inb a1 12 ∧ if ¬ (h.I (t + 7) (ix a1)) = (-1) then (C 0) else (C 1)

theorem R61 {d : Nat} {t : Nat} {a1 : Int32} {h : TH} {C : Int32 → Prop} (ht : is3 t) (hL : Lay h) (hW : W61 t a1 h C) : xPk d 61 [.ref t, .int a1] h.X (qostI h C) := by
  unfold W61 at hW
  refine kin (Nat.le_of_ble_eq_true rfl) ?_
  refine kst rfl rfl ?_
  refine wgetP (b := (t + 7)) rfl (oK3 hL ht) rfl (oP3_11 hL ht) ?_
  refine kst rfl rfl ?_
  obtain ⟨q1, hW⟩ := hW
  refine wald rfl (Or.inl (aK3_11 hL ht)) (aN3_11 hL ht) (by decide) q1 ?_
  refine kst rfl rfl ?_
  refine wcm_ne rfl hW (fun hW => ?_) (fun hW => ?_)
  · refine kst rfl rfl ?_
    refine kre rfl rfl ?_
    exact ⟨_, rfl, hW⟩
  · iterate 2 (refine kst rfl rfl ?_)
    refine kre rfl rfl ?_
    exact ⟨_, rfl, hW⟩
/-- 10: Fewest tryPours -/
def F10_60 (t : Nat) (a1 : Int32) (a2 : Int32) (a3 : Int32) (x4 : Int32) (x5 : Int32) (C : TH → Prop) (X60 : Int32 × TH → Prop) : Int32 × TH → Prop := fun
  | (x6, h) =>
    if a3 ≤ x6 then (C h) else (if x4 = 0 then (C h) else (h.P t 1 = some (h.R t 1) ∧ is3 (h.R t 1) ∧ inb a3 12 ∧ if (((h.I ((h.R t 1) + 6) (ix a3)) &&& a1) &&& (ishl 1 x6)) = 0 then (X60 ((x6 + 1), h)) else (W12 t (((a1 &&& ((ishl 1 x6) ^^^ (-1))) ||| (ishl 1 a3)) &&& (x5 ^^^ (-1))) (a2 &&& (x5 ^^^ (-1))) h (fun h3 => X60 ((x6 + 1), h3)))))
def B10_60 (t : Nat) (a1 : Int32) (a2 : Int32) (a3 : Int32) (x4 : Int32) (x5 : Int32) (x6 : Int32) (h : TH) (C : TH → Prop) : Prop := LFP (F10_60 t a1 a2 a3 x4 x5 C) (x6, h)
def B10_45 (t : Nat) (a1 : Int32) (a2 : Int32) (a3 : Int32) (s0 : Int32) (h : TH) (C : TH → Prop) : Prop :=
  h.P t 1 = some (h.R t 1) ∧ is3 (h.R t 1) ∧ W63 (h.R t 1) a3 h (fun v2 => B10_60 t a1 a2 a3 s0 v2 0 h C)
def B10_44 (t : Nat) (a1 : Int32) (a2 : Int32) (a3 : Int32) (h : TH) (C : TH → Prop) : Prop :=
  B10_45 t a1 a2 a3 0 h C
def W10 (t : Nat) (a1 : Int32) (a2 : Int32) (a3 : Int32) (h : TH) (C : TH → Prop) : Prop :=
  h.P t 1 = some (h.R t 1) ∧ is3 (h.R t 1) ∧ W60 (h.R t 1) a3 h (fun v1 => if v1 = 0 then (B10_44 t a1 a2 a3 h C) else (h.P t 1 = some (h.R t 1) ∧ is3 (h.R t 1) ∧ inb a3 12 ∧ if ¬ ((h.I ((h.R t 1) + 6) (ix a3)) &&& ((a1 ||| a2) ^^^ (-1))) = 0 then (B10_44 t a1 a2 a3 h C) else (h.P t 1 = some (h.R t 1) ∧ is3 (h.R t 1) ∧ W61 (h.R t 1) a3 h (fun v2 => if v2 = 0 then (B10_44 t a1 a2 a3 h C) else (B10_45 t a1 a2 a3 1 h C)))))

theorem R10_60 {d : Nat} {t : Nat} {a1 : Int32} {a2 : Int32} {a3 : Int32} {x4 : Int32} {x5 : Int32} {x6 : Int32} {h : TH} {C : TH → Prop} (ht : is0 t) (hL : Lay h) (hW : B10_60 t a1 a2 a3 x4 x5 x6 h C) : xEk (d + 2) 10 (60, [(0, .ref t), (1, .int a1), (2, .int a2), (3, .int a3), (4, .int x4), (5, .int x5), (6, .int x6)], [], h.X) (postV C) := by
  refine hW (fun s => Lay (s.2) → xEk (d + 2) 10 (60, [(0, .ref t), (1, .int a1), (2, .int a2), (3, .int a3), (4, .int x4), (5, .int x5), (6, .int (s.1))], [], (TH.X (s.2))) (postV C)) ?_ hL
  rintro ⟨x6, h⟩ hW hL
  have k60 : ∀ s : Int32 × TH, (fun s => Lay (s.2) → xEk (d + 2) 10 (60, [(0, .ref t), (1, .int a1), (2, .int a2), (3, .int a3), (4, .int x4), (5, .int x5), (6, .int (s.1))], [], (TH.X (s.2))) (postV C)) s → Lay (s.2) → xEk (d + 2) 10 (60, [(0, .ref t), (1, .int a1), (2, .int a2), (3, .int a3), (4, .int x4), (5, .int x5), (6, .int (s.1))], [], (TH.X (s.2))) (postV C) := fun s hs => hs
  unfold F10_60 at hW
  dsimp only at hW
  iterate 2 (refine kst rfl rfl ?_)
  refine wcm_ge rfl hW (fun hW => ?_) (fun hW => ?_)
  · refine kre rfl rfl ?_
    exact ⟨_, rfl, hL, hW⟩
  · refine kst rfl rfl ?_
    refine wif_eq rfl hW (fun hW => ?_) (fun hW => ?_)
    · refine kre rfl rfl ?_
      exact ⟨_, rfl, hL, hW⟩
    · refine kst rfl rfl ?_
      obtain ⟨q5, hW⟩ := hW
      obtain ⟨q6, hW⟩ := hW
      refine wgetP rfl (oK0 hL ht) rfl q5 ?_
      refine wgetP (b := ((h.R t 1) + 6)) rfl (oK3 hL q6) rfl (oP3_10 hL q6) ?_
      refine kst rfl rfl ?_
      obtain ⟨q7, hW⟩ := hW
      refine wald rfl (Or.inl (aK3_10 hL q6)) (aN3_10 hL q6) (by decide) q7 ?_
      iterate 6 (refine kst rfl rfl ?_)
      refine wif_eq rfl hW (fun hW => ?_) (fun hW => ?_)
      · iterate 2 (refine kst rfl rfl ?_)
        have z9 := k60 ((x6 + 1), h) hW hL
        refine wjp ?_ z9
        exact ⟨rfl, rfl, rfl, rfl, rfl, rfl, rfl, trivial⟩
      · iterate 21 (refine kst rfl rfl ?_)
        refine wcvV rfl (oK0 hL ht) rfl rfl (R12 (d := d + 0) (h := h) ht hL hW) (fun h3 hL hW => ?_)
        iterate 2 (refine kst rfl rfl ?_)
        have z9 := k60 ((x6 + 1), h3) hW hL
        refine wjp ?_ z9
        exact ⟨rfl, rfl, rfl, rfl, rfl, rfl, rfl, trivial⟩
theorem R10_45 {d : Nat} {t : Nat} {a1 : Int32} {a2 : Int32} {a3 : Int32} {s0 : Int32} {h : TH} {C : TH → Prop} (ht : is0 t) (hL : Lay h) (hW : B10_45 t a1 a2 a3 s0 h C) : xEk (d + 2) 10 (45, [(0, .ref t), (1, .int a1), (2, .int a2), (3, .int a3)], [.int s0], h.X) (postV C) := by
  unfold B10_45 at hW
  iterate 2 (refine kst rfl rfl ?_)
  obtain ⟨q3, hW⟩ := hW
  obtain ⟨q4, hW⟩ := hW
  refine wgetP rfl (oK0 hL ht) rfl q3 ?_
  refine kst rfl rfl ?_
  refine qcvI rfl (oK3 hL q4) rfl rfl (R63 (d := d + 1) (h := h) q4 hL hW) (fun v2 hW => ?_)
  iterate 3 (refine kst rfl rfl ?_)
  refine wjp ?_ (R10_60 (h := h) ht hL hW)
  exact ⟨rfl, rfl, rfl, rfl, rfl, rfl, rfl, trivial⟩
theorem R10_44 {d : Nat} {t : Nat} {a1 : Int32} {a2 : Int32} {a3 : Int32} {h : TH} {C : TH → Prop} (ht : is0 t) (hL : Lay h) (hW : B10_44 t a1 a2 a3 h C) : xEk (d + 2) 10 (44, [(0, .ref t), (1, .int a1), (2, .int a2), (3, .int a3)], [], h.X) (postV C) := by
  unfold B10_44 at hW
  refine kst rfl rfl ?_
  refine wjp ?_ (R10_45 (h := h) ht hL hW)
  exact ⟨rfl, rfl, rfl, rfl, trivial⟩
theorem R10 {d : Nat} {t : Nat} {a1 : Int32} {a2 : Int32} {a3 : Int32} {h : TH} {C : TH → Prop} (ht : is0 t) (hL : Lay h) (hW : W10 t a1 a2 a3 h C) : xPk (d + 2) 10 [.ref t, .int a1, .int a2, .int a3] h.X (postV C) := by
  unfold W10 at hW
  refine kin (Nat.le_of_ble_eq_true rfl) ?_
  refine kst rfl rfl ?_
  obtain ⟨q1, hW⟩ := hW
  obtain ⟨q2, hW⟩ := hW
  refine wgetP rfl (oK0 hL ht) rfl q1 ?_
  refine kst rfl rfl ?_
  refine qcvI rfl (oK3 hL q2) rfl rfl (R60 (d := d + 1) (h := h) q2 hL hW) (fun v1 hW => ?_)
  refine wif_eq rfl hW (fun hW => ?_) (fun hW => ?_)
  · refine wjp ?_ (R10_44 (h := h) ht hL hW)
    exact ⟨rfl, rfl, rfl, rfl, trivial⟩
  · refine kst rfl rfl ?_
    obtain ⟨q3, hW⟩ := hW
    obtain ⟨q4, hW⟩ := hW
    refine wgetP rfl (oK0 hL ht) rfl q3 ?_
    refine wgetP (b := ((h.R t 1) + 6)) rfl (oK3 hL q4) rfl (oP3_10 hL q4) ?_
    refine kst rfl rfl ?_
    obtain ⟨q5, hW⟩ := hW
    refine wald rfl (Or.inl (aK3_10 hL q4)) (aN3_10 hL q4) (by decide) q5 ?_
    iterate 6 (refine kst rfl rfl ?_)
    refine wif_ne rfl hW (fun hW => ?_) (fun hW => ?_)
    · refine wjp ?_ (R10_44 (h := h) ht hL hW)
      exact ⟨rfl, rfl, rfl, rfl, trivial⟩
    · refine kst rfl rfl ?_
      obtain ⟨q6, hW⟩ := hW
      obtain ⟨q7, hW⟩ := hW
      refine wgetP rfl (oK0 hL ht) rfl q6 ?_
      refine kst rfl rfl ?_
      refine qcvI rfl (oK3 hL q7) rfl rfl (R61 (d := d + 1) (h := h) q7 hL hW) (fun v2 hW => ?_)
      refine wif_eq rfl hW (fun hW => ?_) (fun hW => ?_)
      · refine wjp ?_ (R10_44 (h := h) ht hL hW)
        exact ⟨rfl, rfl, rfl, rfl, trivial⟩
      · iterate 2 (refine kst rfl rfl ?_)
        refine wjp ?_ (R10_45 (h := h) ht hL hW)
        exact ⟨rfl, rfl, rfl, rfl, trivial⟩
/-- 11: Fewest tryTrust -/
def W11 (t : Nat) (a1 : Int32) (a2 : Int32) (a3 : Int32) (a4 : Int32) (h : TH) (C : TH → Prop) : Prop :=
  if (h.I t 0) = 0 then (C h) else (if a4 < 1 then (C h) else (W12 t a1 (a2 ||| (ishl 1 a3)) h (fun h1 => C h1)))

theorem R11 {d : Nat} {t : Nat} {a1 : Int32} {a2 : Int32} {a3 : Int32} {a4 : Int32} {h : TH} {C : TH → Prop} (ht : is0 t) (hL : Lay h) (hW : W11 t a1 a2 a3 a4 h C) : xPk (d + 2) 11 [.ref t, .int a1, .int a2, .int a3, .int a4] h.X (postV C) := by
  unfold W11 at hW
  refine kin (Nat.le_of_ble_eq_true rfl) ?_
  refine kst rfl rfl ?_
  refine wgetI rfl (oK0 hL ht) rfl ?_
  refine wif_eq rfl hW (fun hW => ?_) (fun hW => ?_)
  · refine kre rfl rfl ?_
    exact ⟨_, rfl, hL, hW⟩
  · iterate 2 (refine kst rfl rfl ?_)
    refine wcm_lt rfl hW (fun hW => ?_) (fun hW => ?_)
    · refine kre rfl rfl ?_
      exact ⟨_, rfl, hL, hW⟩
    · iterate 7 (refine kst rfl rfl ?_)
      refine wcvV rfl (oK0 hL ht) rfl rfl (R12 (d := d + 0) (h := h) ht hL hW) (fun h1 hL hW => ?_)
      refine kre rfl rfl ?_
      exact ⟨_, rfl, hL, hW⟩
/-- 7: Fewest goOnFrom -/
def F7_58 (t : Nat) (x2 : Int32) (x3 : Int32) (x4 : Int32) (C : TH → Prop) (X58 : Int32 × TH → Prop) : Int32 × TH → Prop := fun
  | (x5, h) =>
    h.P t 1 = some (h.R t 1) ∧ is3 (h.R t 1) ∧ if (h.I (h.R t 1) 1) ≤ x5 then (C h) else (if ¬ ((h.I t 3) &&& (ishl 1 x5)) = 0 then (if (x2 &&& (ishl 1 x5)) = 0 then (if (x3 &&& (ishl 1 x5)) = 0 then (W9 t x2 x3 x5 x4 h (fun h2 => W10 t x2 x3 x5 h2 (fun h3 => W11 t x2 x3 x5 x4 h3 (fun h4 => X58 ((x5 + 1), h4))))) else (W8 t x2 x3 x5 h (fun h5 => X58 ((x5 + 1), h5)))) else (W12 t (x2 &&& ((ishl 1 x5) ^^^ (-1))) x3 h (fun h6 => X58 ((x5 + 1), h6)))) else (X58 ((x5 + 1), h)))
def B7_58 (t : Nat) (x2 : Int32) (x3 : Int32) (x4 : Int32) (x5 : Int32) (h : TH) (C : TH → Prop) : Prop := LFP (F7_58 t x2 x3 x4 C) (x5, h)
def W7 (t : Nat) (a1 : Int32) (h : TH) (C : TH → Prop) : Prop :=
  h.P t 5 = some (h.R t 5) ∧ okA h (h.R t 5) 100 a1 ∧ h.P t 5 = some (h.R t 5) ∧ okA h (h.R t 5) 100 a1 ∧ W327 ((irem (h.I (h.R t 5) (ix a1)) 4096) ||| ((h.I (h.R t 5) (ix a1)) / 4096)) h (fun v1 => h.P t 6 = some (h.R t 6) ∧ okA h (h.R t 6) 100 a1 ∧ if (h.I t 13) ≤ (h.I (h.R t 6) (ix a1)) then (B7_58 t (irem (h.I (h.R t 5) (ix a1)) 4096) ((h.I (h.R t 5) (ix a1)) / 4096) ((h.I t 13) - v1) 0 h C) else (if ((h.I t 13) - v1) ≤ 2 then (B7_58 t (irem (h.I (h.R t 5) (ix a1)) 4096) ((h.I (h.R t 5) (ix a1)) / 4096) ((h.I t 13) - v1) 0 h C) else (C h)))

theorem R7_58 {d : Nat} {t : Nat} {x2 : Int32} {x3 : Int32} {x4 : Int32} {x5 : Int32} {h : TH} {C : TH → Prop} (ht : is0 t) (hL : Lay h) (hW : B7_58 t x2 x3 x4 x5 h C) : xEk (d + 3) 7 (58, [(0, .ref t), (2, .int x2), (3, .int x3), (4, .int x4), (5, .int x5)], [], h.X) (postV C) := by
  refine hW (fun s => Lay (s.2) → xEk (d + 3) 7 (58, [(0, .ref t), (2, .int x2), (3, .int x3), (4, .int x4), (5, .int (s.1))], [], (TH.X (s.2))) (postV C)) ?_ hL
  rintro ⟨x5, h⟩ hW hL
  have k58 : ∀ s : Int32 × TH, (fun s => Lay (s.2) → xEk (d + 3) 7 (58, [(0, .ref t), (2, .int x2), (3, .int x3), (4, .int x4), (5, .int (s.1))], [], (TH.X (s.2))) (postV C)) s → Lay (s.2) → xEk (d + 3) 7 (58, [(0, .ref t), (2, .int x2), (3, .int x3), (4, .int x4), (5, .int (s.1))], [], (TH.X (s.2))) (postV C) := fun s hs => hs
  unfold F7_58 at hW
  dsimp only at hW
  iterate 2 (refine kst rfl rfl ?_)
  obtain ⟨q7, hW⟩ := hW
  obtain ⟨q8, hW⟩ := hW
  refine wgetP rfl (oK0 hL ht) rfl q7 ?_
  refine wgetI rfl (oK3 hL q8) rfl ?_
  refine wcm_ge rfl hW (fun hW => ?_) (fun hW => ?_)
  · refine kre rfl rfl ?_
    exact ⟨_, rfl, hL, hW⟩
  · iterate 5 (refine kst rfl rfl ?_)
    refine wgetI rfl (oK0 hL ht) rfl ?_
    iterate 2 (refine kst rfl rfl ?_)
    refine wif_ne rfl hW (fun hW => ?_) (fun hW => ?_)
    · iterate 3 (refine kst rfl rfl ?_)
      refine wif_eq rfl hW (fun hW => ?_) (fun hW => ?_)
      · iterate 3 (refine kst rfl rfl ?_)
        refine wif_eq rfl hW (fun hW => ?_) (fun hW => ?_)
        · iterate 5 (refine kst rfl rfl ?_)
          refine wcvV rfl (oK0 hL ht) rfl rfl (R9 (d := d + 0) (h := h) ht hL hW) (fun h2 hL hW => ?_)
          iterate 4 (refine kst rfl rfl ?_)
          refine wcvV rfl (oK0 hL ht) rfl rfl (R10 (d := d + 0) (h := h2) ht hL hW) (fun h3 hL hW => ?_)
          iterate 5 (refine kst rfl rfl ?_)
          refine wcvV rfl (oK0 hL ht) rfl rfl (R11 (d := d + 0) (h := h3) ht hL hW) (fun h4 hL hW => ?_)
          iterate 2 (refine kst rfl rfl ?_)
          have z9 := k58 ((x5 + 1), h4) hW hL
          refine wjp ?_ z9
          exact ⟨rfl, rfl, rfl, rfl, rfl, trivial⟩
        · iterate 4 (refine kst rfl rfl ?_)
          refine wcvV rfl (oK0 hL ht) rfl rfl (R8 (d := d + 0) (h := h) ht hL hW) (fun h5 hL hW => ?_)
          iterate 3 (refine kst rfl rfl ?_)
          have z9 := k58 ((x5 + 1), h5) hW hL
          refine wjp ?_ z9
          exact ⟨rfl, rfl, rfl, rfl, rfl, trivial⟩
      · iterate 7 (refine kst rfl rfl ?_)
        refine wcvV rfl (oK0 hL ht) rfl rfl (R12 (d := d + 1) (h := h) ht hL hW) (fun h6 hL hW => ?_)
        iterate 3 (refine kst rfl rfl ?_)
        have z9 := k58 ((x5 + 1), h6) hW hL
        refine wjp ?_ z9
        exact ⟨rfl, rfl, rfl, rfl, rfl, trivial⟩
    · iterate 3 (refine kst rfl rfl ?_)
      have z9 := k58 ((x5 + 1), h) hW hL
      refine wjp ?_ z9
      exact ⟨rfl, rfl, rfl, rfl, rfl, trivial⟩
theorem R7 {d : Nat} {t : Nat} {a1 : Int32} {h : TH} {C : TH → Prop} (ht : is0 t) (hL : Lay h) (hW : W7 t a1 h C) : xPk (d + 3) 7 [.ref t, .int a1] h.X (postV C) := by
  unfold W7 at hW
  refine kin (Nat.le_of_ble_eq_true rfl) ?_
  refine kst rfl rfl ?_
  obtain ⟨q1, hW⟩ := hW
  refine wgetP rfl (oK0 hL ht) rfl q1 ?_
  refine kst rfl rfl ?_
  obtain ⟨q2, hW⟩ := hW
  refine wald rfl (Or.inl q2.1) rfl q2.2.2 q2.2.1 ?_
  refine kst rfl rfl ?_
  refine wrem rfl (by decide) ?_
  iterate 2 (refine kst rfl rfl ?_)
  obtain ⟨q3, hW⟩ := hW
  refine wgetP rfl (oK0 hL ht) rfl q3 ?_
  refine kst rfl rfl ?_
  obtain ⟨q4, hW⟩ := hW
  refine wald rfl (Or.inl q4.1) rfl q4.2.2 q4.2.1 ?_
  refine kst rfl rfl ?_
  refine wdiv rfl (by decide) ?_
  iterate 2 (refine kst rfl rfl ?_)
  refine wgetI rfl (oK0 hL ht) rfl ?_
  iterate 3 (refine kst rfl rfl ?_)
  refine qcaI rfl rfl (R327 (d := d + 2) (h := h) hL hW) (fun v1 hW => ?_)
  iterate 3 (refine kst rfl rfl ?_)
  obtain ⟨q5, hW⟩ := hW
  refine wgetP rfl (oK0 hL ht) rfl q5 ?_
  refine kst rfl rfl ?_
  obtain ⟨q6, hW⟩ := hW
  refine wald rfl (Or.inl q6.1) rfl q6.2.2 q6.2.1 ?_
  refine kst rfl rfl ?_
  refine wgetI rfl (oK0 hL ht) rfl ?_
  refine wcm_ge rfl hW (fun hW => ?_) (fun hW => ?_)
  · iterate 2 (refine kst rfl rfl ?_)
    refine wjp ?_ (R7_58 (h := h) ht hL hW)
    exact ⟨rfl, rfl, rfl, rfl, rfl, trivial⟩
  · iterate 2 (refine kst rfl rfl ?_)
    refine wcm_le rfl hW (fun hW => ?_) (fun hW => ?_)
    · iterate 2 (refine kst rfl rfl ?_)
      refine wjp ?_ (R7_58 (h := h) ht hL hW)
      exact ⟨rfl, rfl, rfl, rfl, rfl, trivial⟩
    · refine kre rfl rfl ?_
      exact ⟨_, rfl, hL, hW⟩
/-- 6: Fewest searchOn -/
def B6_88 (t : Nat) (x1 : Int32) (h : TH) (C : Int32 → TH → Prop) : Prop :=
  if (h.I t 11) ≤ x1 then (C 0 h) else (C 1 h)
def F6_7 (t : Nat) (x1 : Int32) (C : Int32 → TH → Prop) (X7 : Int32 × TH → Prop) : Int32 × TH → Prop := fun
  | (x2, h) =>
    if 1000000 ≤ x2 then (B6_88 t x1 h C) else (if ¬ (h.I t 11) = x1 then (B6_88 t x1 h C) else (if (h.I t 11) ≤ (h.I t 12) then (if 12 ≤ (h.I t 13) then (C 0 h) else (X7 ((x2 + 1), ((h.sI t 13 ((h.I t 13) + 1)).sI t 12 0)))) else (W7 t (h.I t 12) h (fun h1 => X7 ((x2 + 1), (h1.sI t 12 ((h1.I t 12) + 1)))))))
def B6_7 (t : Nat) (x1 : Int32) (x2 : Int32) (h : TH) (C : Int32 → TH → Prop) : Prop := LFP (F6_7 t x1 C) (x2, h)
def W6 (t : Nat) (h : TH) (C : Int32 → TH → Prop) : Prop :=
  B6_7 t (h.I t 11) 0 h C

theorem R6_88 {d : Nat} {t : Nat} {x1 : Int32} {h : TH} {C : Int32 → TH → Prop} (ht : is0 t) (hL : Lay h) (hW : B6_88 t x1 h C) : xEk (d + 4) 6 (88, [(0, .ref t), (1, .int x1)], [], h.X) (postI C) := by
  unfold B6_88 at hW
  refine kst rfl rfl ?_
  refine wgetI rfl (oK0 hL ht) rfl ?_
  refine kst rfl rfl ?_
  refine wcm_le rfl hW (fun hW => ?_) (fun hW => ?_)
  · refine kst rfl rfl ?_
    refine kre rfl rfl ?_
    exact ⟨_, _, rfl, hL, hW⟩
  · iterate 2 (refine kst rfl rfl ?_)
    refine kre rfl rfl ?_
    exact ⟨_, _, rfl, hL, hW⟩
theorem R6_7 {d : Nat} {t : Nat} {x1 : Int32} {x2 : Int32} {h : TH} {C : Int32 → TH → Prop} (ht : is0 t) (hL : Lay h) (hW : B6_7 t x1 x2 h C) : xEk (d + 4) 6 (7, [(0, .ref t), (1, .int x1), (2, .int x2)], [], h.X) (postI C) := by
  refine hW (fun s => Lay (s.2) → xEk (d + 4) 6 (7, [(0, .ref t), (1, .int x1), (2, .int (s.1))], [], (TH.X (s.2))) (postI C)) ?_ hL
  rintro ⟨x2, h⟩ hW hL
  have k7 : ∀ s : Int32 × TH, (fun s => Lay (s.2) → xEk (d + 4) 6 (7, [(0, .ref t), (1, .int x1), (2, .int (s.1))], [], (TH.X (s.2))) (postI C)) s → Lay (s.2) → xEk (d + 4) 6 (7, [(0, .ref t), (1, .int x1), (2, .int (s.1))], [], (TH.X (s.2))) (postI C) := fun s hs => hs
  unfold F6_7 at hW
  dsimp only at hW
  iterate 2 (refine kst rfl rfl ?_)
  refine wcm_ge rfl hW (fun hW => ?_) (fun hW => ?_)
  · refine wjp ?_ (R6_88 (h := h) ht hL hW)
    exact ⟨rfl, rfl, trivial⟩
  · refine kst rfl rfl ?_
    refine wgetI rfl (oK0 hL ht) rfl ?_
    refine kst rfl rfl ?_
    refine wcm_ne rfl hW (fun hW => ?_) (fun hW => ?_)
    · refine wjp ?_ (R6_88 (h := h) ht hL hW)
      exact ⟨rfl, rfl, trivial⟩
    · refine kst rfl rfl ?_
      refine wgetI rfl (oK0 hL ht) rfl ?_
      refine kst rfl rfl ?_
      refine wgetI rfl (oK0 hL ht) rfl ?_
      refine wcm_ge rfl hW (fun hW => ?_) (fun hW => ?_)
      · refine kst rfl rfl ?_
        refine wgetI rfl (oK0 hL ht) rfl ?_
        refine kst rfl rfl ?_
        refine wcm_ge rfl hW (fun hW => ?_) (fun hW => ?_)
        · refine kst rfl rfl ?_
          refine kre rfl rfl ?_
          exact ⟨_, _, rfl, hL, hW⟩
        · iterate 2 (refine kst rfl rfl ?_)
          refine wgetI rfl (oK0 hL ht) rfl ?_
          iterate 2 (refine kst rfl rfl ?_)
          refine wputI rfl (oK0 hL ht) rfl ?_
          replace hL : Lay (h.sI t 13 ((h.I t 13) + 1)) := lsI hL
          iterate 2 (refine kst rfl rfl ?_)
          refine wputI rfl (oK0 hL ht) rfl ?_
          replace hL : Lay ((h.sI t 13 ((h.I t 13) + 1)).sI t 12 0) := lsI hL
          iterate 3 (refine kst rfl rfl ?_)
          have z9 := k7 ((x2 + 1), ((h.sI t 13 ((h.I t 13) + 1)).sI t 12 0)) hW hL
          refine wjp ?_ z9
          exact ⟨rfl, rfl, rfl, trivial⟩
      · iterate 2 (refine kst rfl rfl ?_)
        refine wgetI rfl (oK0 hL ht) rfl ?_
        refine wcvV rfl (oK0 hL ht) rfl rfl (R7 (d := d + 0) (h := h) ht hL hW) (fun h1 hL hW => ?_)
        iterate 2 (refine kst rfl rfl ?_)
        refine wgetI rfl (oK0 hL ht) rfl ?_
        iterate 2 (refine kst rfl rfl ?_)
        refine wputI rfl (oK0 hL ht) rfl ?_
        replace hL : Lay (h1.sI t 12 ((h1.I t 12) + 1)) := lsI hL
        iterate 3 (refine kst rfl rfl ?_)
        have z9 := k7 ((x2 + 1), (h1.sI t 12 ((h1.I t 12) + 1))) hW hL
        refine wjp ?_ z9
        exact ⟨rfl, rfl, rfl, trivial⟩
theorem R6 {d : Nat} {t : Nat} {h : TH} {C : Int32 → TH → Prop} (ht : is0 t) (hL : Lay h) (hW : W6 t h C) : xPk (d + 4) 6 [.ref t] h.X (postI C) := by
  unfold W6 at hW
  refine kin (Nat.le_of_ble_eq_true rfl) ?_
  refine kst rfl rfl ?_
  refine wgetI rfl (oK0 hL ht) rfl ?_
  iterate 3 (refine kst rfl rfl ?_)
  refine wjp ?_ (R6_7 (h := h) ht hL hW)
  exact ⟨rfl, rfl, rfl, trivial⟩
/-- 5: Fewest seekPots -/
def B5_27 (t : Nat) (a1 : Int32) (x2 : Int32) (h : TH) (C : Int32 → TH → Prop) (X2 : Int32 × TH → Prop) : Prop :=
  h.P t 5 = some (h.R t 5) ∧ okA h (h.R t 5) 100 x2 ∧ if ¬ ((h.I (h.R t 5) (ix x2)) &&& a1) = a1 then (X2 ((x2 + 1), h)) else (h.P t 5 = some (h.R t 5) ∧ okA h (h.R t 5) 100 x2 ∧ if 4096 ≤ (h.I (h.R t 5) (ix x2)) then (X2 ((x2 + 1), h)) else (h.P t 6 = some (h.R t 6) ∧ okA h (h.R t 6) 100 x2 ∧ C (h.I (h.R t 6) (ix x2)) h))
def F5_2 (t : Nat) (a1 : Int32) (C : Int32 → TH → Prop) (X2 : Int32 × TH → Prop) : Int32 × TH → Prop := fun
  | (x2, h) =>
    if (h.I t 10) ≤ x2 then (C (-1) h) else (if x2 < (h.I t 11) then (B5_27 t a1 x2 h C X2) else (W6 t h (fun v1 h2 => if ¬ v1 = 0 then (B5_27 t a1 x2 h2 C X2) else (C (-1) h2))))
def B5_2 (t : Nat) (a1 : Int32) (x2 : Int32) (h : TH) (C : Int32 → TH → Prop) : Prop := LFP (F5_2 t a1 C) (x2, h)
def W5 (t : Nat) (a1 : Int32) (h : TH) (C : Int32 → TH → Prop) : Prop :=
  B5_2 t a1 0 h C

theorem R5_27 {d : Nat} {t : Nat} {a1 : Int32} {x2 : Int32} {h : TH} {C : Int32 → TH → Prop} {X2 : Int32 × TH → Prop} (k2 : ∀ s : Int32 × TH, X2 s → Lay (s.2) → xEk (d + 5) 5 (2, [(0, .ref t), (1, .int a1), (2, .int (s.1))], [], (TH.X (s.2))) (postI C)) (ht : is0 t) (hL : Lay h) (hW : B5_27 t a1 x2 h C X2) : xEk (d + 5) 5 (27, [(0, .ref t), (1, .int a1), (2, .int x2)], [], h.X) (postI C) := by
  unfold B5_27 at hW
  refine kst rfl rfl ?_
  obtain ⟨q1, hW⟩ := hW
  refine wgetP rfl (oK0 hL ht) rfl q1 ?_
  refine kst rfl rfl ?_
  obtain ⟨q2, hW⟩ := hW
  refine wald rfl (Or.inl q2.1) rfl q2.2.2 q2.2.1 ?_
  iterate 3 (refine kst rfl rfl ?_)
  refine wcm_ne rfl hW (fun hW => ?_) (fun hW => ?_)
  · iterate 2 (refine kst rfl rfl ?_)
    have z9 := k2 ((x2 + 1), h) hW hL
    refine wjp ?_ z9
    exact ⟨rfl, rfl, rfl, trivial⟩
  · refine kst rfl rfl ?_
    obtain ⟨q3, hW⟩ := hW
    refine wgetP rfl (oK0 hL ht) rfl q3 ?_
    refine kst rfl rfl ?_
    obtain ⟨q4, hW⟩ := hW
    refine wald rfl (Or.inl q4.1) rfl q4.2.2 q4.2.1 ?_
    refine kst rfl rfl ?_
    refine wcm_ge rfl hW (fun hW => ?_) (fun hW => ?_)
    · iterate 2 (refine kst rfl rfl ?_)
      have z9 := k2 ((x2 + 1), h) hW hL
      refine wjp ?_ z9
      exact ⟨rfl, rfl, rfl, trivial⟩
    · refine kst rfl rfl ?_
      obtain ⟨q5, hW⟩ := hW
      refine wgetP rfl (oK0 hL ht) rfl q5 ?_
      refine kst rfl rfl ?_
      obtain ⟨q6, hW⟩ := hW
      refine wald rfl (Or.inl q6.1) rfl q6.2.2 q6.2.1 ?_
      refine kre rfl rfl ?_
      exact ⟨_, _, rfl, hL, hW⟩
theorem R5_2 {d : Nat} {t : Nat} {a1 : Int32} {x2 : Int32} {h : TH} {C : Int32 → TH → Prop} (ht : is0 t) (hL : Lay h) (hW : B5_2 t a1 x2 h C) : xEk (d + 5) 5 (2, [(0, .ref t), (1, .int a1), (2, .int x2)], [], h.X) (postI C) := by
  refine hW (fun s => Lay (s.2) → xEk (d + 5) 5 (2, [(0, .ref t), (1, .int a1), (2, .int (s.1))], [], (TH.X (s.2))) (postI C)) ?_ hL
  rintro ⟨x2, h⟩ hW hL
  have k2 : ∀ s : Int32 × TH, (fun s => Lay (s.2) → xEk (d + 5) 5 (2, [(0, .ref t), (1, .int a1), (2, .int (s.1))], [], (TH.X (s.2))) (postI C)) s → Lay (s.2) → xEk (d + 5) 5 (2, [(0, .ref t), (1, .int a1), (2, .int (s.1))], [], (TH.X (s.2))) (postI C) := fun s hs => hs
  unfold F5_2 at hW
  dsimp only at hW
  iterate 2 (refine kst rfl rfl ?_)
  refine wgetI rfl (oK0 hL ht) rfl ?_
  refine wcm_ge rfl hW (fun hW => ?_) (fun hW => ?_)
  · refine kst rfl rfl ?_
    refine kre rfl rfl ?_
    exact ⟨_, _, rfl, hL, hW⟩
  · iterate 2 (refine kst rfl rfl ?_)
    refine wgetI rfl (oK0 hL ht) rfl ?_
    refine wcm_lt rfl hW (fun hW => ?_) (fun hW => ?_)
    · refine wjp ?_ (R5_27 (h := h) k2 ht hL hW)
      exact ⟨rfl, rfl, rfl, trivial⟩
    · refine kst rfl rfl ?_
      refine wcvI rfl (oK0 hL ht) rfl rfl (R6 (d := d + 0) (h := h) ht hL hW) (fun v1 h2 hL hW => ?_)
      refine wif_ne rfl hW (fun hW => ?_) (fun hW => ?_)
      · refine wjp ?_ (R5_27 (h := h2) k2 ht hL hW)
        exact ⟨rfl, rfl, rfl, trivial⟩
      · refine kst rfl rfl ?_
        refine kre rfl rfl ?_
        exact ⟨_, _, rfl, hL, hW⟩
theorem R5 {d : Nat} {t : Nat} {a1 : Int32} {h : TH} {C : Int32 → TH → Prop} (ht : is0 t) (hL : Lay h) (hW : W5 t a1 h C) : xPk (d + 5) 5 [.ref t, .int a1] h.X (postI C) := by
  unfold W5 at hW
  refine kin (Nat.le_of_ble_eq_true rfl) ?_
  iterate 2 (refine kst rfl rfl ?_)
  refine wjp ?_ (R5_2 (h := h) ht hL hW)
  exact ⟨rfl, rfl, rfl, trivial⟩
/-- 14: Hand clear -/
def W14 (t : Nat) (h : TH) (C : TH → Prop) : Prop :=
  ∀ h1, h1 = ((((((((h.sI t 0 0).sI t 1 0).sI t 3 0).sI t 4 0).sI t 5 0).sI t 6 (-1)).sI t 7 0).sI t 8 0) → C (((h1.sI t 9 0).sI t 10 0).sI t 11 0)

theorem R14 {d : Nat} {t : Nat} {h : TH} {C : TH → Prop} (ht : is1 t) (hL : Lay h) (hW : W14 t h C) : xPk d 14 [.ref t] h.X (postV C) := by
  unfold W14 at hW
  refine kin (Nat.le_of_ble_eq_true rfl) ?_
  iterate 2 (refine kst rfl rfl ?_)
  refine wputI rfl (oK1 hL ht) rfl ?_
  replace hL : Lay (h.sI t 0 0) := lsI hL
  iterate 2 (refine kst rfl rfl ?_)
  refine wputI rfl (oK1 hL ht) rfl ?_
  replace hL : Lay ((h.sI t 0 0).sI t 1 0) := lsI hL
  iterate 2 (refine kst rfl rfl ?_)
  refine wputI rfl (oK1 hL ht) rfl ?_
  replace hL : Lay (((h.sI t 0 0).sI t 1 0).sI t 3 0) := lsI hL
  iterate 2 (refine kst rfl rfl ?_)
  refine wputI rfl (oK1 hL ht) rfl ?_
  replace hL : Lay ((((h.sI t 0 0).sI t 1 0).sI t 3 0).sI t 4 0) := lsI hL
  iterate 2 (refine kst rfl rfl ?_)
  refine wputI rfl (oK1 hL ht) rfl ?_
  replace hL : Lay (((((h.sI t 0 0).sI t 1 0).sI t 3 0).sI t 4 0).sI t 5 0) := lsI hL
  iterate 2 (refine kst rfl rfl ?_)
  refine wputI rfl (oK1 hL ht) rfl ?_
  replace hL : Lay ((((((h.sI t 0 0).sI t 1 0).sI t 3 0).sI t 4 0).sI t 5 0).sI t 6 (-1)) := lsI hL
  iterate 2 (refine kst rfl rfl ?_)
  refine wputI rfl (oK1 hL ht) rfl ?_
  replace hL : Lay (((((((h.sI t 0 0).sI t 1 0).sI t 3 0).sI t 4 0).sI t 5 0).sI t 6 (-1)).sI t 7 0) := lsI hL
  iterate 2 (refine kst rfl rfl ?_)
  refine wputI rfl (oK1 hL ht) rfl ?_
  replace hL : Lay ((((((((h.sI t 0 0).sI t 1 0).sI t 3 0).sI t 4 0).sI t 5 0).sI t 6 (-1)).sI t 7 0).sI t 8 0) := lsI hL
  iterate 2 (refine kst rfl rfl ?_)
  refine whb (h := ((((((((h.sI t 0 0).sI t 1 0).sI t 3 0).sI t 4 0).sI t 5 0).sI t 6 (-1)).sI t 7 0).sI t 8 0)) (fun h1 eh1 => ?_)
  replace hW := hW h1 eh1
  replace hL : Lay h1 := by rw [eh1]; exact hL
  clear eh1
  refine wputI rfl (oK1 hL ht) rfl ?_
  replace hL : Lay (h1.sI t 9 0) := lsI hL
  iterate 2 (refine kst rfl rfl ?_)
  refine wputZ rfl (oK1 hL ht) rfl (by decide) ?_
  replace hL : Lay ((h1.sI t 9 0).sI t 10 0) := lsI hL
  iterate 2 (refine kst rfl rfl ?_)
  refine wputI rfl (oK1 hL ht) rfl ?_
  replace hL : Lay (((h1.sI t 9 0).sI t 10 0).sI t 11 0) := lsI hL
  refine kre rfl rfl ?_
  exact ⟨_, rfl, hL, hW⟩
/-- 15: Hand copyFrom -/
def W15 (t : Nat) (a1 : Nat) (h : TH) (C : TH → Prop) : Prop :=
  W14 t h (fun h1 => ∀ h2, h2 = (((h1.sI t 0 (h1.I a1 0)).sI t 1 ((h1.sI t 0 (h1.I a1 0)).I a1 1)).sI t 3 (((h1.sI t 0 (h1.I a1 0)).sI t 1 ((h1.sI t 0 (h1.I a1 0)).I a1 1)).I a1 3)) → C ((h2.sI t 4 (h2.I a1 4)).cI (t + 1) (va_cpy ((h2.sI t 4 (h2.I a1 4)).I (a1 + 1)) ((h2.sI t 4 (h2.I a1 4)).I (t + 1)) (ix 0) (ix 0) (ix 12))))

theorem R15 {d : Nat} {t : Nat} {a1 : Nat} {h : TH} {C : TH → Prop} (ht : is1 t) (ha1 : is1 a1) (hL : Lay h) (hW : W15 t a1 h C) : xPk (d + 1) 15 [.ref t, .ref a1] h.X (postV C) := by
  unfold W15 at hW
  refine kin (Nat.le_of_ble_eq_true rfl) ?_
  refine kst rfl rfl ?_
  refine wcvV rfl (oK1 hL ht) rfl rfl (R14 (d := d + 0) (h := h) ht hL hW) (fun h1 hL hW => ?_)
  iterate 2 (refine kst rfl rfl ?_)
  refine wgetI rfl (oK1 hL ha1) rfl ?_
  refine wputI rfl (oK1 hL ht) rfl ?_
  replace hL : Lay (h1.sI t 0 (h1.I a1 0)) := lsI hL
  iterate 2 (refine kst rfl rfl ?_)
  refine wgetI rfl (oK1 hL ha1) rfl ?_
  refine wputI rfl (oK1 hL ht) rfl ?_
  replace hL : Lay ((h1.sI t 0 (h1.I a1 0)).sI t 1 ((h1.sI t 0 (h1.I a1 0)).I a1 1)) := lsI hL
  iterate 2 (refine kst rfl rfl ?_)
  refine wgetI rfl (oK1 hL ha1) rfl ?_
  refine wputI rfl (oK1 hL ht) rfl ?_
  replace hL : Lay (((h1.sI t 0 (h1.I a1 0)).sI t 1 ((h1.sI t 0 (h1.I a1 0)).I a1 1)).sI t 3 (((h1.sI t 0 (h1.I a1 0)).sI t 1 ((h1.sI t 0 (h1.I a1 0)).I a1 1)).I a1 3)) := lsI hL
  iterate 2 (refine kst rfl rfl ?_)
  refine whb (h := (((h1.sI t 0 (h1.I a1 0)).sI t 1 ((h1.sI t 0 (h1.I a1 0)).I a1 1)).sI t 3 (((h1.sI t 0 (h1.I a1 0)).sI t 1 ((h1.sI t 0 (h1.I a1 0)).I a1 1)).I a1 3))) (fun h2 eh2 => ?_)
  replace hW := hW h2 eh2
  replace hL : Lay h2 := by rw [eh2]; exact hL
  clear eh2
  refine wgetI rfl (oK1 hL ha1) rfl ?_
  refine wputI rfl (oK1 hL ht) rfl ?_
  replace hL : Lay (h2.sI t 4 (h2.I a1 4)) := lsI hL
  refine kst rfl rfl ?_
  refine wgetP (b := (a1 + 1)) rfl (oK1 hL ha1) rfl (oP1_2 hL ha1) ?_
  iterate 2 (refine kst rfl rfl ?_)
  refine wgetP (b := (t + 1)) rfl (oK1 hL ht) rfl (oP1_2 hL ht) ?_
  iterate 2 (refine kst rfl rfl ?_)
  refine wcopyI rfl (aK1_2 hL ha1) (aK1_2 hL ht) (aN1_2 hL ha1) (aN1_2 hL ht) (by decide) (by decide) ⟨by decide, by decide, by decide, by decide, by decide⟩ (Nat.le_of_ble_eq_true rfl) ?_
  replace hL : Lay ((h2.sI t 4 (h2.I a1 4)).cI (t + 1) (va_cpy ((h2.sI t 4 (h2.I a1 4)).I (a1 + 1)) ((h2.sI t 4 (h2.I a1 4)).I (t + 1)) (ix 0) (ix 0) (ix 12))) := lcI hL
  refine kre rfl rfl ?_
  exact ⟨_, rfl, hL, hW⟩
/-- 16: Hand beginCooking -/
def W16 (t : Nat) (a1 : Int32) (h : TH) (C : TH → Prop) : Prop :=
  W14 t h (fun h1 => if a1 = (-1) then (C ((h1.sI t 10 0).sI t 11 a1)) else (C ((h1.sI t 10 1).sI t 11 a1)))

theorem R16 {d : Nat} {t : Nat} {a1 : Int32} {h : TH} {C : TH → Prop} (ht : is1 t) (hL : Lay h) (hW : W16 t a1 h C) : xPk (d + 1) 16 [.ref t, .int a1] h.X (postV C) := by
  unfold W16 at hW
  refine kin (Nat.le_of_ble_eq_true rfl) ?_
  refine kst rfl rfl ?_
  refine wcvV rfl (oK1 hL ht) rfl rfl (R14 (d := d + 0) (h := h) ht hL hW) (fun h1 hL hW => ?_)
  iterate 3 (refine kst rfl rfl ?_)
  refine wcm_eq rfl hW (fun hW => ?_) (fun hW => ?_)
  · refine kst rfl rfl ?_
    refine wputZ rfl (oK1 hL ht) rfl (by decide) ?_
    replace hL : Lay (h1.sI t 10 0) := lsI hL
    iterate 2 (refine kst rfl rfl ?_)
    refine wputI rfl (oK1 hL ht) rfl ?_
    replace hL : Lay ((h1.sI t 10 0).sI t 11 a1) := lsI hL
    refine kre rfl rfl ?_
    exact ⟨_, rfl, hL, hW⟩
  · iterate 2 (refine kst rfl rfl ?_)
    refine wputZ rfl (oK1 hL ht) rfl (by decide) ?_
    replace hL : Lay (h1.sI t 10 1) := lsI hL
    iterate 2 (refine kst rfl rfl ?_)
    refine wputI rfl (oK1 hL ht) rfl ?_
    replace hL : Lay ((h1.sI t 10 1).sI t 11 a1) := lsI hL
    refine kre rfl rfl ?_
    exact ⟨_, rfl, hL, hW⟩
/-- 17: Hand madeOnes -/
def W17 (t : Nat) (h : TH) (C : Int32 → Prop) : Prop :=
  C ((h.I t 0) &&& ((h.I t 1) ^^^ (-1)))

theorem R17 {d : Nat} {t : Nat} {h : TH} {C : Int32 → Prop} (ht : is1 t) (hL : Lay h) (hW : W17 t h C) : xPk d 17 [.ref t] h.X (qostI h C) := by
  unfold W17 at hW
  refine kin (Nat.le_of_ble_eq_true rfl) ?_
  refine kst rfl rfl ?_
  refine wgetI rfl (oK1 hL ht) rfl ?_
  refine kst rfl rfl ?_
  refine wgetI rfl (oK1 hL ht) rfl ?_
  iterate 3 (refine kst rfl rfl ?_)
  refine kre rfl rfl ?_
  exact ⟨_, rfl, hW⟩
/-- 112: Room holds -/
def F112_2 (t : Nat) (a1 : Int32) (h : TH) (C : Int32 → Prop) (X2 : Int32 → Prop) : Int32 → Prop := fun
  | x2 =>
    if (h.I t 2) ≤ x2 then (C 1) else (inb x2 9 ∧ W327 (a1 &&& (h.I (t + 1) (ix x2))) h (fun v1 => inb x2 9 ∧ if v1 ≤ (h.I (t + 2) (ix x2)) then (X2 (x2 + 1)) else (C 0)))
def B112_2 (t : Nat) (a1 : Int32) (x2 : Int32) (h : TH) (C : Int32 → Prop) : Prop := LFP (F112_2 t a1 h C) x2
def W112 (t : Nat) (a1 : Int32) (h : TH) (C : Int32 → Prop) : Prop :=
  B112_2 t a1 0 h C

theorem R112_2 {d : Nat} {t : Nat} {a1 : Int32} {x2 : Int32} {h : TH} {C : Int32 → Prop} (ht : is7 t) (hL : Lay h) (hW : B112_2 t a1 x2 h C) : xEk (d + 1) 112 (2, [(0, .ref t), (1, .int a1), (2, .int x2)], [], h.X) (qostI h C) := by
  refine hW (fun s => xEk (d + 1) 112 (2, [(0, .ref t), (1, .int a1), (2, .int s)], [], (TH.X (h))) (qostI h C)) ?_
  rintro x2 hW 
  have k2 : ∀ s : Int32, (fun s => xEk (d + 1) 112 (2, [(0, .ref t), (1, .int a1), (2, .int s)], [], (TH.X (h))) (qostI h C)) s → xEk (d + 1) 112 (2, [(0, .ref t), (1, .int a1), (2, .int s)], [], (TH.X (h))) (qostI h C) := fun s hs => hs
  unfold F112_2 at hW
  dsimp only at hW
  iterate 2 (refine kst rfl rfl ?_)
  refine wgetI rfl (oK7 hL ht) rfl ?_
  refine wcm_ge rfl hW (fun hW => ?_) (fun hW => ?_)
  · refine kst rfl rfl ?_
    refine kre rfl rfl ?_
    exact ⟨_, rfl, hW⟩
  · iterate 2 (refine kst rfl rfl ?_)
    refine wgetP (b := (t + 1)) rfl (oK7 hL ht) rfl (oP7_0 hL ht) ?_
    refine kst rfl rfl ?_
    obtain ⟨q1, hW⟩ := hW
    refine wald rfl (Or.inl (aK7_0 hL ht)) (aN7_0 hL ht) (by decide) q1 ?_
    refine kst rfl rfl ?_
    refine qcaI rfl rfl (R327 (d := d + 0) (h := h) hL hW) (fun v1 hW => ?_)
    refine kst rfl rfl ?_
    refine wgetP (b := (t + 2)) rfl (oK7 hL ht) rfl (oP7_1 hL ht) ?_
    refine kst rfl rfl ?_
    obtain ⟨q2, hW⟩ := hW
    refine wald rfl (Or.inl (aK7_1 hL ht)) (aN7_1 hL ht) (by decide) q2 ?_
    refine wcm_le rfl hW (fun hW => ?_) (fun hW => ?_)
    · iterate 2 (refine kst rfl rfl ?_)
      have z9 := k2 (x2 + 1) hW
      refine wjp ?_ z9
      exact ⟨rfl, rfl, rfl, trivial⟩
    · refine kst rfl rfl ?_
      refine kre rfl rfl ?_
      exact ⟨_, rfl, hW⟩
theorem R112 {d : Nat} {t : Nat} {a1 : Int32} {h : TH} {C : Int32 → Prop} (ht : is7 t) (hL : Lay h) (hW : W112 t a1 h C) : xPk (d + 1) 112 [.ref t, .int a1] h.X (qostI h C) := by
  unfold W112 at hW
  refine kin (Nat.le_of_ble_eq_true rfl) ?_
  iterate 2 (refine kst rfl rfl ?_)
  refine wjp ?_ (R112_2 (h := h) ht hL hW)
  exact ⟨rfl, rfl, rfl, trivial⟩
/-- 23: Hand leave -/
def W23 (t : Nat) (a1 : Int32) (h : TH) (C : TH → Prop) : Prop :=
  C ((h.sI t 0 ((h.I t 0) &&& (a1 ^^^ (-1)))).sI t 1 (((h.sI t 0 ((h.I t 0) &&& (a1 ^^^ (-1)))).I t 1) &&& (a1 ^^^ (-1))))

theorem R23 {d : Nat} {t : Nat} {a1 : Int32} {h : TH} {C : TH → Prop} (ht : is1 t) (hL : Lay h) (hW : W23 t a1 h C) : xPk d 23 [.ref t, .int a1] h.X (postV C) := by
  unfold W23 at hW
  refine kin (Nat.le_of_ble_eq_true rfl) ?_
  iterate 2 (refine kst rfl rfl ?_)
  refine wgetI rfl (oK1 hL ht) rfl ?_
  iterate 4 (refine kst rfl rfl ?_)
  refine wputI rfl (oK1 hL ht) rfl ?_
  replace hL : Lay (h.sI t 0 ((h.I t 0) &&& (a1 ^^^ (-1)))) := lsI hL
  iterate 2 (refine kst rfl rfl ?_)
  refine wgetI rfl (oK1 hL ht) rfl ?_
  iterate 4 (refine kst rfl rfl ?_)
  refine wputI rfl (oK1 hL ht) rfl ?_
  replace hL : Lay ((h.sI t 0 ((h.I t 0) &&& (a1 ^^^ (-1)))).sI t 1 (((h.sI t 0 ((h.I t 0) &&& (a1 ^^^ (-1)))).I t 1) &&& (a1 ^^^ (-1)))) := lsI hL
  refine kre rfl rfl ?_
  exact ⟨_, rfl, hL, hW⟩
/-- 62: Menu leadsGroup -/
def W62 (t : Nat) (a1 : Int32) (h : TH) (C : Int32 → Prop) : Prop :=
  inb a1 12 ∧ if (h.I (t + 7) (ix a1)) = (-1) then (C 1) else (inb a1 12 ∧ if (h.I (t + 7) (ix a1)) ≤ a1 then (C 0) else (C 1))

theorem R62 {d : Nat} {t : Nat} {a1 : Int32} {h : TH} {C : Int32 → Prop} (ht : is3 t) (hL : Lay h) (hW : W62 t a1 h C) : xPk d 62 [.ref t, .int a1] h.X (qostI h C) := by
  unfold W62 at hW
  refine kin (Nat.le_of_ble_eq_true rfl) ?_
  refine kst rfl rfl ?_
  refine wgetP (b := (t + 7)) rfl (oK3 hL ht) rfl (oP3_11 hL ht) ?_
  refine kst rfl rfl ?_
  obtain ⟨q1, hW⟩ := hW
  refine wald rfl (Or.inl (aK3_11 hL ht)) (aN3_11 hL ht) (by decide) q1 ?_
  refine kst rfl rfl ?_
  refine wcm_eq rfl hW (fun hW => ?_) (fun hW => ?_)
  · iterate 2 (refine kst rfl rfl ?_)
    refine kre rfl rfl ?_
    exact ⟨_, rfl, hW⟩
  · refine kst rfl rfl ?_
    refine wgetP (b := (t + 7)) rfl (oK3 hL ht) rfl (oP3_11 hL ht) ?_
    refine kst rfl rfl ?_
    obtain ⟨q2, hW⟩ := hW
    refine wald rfl (Or.inl (aK3_11 hL ht)) (aN3_11 hL ht) (by decide) q2 ?_
    refine kst rfl rfl ?_
    refine wcm_le rfl hW (fun hW => ?_) (fun hW => ?_)
    · refine kst rfl rfl ?_
      refine kre rfl rfl ?_
      exact ⟨_, rfl, hW⟩
    · iterate 2 (refine kst rfl rfl ?_)
      refine kre rfl rfl ?_
      exact ⟨_, rfl, hW⟩
/-- 25: Hand nextDraw -/
def W25 (t : Nat) (h : TH) (C : Int32 → TH → Prop) : Prop :=
  C (irem (((h.sI t 11 (irem (((h.I t 11) * 2903) + 8819) 65536)).I t 11) / 8) 16) (h.sI t 11 (irem (((h.I t 11) * 2903) + 8819) 65536))

theorem R25 {d : Nat} {t : Nat} {h : TH} {C : Int32 → TH → Prop} (ht : is1 t) (hL : Lay h) (hW : W25 t h C) : xPk d 25 [.ref t] h.X (postI C) := by
  unfold W25 at hW
  refine kin (Nat.le_of_ble_eq_true rfl) ?_
  iterate 2 (refine kst rfl rfl ?_)
  refine wgetI rfl (oK1 hL ht) rfl ?_
  iterate 5 (refine kst rfl rfl ?_)
  refine wrem rfl (by decide) ?_
  refine wputI rfl (oK1 hL ht) rfl ?_
  replace hL : Lay (h.sI t 11 (irem (((h.I t 11) * 2903) + 8819) 65536)) := lsI hL
  refine kst rfl rfl ?_
  refine wgetI rfl (oK1 hL ht) rfl ?_
  refine kst rfl rfl ?_
  refine wdiv rfl (by decide) ?_
  refine kst rfl rfl ?_
  refine wrem rfl (by decide) ?_
  refine kre rfl rfl ?_
  exact ⟨_, _, rfl, hL, hW⟩
/-- 24: Hand arrive -/
def B24_40 (t : Nat) (a2 : Int32) (h : TH) (C : TH → Prop) : Prop :=
  inb a2 12 ∧ C ((h.sI t 0 ((h.I t 0) ||| (ishl 1 a2))).sI (t + 1) (ix a2) (((h.sI t 0 ((h.I t 0) ||| (ishl 1 a2))).I t 4) + 1))
def W24 (t : Nat) (a1 : Nat) (a2 : Int32) (h : TH) (C : TH → Prop) : Prop :=
  if (h.I t 10) = 0 then (B24_40 t a2 h C) else (inb a2 12 ∧ if (h.I (a1 + 5) (ix a2)) ≤ 0 then (B24_40 t a2 h C) else (W25 t h (fun v1 h2 => inb a2 12 ∧ if (h2.I (a1 + 5) (ix a2)) ≤ v1 then (B24_40 t a2 h2 C) else (C (h2.sI t 8 ((h2.I t 8) + 1))))))

theorem R24_40 {d : Nat} {t : Nat} {a2 : Int32} {h : TH} {C : TH → Prop} (ht : is1 t) (hL : Lay h) (hW : B24_40 t a2 h C) : xEk (d + 1) 24 (40, [(0, .ref t), (2, .int a2)], [], h.X) (postV C) := by
  unfold B24_40 at hW
  iterate 2 (refine kst rfl rfl ?_)
  refine wgetI rfl (oK1 hL ht) rfl ?_
  iterate 4 (refine kst rfl rfl ?_)
  refine wputI rfl (oK1 hL ht) rfl ?_
  replace hL : Lay (h.sI t 0 ((h.I t 0) ||| (ishl 1 a2))) := lsI hL
  refine kst rfl rfl ?_
  refine wgetP (b := (t + 1)) rfl (oK1 hL ht) rfl (oP1_2 hL ht) ?_
  iterate 2 (refine kst rfl rfl ?_)
  refine wgetI rfl (oK1 hL ht) rfl ?_
  iterate 2 (refine kst rfl rfl ?_)
  obtain ⟨q1, hW⟩ := hW
  refine wast rfl (aK1_2 hL ht) (aN1_2 hL ht) (by decide) q1 ?_
  replace hL : Lay ((h.sI t 0 ((h.I t 0) ||| (ishl 1 a2))).sI (t + 1) (ix a2) (((h.sI t 0 ((h.I t 0) ||| (ishl 1 a2))).I t 4) + 1)) := lsI hL
  refine kre rfl rfl ?_
  exact ⟨_, rfl, hL, hW⟩
theorem R24 {d : Nat} {t : Nat} {a1 : Nat} {a2 : Int32} {h : TH} {C : TH → Prop} (ht : is1 t) (ha1 : is3 a1) (hL : Lay h) (hW : W24 t a1 a2 h C) : xPk (d + 1) 24 [.ref t, .ref a1, .int a2] h.X (postV C) := by
  unfold W24 at hW
  refine kin (Nat.le_of_ble_eq_true rfl) ?_
  refine kst rfl rfl ?_
  refine wgetI rfl (oK1 hL ht) rfl ?_
  refine wif_eq rfl hW (fun hW => ?_) (fun hW => ?_)
  · refine wjp ?_ (R24_40 (h := h) ht hL hW)
    exact ⟨rfl, rfl, trivial⟩
  · refine kst rfl rfl ?_
    refine wgetP (b := (a1 + 5)) rfl (oK3 hL ha1) rfl (oP3_9 hL ha1) ?_
    refine kst rfl rfl ?_
    obtain ⟨q1, hW⟩ := hW
    refine wald rfl (Or.inl (aK3_9 hL ha1)) (aN3_9 hL ha1) (by decide) q1 ?_
    refine wif_le rfl hW (fun hW => ?_) (fun hW => ?_)
    · refine wjp ?_ (R24_40 (h := h) ht hL hW)
      exact ⟨rfl, rfl, trivial⟩
    · refine kst rfl rfl ?_
      refine wcvI rfl (oK1 hL ht) rfl rfl (R25 (d := d + 0) (h := h) ht hL hW) (fun v1 h2 hL hW => ?_)
      refine kst rfl rfl ?_
      refine wgetP (b := (a1 + 5)) rfl (oK3 hL ha1) rfl (oP3_9 hL ha1) ?_
      refine kst rfl rfl ?_
      obtain ⟨q2, hW⟩ := hW
      refine wald rfl (Or.inl (aK3_9 hL ha1)) (aN3_9 hL ha1) (by decide) q2 ?_
      refine wcm_ge rfl hW (fun hW => ?_) (fun hW => ?_)
      · refine wjp ?_ (R24_40 (h := h2) ht hL hW)
        exact ⟨rfl, rfl, trivial⟩
      · iterate 2 (refine kst rfl rfl ?_)
        refine wgetI rfl (oK1 hL ht) rfl ?_
        iterate 2 (refine kst rfl rfl ?_)
        refine wputI rfl (oK1 hL ht) rfl ?_
        replace hL : Lay (h2.sI t 8 ((h2.I t 8) + 1)) := lsI hL
        refine kre rfl rfl ?_
        exact ⟨_, rfl, hL, hW⟩
/-- 18: Hand doMake -/
def B18_52 (t : Nat) (a1 : Nat) (a2 : Int32) (h : TH) (C : Int32 → TH → Prop) : Prop :=
  C 0 h
def B18_104 (t : Nat) (a1 : Nat) (s0 : Int32) (h : TH) (C : Int32 → TH → Prop) : Prop :=
  W24 t a1 s0 h (fun h5 => W61 a1 s0 h5 (fun v6 => if ¬ v6 = 0 then (C 1 h5) else (inb s0 12 ∧ W24 t a1 (h5.I (a1 + 7) (ix s0)) h5 (fun h7 => C 1 h7))))
def W18 (t : Nat) (a1 : Nat) (a2 : Int32) (h : TH) (C : Int32 → TH → Prop) : Prop :=
  inb a2 12 ∧ if ¬ ((h.I t 0) &&& (h.I (a1 + 9) (ix a2))) = 0 then (B18_52 t a1 a2 h C) else (inb a2 12 ∧ if ¬ ((h.I (a1 + 10) (ix a2)) &&& ((h.I t 0) ^^^ (-1))) = 0 then (B18_52 t a1 a2 h C) else (W112 (a1 + 12) ((h.I t 0) ||| (h.I (a1 + 9) (ix a2))) h (fun v1 => if v1 = 0 then (B18_52 t a1 a2 h C) else (inb a2 12 ∧ W63 a1 a2 (h.sI t 3 ((h.I t 3) + (h.I (a1 + 11) (ix a2)))) (fun v2 => W23 t v2 (h.sI t 3 ((h.I t 3) + (h.I (a1 + 11) (ix a2)))) (fun h3 => W62 a1 a2 h3 (fun v4 => if v4 = 0 then (inb a2 12 ∧ B18_104 t a1 (h3.I (a1 + 7) (ix a2)) h3 C) else (B18_104 t a1 a2 h3 C))))))))

theorem R18_52 {d : Nat} {t : Nat} {a1 : Nat} {a2 : Int32} {h : TH} {C : Int32 → TH → Prop} (ht : is1 t) (ha1 : is3 a1) (hL : Lay h) (hW : B18_52 t a1 a2 h C) : xEk (d + 2) 18 (52, [(0, .ref t), (1, .ref a1), (2, .int a2)], [], h.X) (postI C) := by
  unfold B18_52 at hW
  iterate 3 (refine kst rfl rfl ?_)
  refine kif_ne rfl (fun c9 => absurd c9 (by decide)) (fun _ => ?_)
  refine kst rfl rfl ?_
  refine kre rfl rfl ?_
  exact ⟨_, _, rfl, hL, hW⟩
theorem R18_104 {d : Nat} {t : Nat} {a1 : Nat} {s0 : Int32} {h : TH} {C : Int32 → TH → Prop} (ht : is1 t) (ha1 : is3 a1) (hL : Lay h) (hW : B18_104 t a1 s0 h C) : xEk (d + 2) 18 (104, [(0, .ref t), (1, .ref a1)], [.int s0], h.X) (postI C) := by
  unfold B18_104 at hW
  iterate 4 (refine kst rfl rfl ?_)
  refine wcvV rfl (oK1 hL ht) rfl rfl (R24 (d := d + 0) (h := h) ht ha1 hL hW) (fun h5 hL hW => ?_)
  iterate 2 (refine kst rfl rfl ?_)
  refine qcvI rfl (oK3 hL ha1) rfl rfl (R61 (d := d + 1) (h := h5) ha1 hL hW) (fun v6 hW => ?_)
  refine wif_ne rfl hW (fun hW => ?_) (fun hW => ?_)
  · refine kst rfl rfl ?_
    refine kre rfl rfl ?_
    exact ⟨_, _, rfl, hL, hW⟩
  · iterate 3 (refine kst rfl rfl ?_)
    refine wgetP (b := (a1 + 7)) rfl (oK3 hL ha1) rfl (oP3_11 hL ha1) ?_
    refine kst rfl rfl ?_
    obtain ⟨q5, hW⟩ := hW
    refine wald rfl (Or.inl (aK3_11 hL ha1)) (aN3_11 hL ha1) (by decide) q5 ?_
    refine wcvV rfl (oK1 hL ht) rfl rfl (R24 (d := d + 0) (h := h5) ht ha1 hL hW) (fun h7 hL hW => ?_)
    refine kst rfl rfl ?_
    refine kre rfl rfl ?_
    exact ⟨_, _, rfl, hL, hW⟩
theorem R18 {d : Nat} {t : Nat} {a1 : Nat} {a2 : Int32} {h : TH} {C : Int32 → TH → Prop} (ht : is1 t) (ha1 : is3 a1) (hL : Lay h) (hW : W18 t a1 a2 h C) : xPk (d + 2) 18 [.ref t, .ref a1, .int a2] h.X (postI C) := by
  unfold W18 at hW
  refine kin (Nat.le_of_ble_eq_true rfl) ?_
  refine kst rfl rfl ?_
  refine wgetP (b := (a1 + 9)) rfl (oK3 hL ha1) rfl (oP3_13 hL ha1) ?_
  refine kst rfl rfl ?_
  obtain ⟨q1, hW⟩ := hW
  refine wald rfl (Or.inl (aK3_13 hL ha1)) (aN3_13 hL ha1) (by decide) q1 ?_
  iterate 2 (refine kst rfl rfl ?_)
  refine wgetI rfl (oK1 hL ht) rfl ?_
  iterate 2 (refine kst rfl rfl ?_)
  refine wif_ne rfl hW (fun hW => ?_) (fun hW => ?_)
  · refine wjp ?_ (R18_52 (h := h) ht ha1 hL hW)
    exact ⟨rfl, rfl, rfl, trivial⟩
  · refine kst rfl rfl ?_
    refine wgetP (b := (a1 + 10)) rfl (oK3 hL ha1) rfl (oP3_14 hL ha1) ?_
    refine kst rfl rfl ?_
    obtain ⟨q2, hW⟩ := hW
    refine wald rfl (Or.inl (aK3_14 hL ha1)) (aN3_14 hL ha1) (by decide) q2 ?_
    refine kst rfl rfl ?_
    refine wgetI rfl (oK1 hL ht) rfl ?_
    iterate 3 (refine kst rfl rfl ?_)
    refine wif_ne rfl hW (fun hW => ?_) (fun hW => ?_)
    · refine wjp ?_ (R18_52 (h := h) ht ha1 hL hW)
      exact ⟨rfl, rfl, rfl, trivial⟩
    · refine kst rfl rfl ?_
      refine wgetP (b := (a1 + 12)) rfl (oK3 hL ha1) rfl (oP3_16 hL ha1) ?_
      refine kst rfl rfl ?_
      refine wgetI rfl (oK1 hL ht) rfl ?_
      iterate 2 (refine kst rfl rfl ?_)
      refine qcvI rfl (oK7 hL (is_3_16 ha1)) rfl rfl (R112 (d := d + 0) (h := h) (is_3_16 ha1) hL hW) (fun v1 hW => ?_)
      refine wif_eq rfl hW (fun hW => ?_) (fun hW => ?_)
      · refine wjp ?_ (R18_52 (h := h) ht ha1 hL hW)
        exact ⟨rfl, rfl, rfl, trivial⟩
      · iterate 4 (refine kst rfl rfl ?_)
        refine kif_ne rfl (fun _ => ?_) (fun c9 => absurd c9 (by decide))
        iterate 2 (refine kst rfl rfl ?_)
        refine wgetI rfl (oK1 hL ht) rfl ?_
        refine kst rfl rfl ?_
        refine wgetP (b := (a1 + 11)) rfl (oK3 hL ha1) rfl (oP3_15 hL ha1) ?_
        refine kst rfl rfl ?_
        obtain ⟨q3, hW⟩ := hW
        refine wald rfl (Or.inl (aK3_15 hL ha1)) (aN3_15 hL ha1) (by decide) q3 ?_
        refine kst rfl rfl ?_
        refine wputI rfl (oK1 hL ht) rfl ?_
        replace hL : Lay (h.sI t 3 ((h.I t 3) + (h.I (a1 + 11) (ix a2)))) := lsI hL
        iterate 3 (refine kst rfl rfl ?_)
        refine qcvI rfl (oK3 hL ha1) rfl rfl (R63 (d := d + 1) (h := (h.sI t 3 ((h.I t 3) + (h.I (a1 + 11) (ix a2))))) ha1 hL hW) (fun v2 hW => ?_)
        refine wcvV rfl (oK1 hL ht) rfl rfl (R23 (d := d + 1) (h := (h.sI t 3 ((h.I t 3) + (h.I (a1 + 11) (ix a2))))) ht hL hW) (fun h3 hL hW => ?_)
        iterate 2 (refine kst rfl rfl ?_)
        refine qcvI rfl (oK3 hL ha1) rfl rfl (R62 (d := d + 1) (h := h3) ha1 hL hW) (fun v4 hW => ?_)
        refine wif_eq rfl hW (fun hW => ?_) (fun hW => ?_)
        · refine kst rfl rfl ?_
          refine wgetP (b := (a1 + 7)) rfl (oK3 hL ha1) rfl (oP3_11 hL ha1) ?_
          refine kst rfl rfl ?_
          obtain ⟨q4, hW⟩ := hW
          refine wald rfl (Or.inl (aK3_11 hL ha1)) (aN3_11 hL ha1) (by decide) q4 ?_
          refine wjp ?_ (R18_104 (h := h3) ht ha1 hL hW)
          exact ⟨rfl, rfl, trivial⟩
        · iterate 2 (refine kst rfl rfl ?_)
          refine wjp ?_ (R18_104 (h := h3) ht ha1 hL hW)
          exact ⟨rfl, rfl, trivial⟩
/-- 19: Hand doPour -/
def B19_95 (t : Nat) (a1 : Nat) (a2 : Int32) (x5 : Int32) (h : TH) (C : Int32 → TH → Prop) : Prop :=
  C 0 h
def W19 (t : Nat) (a1 : Nat) (a2 : Int32) (a3 : Int32) (h : TH) (C : Int32 → TH → Prop) : Prop :=
  W60 a1 a2 h (fun v1 => if v1 = 0 then (B19_95 t a1 a2 (ishl 1 a3) h C) else (W61 a1 a2 h (fun v2 => if v2 = 0 then (B19_95 t a1 a2 (ishl 1 a3) h C) else (if ¬ ((h.I t 0) &&& (ishl 1 a2)) = 0 then (B19_95 t a1 a2 (ishl 1 a3) h C) else (inb a2 12 ∧ if ¬ ((h.I (a1 + 6) (ix a2)) &&& ((h.I t 0) ^^^ (-1))) = 0 then (B19_95 t a1 a2 (ishl 1 a3) h C) else (inb a2 12 ∧ W17 t h (fun v3 => if (((h.I (a1 + 6) (ix a2)) &&& v3) &&& (ishl 1 a3)) = 0 then (B19_95 t a1 a2 (ishl 1 a3) h C) else (W112 (a1 + 12) (((h.I t 0) &&& ((ishl 1 a3) ^^^ (-1))) ||| (ishl 1 a2)) h (fun v4 => if v4 = 0 then (B19_95 t a1 a2 (ishl 1 a3) h C) else (inb a2 12 ∧ W63 a1 a2 (h.sI t 3 ((h.I t 3) + (h.I (a1 + 2) (ix a2)))) (fun v5 => W23 t (v5 ||| (ishl 1 a3)) (h.sI t 3 ((h.I t 3) + (h.I (a1 + 2) (ix a2)))) (fun h6 => W24 t a1 a2 h6 (fun h7 => C 1 h7)))))))))))))

theorem R19_95 {d : Nat} {t : Nat} {a1 : Nat} {a2 : Int32} {x5 : Int32} {h : TH} {C : Int32 → TH → Prop} (ht : is1 t) (ha1 : is3 a1) (hL : Lay h) (hW : B19_95 t a1 a2 x5 h C) : xEk (d + 2) 19 (95, [(0, .ref t), (1, .ref a1), (2, .int a2), (5, .int x5)], [], h.X) (postI C) := by
  unfold B19_95 at hW
  iterate 3 (refine kst rfl rfl ?_)
  refine kif_ne rfl (fun c9 => absurd c9 (by decide)) (fun _ => ?_)
  refine kst rfl rfl ?_
  refine kre rfl rfl ?_
  exact ⟨_, _, rfl, hL, hW⟩
theorem R19 {d : Nat} {t : Nat} {a1 : Nat} {a2 : Int32} {a3 : Int32} {h : TH} {C : Int32 → TH → Prop} (ht : is1 t) (ha1 : is3 a1) (hL : Lay h) (hW : W19 t a1 a2 a3 h C) : xPk (d + 2) 19 [.ref t, .ref a1, .int a2, .int a3] h.X (postI C) := by
  unfold W19 at hW
  refine kin (Nat.le_of_ble_eq_true rfl) ?_
  iterate 10 (refine kst rfl rfl ?_)
  refine qcvI rfl (oK3 hL ha1) rfl rfl (R60 (d := d + 1) (h := h) ha1 hL hW) (fun v1 hW => ?_)
  refine wif_eq rfl hW (fun hW => ?_) (fun hW => ?_)
  · refine wjp ?_ (R19_95 (h := h) ht ha1 hL hW)
    exact ⟨rfl, rfl, rfl, rfl, trivial⟩
  · iterate 2 (refine kst rfl rfl ?_)
    refine qcvI rfl (oK3 hL ha1) rfl rfl (R61 (d := d + 1) (h := h) ha1 hL hW) (fun v2 hW => ?_)
    refine wif_eq rfl hW (fun hW => ?_) (fun hW => ?_)
    · refine wjp ?_ (R19_95 (h := h) ht ha1 hL hW)
      exact ⟨rfl, rfl, rfl, rfl, trivial⟩
    · refine kst rfl rfl ?_
      refine wgetI rfl (oK1 hL ht) rfl ?_
      iterate 2 (refine kst rfl rfl ?_)
      refine wif_ne rfl hW (fun hW => ?_) (fun hW => ?_)
      · refine wjp ?_ (R19_95 (h := h) ht ha1 hL hW)
        exact ⟨rfl, rfl, rfl, rfl, trivial⟩
      · refine kst rfl rfl ?_
        refine wgetP (b := (a1 + 6)) rfl (oK3 hL ha1) rfl (oP3_10 hL ha1) ?_
        refine kst rfl rfl ?_
        obtain ⟨q1, hW⟩ := hW
        refine wald rfl (Or.inl (aK3_10 hL ha1)) (aN3_10 hL ha1) (by decide) q1 ?_
        refine kst rfl rfl ?_
        refine wgetI rfl (oK1 hL ht) rfl ?_
        iterate 3 (refine kst rfl rfl ?_)
        refine wif_ne rfl hW (fun hW => ?_) (fun hW => ?_)
        · refine wjp ?_ (R19_95 (h := h) ht ha1 hL hW)
          exact ⟨rfl, rfl, rfl, rfl, trivial⟩
        · refine kst rfl rfl ?_
          refine wgetP (b := (a1 + 6)) rfl (oK3 hL ha1) rfl (oP3_10 hL ha1) ?_
          refine kst rfl rfl ?_
          obtain ⟨q2, hW⟩ := hW
          refine wald rfl (Or.inl (aK3_10 hL ha1)) (aN3_10 hL ha1) (by decide) q2 ?_
          refine kst rfl rfl ?_
          refine qcvI rfl (oK1 hL ht) rfl rfl (R17 (d := d + 1) (h := h) ht hL hW) (fun v3 hW => ?_)
          iterate 3 (refine kst rfl rfl ?_)
          refine wif_eq rfl hW (fun hW => ?_) (fun hW => ?_)
          · refine wjp ?_ (R19_95 (h := h) ht ha1 hL hW)
            exact ⟨rfl, rfl, rfl, rfl, trivial⟩
          · refine kst rfl rfl ?_
            refine wgetP (b := (a1 + 12)) rfl (oK3 hL ha1) rfl (oP3_16 hL ha1) ?_
            refine kst rfl rfl ?_
            refine wgetI rfl (oK1 hL ht) rfl ?_
            iterate 6 (refine kst rfl rfl ?_)
            refine qcvI rfl (oK7 hL (is_3_16 ha1)) rfl rfl (R112 (d := d + 0) (h := h) (is_3_16 ha1) hL hW) (fun v4 hW => ?_)
            refine wif_eq rfl hW (fun hW => ?_) (fun hW => ?_)
            · refine wjp ?_ (R19_95 (h := h) ht ha1 hL hW)
              exact ⟨rfl, rfl, rfl, rfl, trivial⟩
            · iterate 4 (refine kst rfl rfl ?_)
              refine kif_ne rfl (fun _ => ?_) (fun c9 => absurd c9 (by decide))
              iterate 2 (refine kst rfl rfl ?_)
              refine wgetI rfl (oK1 hL ht) rfl ?_
              refine kst rfl rfl ?_
              refine wgetP (b := (a1 + 2)) rfl (oK3 hL ha1) rfl (oP3_6 hL ha1) ?_
              refine kst rfl rfl ?_
              obtain ⟨q3, hW⟩ := hW
              refine wald rfl (Or.inl (aK3_6 hL ha1)) (aN3_6 hL ha1) (by decide) q3 ?_
              refine kst rfl rfl ?_
              refine wputI rfl (oK1 hL ht) rfl ?_
              replace hL : Lay (h.sI t 3 ((h.I t 3) + (h.I (a1 + 2) (ix a2)))) := lsI hL
              iterate 3 (refine kst rfl rfl ?_)
              refine qcvI rfl (oK3 hL ha1) rfl rfl (R63 (d := d + 1) (h := (h.sI t 3 ((h.I t 3) + (h.I (a1 + 2) (ix a2))))) ha1 hL hW) (fun v5 hW => ?_)
              iterate 2 (refine kst rfl rfl ?_)
              refine wcvV rfl (oK1 hL ht) rfl rfl (R23 (d := d + 1) (h := (h.sI t 3 ((h.I t 3) + (h.I (a1 + 2) (ix a2))))) ht hL hW) (fun h6 hL hW => ?_)
              iterate 3 (refine kst rfl rfl ?_)
              refine wcvV rfl (oK1 hL ht) rfl rfl (R24 (d := d + 0) (h := h6) ht ha1 hL hW) (fun h7 hL hW => ?_)
              refine kst rfl rfl ?_
              refine kre rfl rfl ?_
              exact ⟨_, _, rfl, hL, hW⟩
/-- 20: Hand doWash -/
def W20 (t : Nat) (a1 : Int32) (h : TH) (C : Int32 → TH → Prop) : Prop :=
  W17 t h (fun v1 => if ¬ (v1 &&& (ishl 1 a1)) = 0 then (W23 t (ishl 1 a1) h (fun h2 => C 1 h2)) else (C 0 h))

theorem R20 {d : Nat} {t : Nat} {a1 : Int32} {h : TH} {C : Int32 → TH → Prop} (ht : is1 t) (hL : Lay h) (hW : W20 t a1 h C) : xPk (d + 1) 20 [.ref t, .int a1] h.X (postI C) := by
  unfold W20 at hW
  refine kin (Nat.le_of_ble_eq_true rfl) ?_
  refine kst rfl rfl ?_
  refine qcvI rfl (oK1 hL ht) rfl rfl (R17 (d := d + 0) (h := h) ht hL hW) (fun v1 hW => ?_)
  iterate 4 (refine kst rfl rfl ?_)
  refine wif_ne rfl hW (fun hW => ?_) (fun hW => ?_)
  · iterate 4 (refine kst rfl rfl ?_)
    refine wcvV rfl (oK1 hL ht) rfl rfl (R23 (d := d + 0) (h := h) ht hL hW) (fun h2 hL hW => ?_)
    refine kst rfl rfl ?_
    refine kre rfl rfl ?_
    exact ⟨_, _, rfl, hL, hW⟩
  · refine kst rfl rfl ?_
    refine kre rfl rfl ?_
    exact ⟨_, _, rfl, hL, hW⟩
/-- 21: Hand doTrust -/
def W21 (t : Nat) (a1 : Nat) (a2 : Int32) (h : TH) (C : Int32 → TH → Prop) : Prop :=
  if ¬ ((h.I t 0) &&& (ishl 1 a2)) = 0 then (C 0 h) else (W112 (a1 + 12) ((h.I t 0) ||| (ishl 1 a2)) h (fun v1 => if ¬ v1 = 0 then (C 1 ((h.sI t 0 ((h.I t 0) ||| (ishl 1 a2))).sI t 1 (((h.sI t 0 ((h.I t 0) ||| (ishl 1 a2))).I t 1) ||| (ishl 1 a2)))) else (C 0 h)))

theorem R21 {d : Nat} {t : Nat} {a1 : Nat} {a2 : Int32} {h : TH} {C : Int32 → TH → Prop} (ht : is1 t) (ha1 : is3 a1) (hL : Lay h) (hW : W21 t a1 a2 h C) : xPk (d + 2) 21 [.ref t, .ref a1, .int a2] h.X (postI C) := by
  unfold W21 at hW
  refine kin (Nat.le_of_ble_eq_true rfl) ?_
  iterate 5 (refine kst rfl rfl ?_)
  refine wgetI rfl (oK1 hL ht) rfl ?_
  iterate 2 (refine kst rfl rfl ?_)
  refine wif_ne rfl hW (fun hW => ?_) (fun hW => ?_)
  · refine kst rfl rfl ?_
    refine kre rfl rfl ?_
    exact ⟨_, _, rfl, hL, hW⟩
  · refine kst rfl rfl ?_
    refine wgetP (b := (a1 + 12)) rfl (oK3 hL ha1) rfl (oP3_16 hL ha1) ?_
    refine kst rfl rfl ?_
    refine wgetI rfl (oK1 hL ht) rfl ?_
    iterate 2 (refine kst rfl rfl ?_)
    refine qcvI rfl (oK7 hL (is_3_16 ha1)) rfl rfl (R112 (d := d + 0) (h := h) (is_3_16 ha1) hL hW) (fun v1 hW => ?_)
    refine wif_ne rfl hW (fun hW => ?_) (fun hW => ?_)
    · iterate 2 (refine kst rfl rfl ?_)
      refine wgetI rfl (oK1 hL ht) rfl ?_
      iterate 2 (refine kst rfl rfl ?_)
      refine wputI rfl (oK1 hL ht) rfl ?_
      replace hL : Lay (h.sI t 0 ((h.I t 0) ||| (ishl 1 a2))) := lsI hL
      iterate 2 (refine kst rfl rfl ?_)
      refine wgetI rfl (oK1 hL ht) rfl ?_
      iterate 2 (refine kst rfl rfl ?_)
      refine wputI rfl (oK1 hL ht) rfl ?_
      replace hL : Lay ((h.sI t 0 ((h.I t 0) ||| (ishl 1 a2))).sI t 1 (((h.sI t 0 ((h.I t 0) ||| (ishl 1 a2))).I t 1) ||| (ishl 1 a2))) := lsI hL
      refine kst rfl rfl ?_
      refine kre rfl rfl ?_
      exact ⟨_, _, rfl, hL, hW⟩
    · refine kst rfl rfl ?_
      refine kre rfl rfl ?_
      exact ⟨_, _, rfl, hL, hW⟩
/-- 22: Hand doShow -/
def W22 (t : Nat) (a1 : Nat) (a2 : Int32) (h : TH) (C : Int32 → TH → Prop) : Prop :=
  if ((h.I t 1) &&& (ishl 1 a2)) = 0 then (C 0 h) else (inb a2 12 ∧ if ((h.I (a1 + 6) (ix a2)) &&& ((h.I t 0) ^^^ (-1))) = 0 then (W23 t (ishl 1 a2) h (fun h1 => C 1 h1)) else (C 0 h))

theorem R22 {d : Nat} {t : Nat} {a1 : Nat} {a2 : Int32} {h : TH} {C : Int32 → TH → Prop} (ht : is1 t) (ha1 : is3 a1) (hL : Lay h) (hW : W22 t a1 a2 h C) : xPk (d + 1) 22 [.ref t, .ref a1, .int a2] h.X (postI C) := by
  unfold W22 at hW
  refine kin (Nat.le_of_ble_eq_true rfl) ?_
  refine kst rfl rfl ?_
  refine wgetI rfl (oK1 hL ht) rfl ?_
  iterate 4 (refine kst rfl rfl ?_)
  refine wif_eq rfl hW (fun hW => ?_) (fun hW => ?_)
  · refine kst rfl rfl ?_
    refine kre rfl rfl ?_
    exact ⟨_, _, rfl, hL, hW⟩
  · refine kst rfl rfl ?_
    refine wgetP (b := (a1 + 6)) rfl (oK3 hL ha1) rfl (oP3_10 hL ha1) ?_
    refine kst rfl rfl ?_
    obtain ⟨q1, hW⟩ := hW
    refine wald rfl (Or.inl (aK3_10 hL ha1)) (aN3_10 hL ha1) (by decide) q1 ?_
    refine kst rfl rfl ?_
    refine wgetI rfl (oK1 hL ht) rfl ?_
    iterate 3 (refine kst rfl rfl ?_)
    refine wif_eq rfl hW (fun hW => ?_) (fun hW => ?_)
    · iterate 4 (refine kst rfl rfl ?_)
      refine wcvV rfl (oK1 hL ht) rfl rfl (R23 (d := d + 0) (h := h) ht hL hW) (fun h1 hL hW => ?_)
      refine kst rfl rfl ?_
      refine kre rfl rfl ?_
      exact ⟨_, _, rfl, hL, hW⟩
    · refine kst rfl rfl ?_
      refine kre rfl rfl ?_
      exact ⟨_, _, rfl, hL, hW⟩
/-- 26: Hand endStep -/
def B26_44 (t : Nat) (a1 : Nat) (x2 : Int32) (h : TH) (C : TH → Prop) (X12 : Int32 × TH → Prop) : Prop :=
  X12 ((x2 + 1), h)
def F26_12 (t : Nat) (a1 : Nat) (C : TH → Prop) (X12 : Int32 × TH → Prop) : Int32 × TH → Prop := fun
  | (x2, h) =>
    if (h.I a1 1) ≤ x2 then (W327 (h.I t 0) h (fun v1 => C (h.sI t 7 (imax (h.I t 7) v1)))) else (W17 t h (fun v2 => if (v2 &&& (ishl 1 x2)) = 0 then (B26_44 t a1 x2 h C X12) else (inb x2 12 ∧ if (h.I (a1 + 4) (ix x2)) ≤ 0 then (B26_44 t a1 x2 h C X12) else (inb x2 12 ∧ inb x2 12 ∧ if ((h.I t 4) - (h.I (t + 1) (ix x2))) < (h.I (a1 + 4) (ix x2)) then (X12 ((x2 + 1), h)) else (W23 t (ishl 1 x2) h (fun h3 => X12 ((x2 + 1), (h3.sI t 9 ((h3.I t 9) + 1)))))))))
def B26_12 (t : Nat) (a1 : Nat) (x2 : Int32) (h : TH) (C : TH → Prop) : Prop := LFP (F26_12 t a1 C) (x2, h)
def W26 (t : Nat) (a1 : Nat) (h : TH) (C : TH → Prop) : Prop :=
  B26_12 t a1 0 (h.sI t 4 ((h.I t 4) + 1)) C

theorem R26_44 {d : Nat} {t : Nat} {a1 : Nat} {x2 : Int32} {h : TH} {C : TH → Prop} {X12 : Int32 × TH → Prop} (k12 : ∀ s : Int32 × TH, X12 s → Lay (s.2) → xEk (d + 1) 26 (12, [(0, .ref t), (1, .ref a1), (2, .int (s.1))], [], (TH.X (s.2))) (postV C)) (ht : is1 t) (ha1 : is3 a1) (hL : Lay h) (hW : B26_44 t a1 x2 h C X12) : xEk (d + 1) 26 (44, [(0, .ref t), (1, .ref a1), (2, .int x2)], [], h.X) (postV C) := by
  unfold B26_44 at hW
  iterate 3 (refine kst rfl rfl ?_)
  refine kif_eq rfl (fun _ => ?_) (fun c9 => absurd c9 (by decide))
  iterate 2 (refine kst rfl rfl ?_)
  have z9 := k12 ((x2 + 1), h) hW hL
  refine wjp ?_ z9
  exact ⟨rfl, rfl, rfl, trivial⟩
theorem R26_12 {d : Nat} {t : Nat} {a1 : Nat} {x2 : Int32} {h : TH} {C : TH → Prop} (ht : is1 t) (ha1 : is3 a1) (hL : Lay h) (hW : B26_12 t a1 x2 h C) : xEk (d + 1) 26 (12, [(0, .ref t), (1, .ref a1), (2, .int x2)], [], h.X) (postV C) := by
  refine hW (fun s => Lay (s.2) → xEk (d + 1) 26 (12, [(0, .ref t), (1, .ref a1), (2, .int (s.1))], [], (TH.X (s.2))) (postV C)) ?_ hL
  rintro ⟨x2, h⟩ hW hL
  have k12 : ∀ s : Int32 × TH, (fun s => Lay (s.2) → xEk (d + 1) 26 (12, [(0, .ref t), (1, .ref a1), (2, .int (s.1))], [], (TH.X (s.2))) (postV C)) s → Lay (s.2) → xEk (d + 1) 26 (12, [(0, .ref t), (1, .ref a1), (2, .int (s.1))], [], (TH.X (s.2))) (postV C) := fun s hs => hs
  unfold F26_12 at hW
  dsimp only at hW
  iterate 2 (refine kst rfl rfl ?_)
  refine wgetI rfl (oK3 hL ha1) rfl ?_
  refine wcm_ge rfl hW (fun hW => ?_) (fun hW => ?_)
  · iterate 2 (refine kst rfl rfl ?_)
    refine wgetI rfl (oK1 hL ht) rfl ?_
    refine kst rfl rfl ?_
    refine wgetI rfl (oK1 hL ht) rfl ?_
    refine qcaI rfl rfl (R327 (d := d + 0) (h := h) hL hW) (fun v1 hW => ?_)
    refine kst rfl rfl ?_
    refine wputI rfl (oK1 hL ht) rfl ?_
    replace hL : Lay (h.sI t 7 (imax (h.I t 7) v1)) := lsI hL
    refine kre rfl rfl ?_
    exact ⟨_, rfl, hL, hW⟩
  · refine kst rfl rfl ?_
    refine qcvI rfl (oK1 hL ht) rfl rfl (R17 (d := d + 0) (h := h) ht hL hW) (fun v2 hW => ?_)
    iterate 4 (refine kst rfl rfl ?_)
    refine wif_eq rfl hW (fun hW => ?_) (fun hW => ?_)
    · refine wjp ?_ (R26_44 (h := h) k12 ht ha1 hL hW)
      exact ⟨rfl, rfl, rfl, trivial⟩
    · refine kst rfl rfl ?_
      refine wgetP (b := (a1 + 4)) rfl (oK3 hL ha1) rfl (oP3_8 hL ha1) ?_
      refine kst rfl rfl ?_
      obtain ⟨q1, hW⟩ := hW
      refine wald rfl (Or.inl (aK3_8 hL ha1)) (aN3_8 hL ha1) (by decide) q1 ?_
      refine wif_le rfl hW (fun hW => ?_) (fun hW => ?_)
      · refine wjp ?_ (R26_44 (h := h) k12 ht ha1 hL hW)
        exact ⟨rfl, rfl, rfl, trivial⟩
      · iterate 4 (refine kst rfl rfl ?_)
        refine kif_eq rfl (fun c9 => absurd c9 (by decide)) (fun _ => ?_)
        refine kst rfl rfl ?_
        refine wgetI rfl (oK1 hL ht) rfl ?_
        refine kst rfl rfl ?_
        refine wgetP (b := (t + 1)) rfl (oK1 hL ht) rfl (oP1_2 hL ht) ?_
        refine kst rfl rfl ?_
        obtain ⟨q2, hW⟩ := hW
        refine wald rfl (Or.inl (aK1_2 hL ht)) (aN1_2 hL ht) (by decide) q2 ?_
        iterate 2 (refine kst rfl rfl ?_)
        refine wgetP (b := (a1 + 4)) rfl (oK3 hL ha1) rfl (oP3_8 hL ha1) ?_
        refine kst rfl rfl ?_
        obtain ⟨q3, hW⟩ := hW
        refine wald rfl (Or.inl (aK3_8 hL ha1)) (aN3_8 hL ha1) (by decide) q3 ?_
        refine wcm_lt rfl hW (fun hW => ?_) (fun hW => ?_)
        · iterate 2 (refine kst rfl rfl ?_)
          have z9 := k12 ((x2 + 1), h) hW hL
          refine wjp ?_ z9
          exact ⟨rfl, rfl, rfl, trivial⟩
        · iterate 4 (refine kst rfl rfl ?_)
          refine wcvV rfl (oK1 hL ht) rfl rfl (R23 (d := d + 0) (h := h) ht hL hW) (fun h3 hL hW => ?_)
          iterate 2 (refine kst rfl rfl ?_)
          refine wgetI rfl (oK1 hL ht) rfl ?_
          iterate 2 (refine kst rfl rfl ?_)
          refine wputI rfl (oK1 hL ht) rfl ?_
          replace hL : Lay (h3.sI t 9 ((h3.I t 9) + 1)) := lsI hL
          iterate 2 (refine kst rfl rfl ?_)
          have z9 := k12 ((x2 + 1), (h3.sI t 9 ((h3.I t 9) + 1))) hW hL
          refine wjp ?_ z9
          exact ⟨rfl, rfl, rfl, trivial⟩
theorem R26 {d : Nat} {t : Nat} {a1 : Nat} {h : TH} {C : TH → Prop} (ht : is1 t) (ha1 : is3 a1) (hL : Lay h) (hW : W26 t a1 h C) : xPk (d + 1) 26 [.ref t, .ref a1] h.X (postV C) := by
  unfold W26 at hW
  refine kin (Nat.le_of_ble_eq_true rfl) ?_
  iterate 2 (refine kst rfl rfl ?_)
  refine wgetI rfl (oK1 hL ht) rfl ?_
  iterate 2 (refine kst rfl rfl ?_)
  refine wputI rfl (oK1 hL ht) rfl ?_
  replace hL : Lay (h.sI t 4 ((h.I t 4) + 1)) := lsI hL
  iterate 2 (refine kst rfl rfl ?_)
  refine wjp ?_ (R26_12 (h := (h.sI t 4 ((h.I t 4) + 1))) ht ha1 hL hW)
  exact ⟨rfl, rfl, rfl, trivial⟩
/-- 27: Hand countMissed -/
def W27 (t : Nat) (a1 : Int32) (h : TH) (C : TH → Prop) : Prop :=
  if ¬ ((h.sI t 5 ((h.I t 5) + 1)).I t 6) = (-1) then (C (h.sI t 5 ((h.I t 5) + 1))) else (C ((h.sI t 5 ((h.I t 5) + 1)).sI t 6 a1))

theorem R27 {d : Nat} {t : Nat} {a1 : Int32} {h : TH} {C : TH → Prop} (ht : is1 t) (hL : Lay h) (hW : W27 t a1 h C) : xPk d 27 [.ref t, .int a1] h.X (postV C) := by
  unfold W27 at hW
  refine kin (Nat.le_of_ble_eq_true rfl) ?_
  iterate 2 (refine kst rfl rfl ?_)
  refine wgetI rfl (oK1 hL ht) rfl ?_
  iterate 2 (refine kst rfl rfl ?_)
  refine wputI rfl (oK1 hL ht) rfl ?_
  replace hL : Lay (h.sI t 5 ((h.I t 5) + 1)) := lsI hL
  refine kst rfl rfl ?_
  refine wgetI rfl (oK1 hL ht) rfl ?_
  refine kst rfl rfl ?_
  refine wcm_ne rfl hW (fun hW => ?_) (fun hW => ?_)
  · refine kre rfl rfl ?_
    exact ⟨_, rfl, hL, hW⟩
  · iterate 2 (refine kst rfl rfl ?_)
    refine wputI rfl (oK1 hL ht) rfl ?_
    replace hL : Lay ((h.sI t 5 ((h.I t 5) + 1)).sI t 6 a1) := lsI hL
    refine kre rfl rfl ?_
    exact ⟨_, rfl, hL, hW⟩
/-- 28: Hand stepsLeft -/
def B28_20 (t : Nat) (a1 : Nat) (a2 : Int32) (h : TH) (C : Int32 → Prop) : Prop :=
  C 0
def W28 (t : Nat) (a1 : Nat) (a2 : Int32) (h : TH) (C : Int32 → Prop) : Prop :=
  inb a2 12 ∧ if (h.I (a1 + 4) (ix a2)) = 0 then (B28_20 t a1 a2 h C) else (if ((h.I t 1) &&& (ishl 1 a2)) = 0 then (inb a2 12 ∧ inb a2 12 ∧ C ((h.I (a1 + 4) (ix a2)) - ((h.I t 4) - (h.I (t + 1) (ix a2))))) else (B28_20 t a1 a2 h C))

theorem R28_20 {d : Nat} {t : Nat} {a1 : Nat} {a2 : Int32} {h : TH} {C : Int32 → Prop} (ht : is1 t) (ha1 : is3 a1) (hL : Lay h) (hW : B28_20 t a1 a2 h C) : xEk d 28 (20, [(0, .ref t), (1, .ref a1), (2, .int a2)], [], h.X) (qostI h C) := by
  unfold B28_20 at hW
  iterate 4 (refine kst rfl rfl ?_)
  refine kif_eq rfl (fun c9 => absurd c9 (by decide)) (fun _ => ?_)
  iterate 2 (refine kst rfl rfl ?_)
  refine kre rfl rfl ?_
  exact ⟨_, rfl, hW⟩
theorem R28 {d : Nat} {t : Nat} {a1 : Nat} {a2 : Int32} {h : TH} {C : Int32 → Prop} (ht : is1 t) (ha1 : is3 a1) (hL : Lay h) (hW : W28 t a1 a2 h C) : xPk d 28 [.ref t, .ref a1, .int a2] h.X (qostI h C) := by
  unfold W28 at hW
  refine kin (Nat.le_of_ble_eq_true rfl) ?_
  refine kst rfl rfl ?_
  refine wgetP (b := (a1 + 4)) rfl (oK3 hL ha1) rfl (oP3_8 hL ha1) ?_
  refine kst rfl rfl ?_
  obtain ⟨q1, hW⟩ := hW
  refine wald rfl (Or.inl (aK3_8 hL ha1)) (aN3_8 hL ha1) (by decide) q1 ?_
  refine wif_eq rfl hW (fun hW => ?_) (fun hW => ?_)
  · refine wjp ?_ (R28_20 (h := h) ht ha1 hL hW)
    exact ⟨rfl, rfl, rfl, trivial⟩
  · refine kst rfl rfl ?_
    refine wgetI rfl (oK1 hL ht) rfl ?_
    iterate 4 (refine kst rfl rfl ?_)
    refine wif_eq rfl hW (fun hW => ?_) (fun hW => ?_)
    · iterate 3 (refine kst rfl rfl ?_)
      refine kif_eq rfl (fun _ => ?_) (fun c9 => absurd c9 (by decide))
      refine kst rfl rfl ?_
      refine wgetP (b := (a1 + 4)) rfl (oK3 hL ha1) rfl (oP3_8 hL ha1) ?_
      refine kst rfl rfl ?_
      obtain ⟨q2, hW⟩ := hW
      refine wald rfl (Or.inl (aK3_8 hL ha1)) (aN3_8 hL ha1) (by decide) q2 ?_
      refine kst rfl rfl ?_
      refine wgetI rfl (oK1 hL ht) rfl ?_
      refine kst rfl rfl ?_
      refine wgetP (b := (t + 1)) rfl (oK1 hL ht) rfl (oP1_2 hL ht) ?_
      refine kst rfl rfl ?_
      obtain ⟨q3, hW⟩ := hW
      refine wald rfl (Or.inl (aK1_2 hL ht)) (aN1_2 hL ht) (by decide) q3 ?_
      iterate 2 (refine kst rfl rfl ?_)
      refine kre rfl rfl ?_
      exact ⟨_, rfl, hW⟩
    · refine wjp ?_ (R28_20 (h := h) ht ha1 hL hW)
      exact ⟨rfl, rfl, rfl, trivial⟩
