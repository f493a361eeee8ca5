/-! COPIES: a menu -/
theorem cp0 {α : Type} {f g : Nat → α} {n j : Nat} : va_cpy f g (ix 0) (ix 0) n j = if j < n then f j else g j := by
  rw [show ix 0 = 0 from rfl]
  by_cases q : j < n
  · rw [if_pos q, pk_cpy_in (by omega) (by omega)]; congr 1; omega
  · rw [if_neg q, pk_cpy_out (by omega)]
section CPY
variable {h : TH} {t a : Nat}
/-- two rows copied -/
theorem cp2 {g g' : TH} {p q x y n m : Nat} (e : g' = ((g.cI x (va_cpy (g.I p) (g.I x) (ix 0) (ix 0) n)).cI y (va_cpy ((g.cI x (va_cpy (g.I p) (g.I x) (ix 0) (ix 0) n)).I q) ((g.cI x (va_cpy (g.I p) (g.I x) (ix 0) (ix 0) n)).I y) (ix 0) (ix 0) m))) (hxy : x ≠ y) (hq : q ≠ x) : Sm (fun b => b = x ∨ b = y) g g' ∧ (∀ j, j < n → g'.I x j = g.I p j) ∧ ∀ j, j < m → g'.I y j = g.I q j := by
  subst e
  refine ⟨Sm.cI (S := fun b => b = x ∨ b = y) (Sm.cI (S := fun b => b = x ∨ b = y) Sm.refl (Or.inl rfl) _) (Or.inr rfl) _, fun j hj => ?_, fun j hj => ?_⟩
  · rw [I_cI, if_neg hxy, I_cI, if_pos rfl, cp0, if_pos hj]
  · rw [I_cI, if_pos rfl, cp0, if_pos hj, I_cI, if_neg hq]
theorem S53 {C : TH → Prop} (hd : a + 15 ≤ t ∨ t + 15 ≤ a) (ht : t + 15 ≤ 197) (k : ∀ g, Sm (fun x => t ≤ x ∧ x < t + 15) h g → (∀ j, j < 5 → g.I t j = h.I a j) → (∀ j, j < 12 → g.J (t + 1) j = h.J (a + 1) j) → (∀ r j, 2 ≤ r → r < 12 → r ≠ 8 → j < 12 → g.I (t + r) j = h.I (a + r) j) → (∀ j, j < 8 → g.I (t + 8) j = h.I (a + 8) j) → g.I (t + 12) 2 = h.I (a + 12) 2 → (∀ j, j < 9 → g.I (t + 12 + 1) j = h.I (a + 12 + 1) j ∧ g.I (t + 12 + 2) j = h.I (a + 12 + 2) j) → C g) : W53 t a h C := by
  unfold W53 W108
  intro h1 e1 h2 e2 h3 e3 h4 e4 h5 e5 h6 e6 h7 e7 h8 e8
  have f1 : Sm (fun b => b = t) h h1 ∧ ∀ j, h1.I t j = if j = 2 then h.I a 2 else if j = 1 then h.I a 1 else if j = 0 then h.I a 0 else h.I t j := by
    rw [e1]
    exact ⟨Sm.sI (S := fun b => b = t) (Sm.sI (S := fun b => b = t) (Sm.sI (S := fun b => b = t) Sm.refl rfl _) rfl _) rfl _, fun j => by rw [I_at, I_at, I_at, I_ne (show a ≠ t by omega), I_ne (show a ≠ t by omega), I_ne (show a ≠ t by omega)]⟩
  have f2 : Sm (fun b => b = t ∨ b = t + 1) h1 h2 ∧ (∀ j, h2.I t j = if j = 4 then h1.I a 4 else if j = 3 then h1.I a 3 else h1.I t j) ∧ ∀ j, j < 12 → h2.J (t + 1) j = h1.J (a + 1) j := by
    rw [e2]
    refine ⟨Sm.cJ (S := fun b => b = t ∨ b = t + 1) (Sm.sI (S := fun b => b = t ∨ b = t + 1) (Sm.sI (S := fun b => b = t ∨ b = t + 1) Sm.refl (Or.inl rfl) _) (Or.inl rfl) _) (Or.inr rfl) _ (by omega) (by omega), fun j => ?_, fun j hj => ?_⟩
    · show ((h1.sI t 3 (h1.I a 3)).sI t 4 ((h1.sI t 3 (h1.I a 3)).I a 4)).I t j = _
      rw [I_at, I_at, I_ne (show a ≠ t by omega)]
    · rw [J_cJ, if_pos rfl]
      show va_cpy (h1.J (a + 1)) (h1.J (t + 1)) (ix 0) (ix 0) 12 j = _
      rw [cp0, if_pos hj]
  clear e1 e2
  obtain ⟨s3, p3, q3⟩ := cp2 e3 (by omega) (by omega)
  obtain ⟨s4, p4, q4⟩ := cp2 e4 (by omega) (by omega)
  obtain ⟨s5, p5, q5⟩ := cp2 e5 (by omega) (by omega)
  obtain ⟨s6, p6, q6⟩ := cp2 e6 (by omega) (by omega)
  obtain ⟨s7, p7, q7⟩ := cp2 e7 (by omega) (by omega)
  obtain ⟨s8, p8, q8⟩ := cp2 e8 (by omega) (by omega)
  clear e3 e4 e5 e6 e7 e8
  have i12 : ix 12 = 12 := rfl
  have i8 : ix 8 = 8 := rfl
  have i9 : ix 9 = 9 := rfl
  have w1 : Sm (fun x => t ≤ x ∧ x < t + 15) h h1 := f1.1.mono (fun x hx => by omega)
  have w2 : Sm (fun x => t ≤ x ∧ x < t + 15) h h2 := w1.trans (f2.1.mono (fun x hx => by omega))
  have w3 : Sm (fun x => t ≤ x ∧ x < t + 15) h h3 := w2.trans (s3.mono (fun x hx => by omega))
  have w4 : Sm (fun x => t ≤ x ∧ x < t + 15) h h4 := w3.trans (s4.mono (fun x hx => by omega))
  have w5 : Sm (fun x => t ≤ x ∧ x < t + 15) h h5 := w4.trans (s5.mono (fun x hx => by omega))
  have w6 : Sm (fun x => t ≤ x ∧ x < t + 15) h h6 := w5.trans (s6.mono (fun x hx => by omega))
  have w7 : Sm (fun x => t ≤ x ∧ x < t + 15) h h7 := w6.trans (s7.mono (fun x hx => by omega))
  have w8 : Sm (fun x => t ≤ x ∧ x < t + 15) h h8 := w7.trans (s8.mono (fun x hx => by omega))
  have n9 : ∀ (v : Int32) (b j : Nat), b ≠ t + 12 → (h8.sI (t + 12) 2 v).I b j = h8.I b j := fun v b j hb => I_ne hb
  refine k _ (Sm.sI (S := fun x => t ≤ x ∧ x < t + 15) w8 (by omega) _) (fun j hj => ?_) (fun j hj => ?_) (fun r j r2 r12 r8 hj => ?_) (fun j hj => ?_) ?_ (fun j hj => ⟨?_, ?_⟩)
  · rw [n9 _ t j (by omega), s8.I (by omega), s7.I (by omega), s6.I (by omega), s5.I (by omega), s4.I (by omega), s3.I (by omega), f2.2.1, f1.2, w1.I (show ¬ (t ≤ a ∧ a < t + 15) by omega)]
    rcases (show j = 0 ∨ j = 1 ∨ j = 2 ∨ j = 3 ∨ j = 4 by omega) with rfl | rfl | rfl | rfl | rfl <;> rfl
  · show h8.J (t + 1) j = _
    rw [s8.J (by omega), s7.J (by omega), s6.J (by omega), s5.J (by omega), s4.J (by omega), s3.J (by omega), f2.2.2 j hj, w1.J (by omega)]
  · rw [n9 _ (t + r) j (by omega), s8.I (by omega)]
    rcases (show r = 2 ∨ r = 3 ∨ r = 4 ∨ r = 5 ∨ r = 6 ∨ r = 7 ∨ r = 9 ∨ r = 10 ∨ r = 11 by omega) with rfl | rfl | rfl | rfl | rfl | rfl | rfl | rfl | rfl
    · rw [s7.I (by omega), s6.I (by omega), s5.I (by omega), s4.I (by omega), p3 j (by omega), w2.I (by omega)]
    · rw [s7.I (by omega), s6.I (by omega), s5.I (by omega), s4.I (by omega), q3 j (by omega), w2.I (by omega)]
    · rw [s7.I (by omega), s6.I (by omega), s5.I (by omega), p4 j (by omega), w3.I (by omega)]
    · rw [s7.I (by omega), s6.I (by omega), s5.I (by omega), q4 j (by omega), w3.I (by omega)]
    · rw [s7.I (by omega), s6.I (by omega), p5 j (by omega), w4.I (by omega)]
    · rw [s7.I (by omega), s6.I (by omega), q5 j (by omega), w4.I (by omega)]
    · rw [s7.I (by omega), q6 j (by omega), w5.I (by omega)]
    · rw [p7 j (by omega), w6.I (by omega)]
    · rw [q7 j (by omega), w6.I (by omega)]
  · rw [n9 _ (t + 8) j (by omega), s8.I (by omega), s7.I (by omega), p6 j (by omega), w5.I (by omega)]
  · rw [I_eq, w8.I (by omega)]
  · rw [n9 _ (t + 12 + 1) j (by omega), p8 j (by omega), w7.I (by omega)]
  · rw [n9 _ (t + 12 + 2) j (by omega), q8 j (by omega), w7.I (by omega)]
theorem CM_copy {g : TH} {M : Nat → Int32} (hw : Wf M) (hc : CM h a M) (c0 : ∀ j, j < 5 → g.I t j = h.I a j) (cr : ∀ r j, 2 ≤ r → r < 12 → r ≠ 8 → j < 12 → g.I (t + r) j = h.I (a + r) j) (c8 : ∀ j, j < 8 → g.I (t + 8) j = h.I (a + 8) j) (c12 : g.I (t + 12) 2 = h.I (a + 12) 2) (cq : ∀ j, j < 9 → g.I (t + 12 + 1) j = h.I (a + 12 + 1) j ∧ g.I (t + 12 + 2) j = h.I (a + 12 + 2) j) : CM g t M := by
  have h12 := hw.n12
  have hP8 : aP M ≤ 8 := hw.2.2.2.1
  obtain ⟨hr, hg, hq⟩ := hc
  refine ⟨⟨by rw [c0 1 (by omega)]; exact hr.n, by rw [c0 2 (by omega)]; exact hr.p, by rw [c0 3 (by omega)]; exact hr.po, by rw [c0 4 (by omega)]; exact hr.on, fun d hd => ?_, fun k hk => by rw [c8 k (by omega)]; exact hr.pot hk⟩, fun d hd => ?_, ?_⟩
  · rw [cr 2 d (by omega) (by omega) (by omega) (by omega), cr 3 d (by omega) (by omega) (by omega) (by omega), cr 4 d (by omega) (by omega) (by omega) (by omega), cr 5 d (by omega) (by omega) (by omega) (by omega), cr 6 d (by omega) (by omega) (by omega) (by omega), cr 7 d (by omega) (by omega) (by omega) (by omega)]
    exact hr.row hd
  · rw [cr 9 d (by omega) (by omega) (by omega) (by omega), cr 10 d (by omega) (by omega) (by omega) (by omega), cr 11 d (by omega) (by omega) (by omega) (by omega)]
    exact hg d hd
  · obtain ⟨k, k9, k2, k3, k4⟩ := hq
    refine ⟨k, k9, by rw [c12]; exact k2, fun i hi => by rw [(cq i (by omega)).1, (cq i (by omega)).2]; exact k3 i hi, fun s hs => ?_⟩
    rw [← k4 s hs]
    constructor
    · intro u i hi; have := u i hi; rw [(cq i (by omega)).1, (cq i (by omega)).2] at this; exact this
    · intro u i hi; rw [(cq i (by omega)).1, (cq i (by omega)).2]; exact u i hi
end CPY
