section QST
variable {T : Nat → Nat} {z : Nat} {N : Nat → List Nat} {n0 : Nat} {s s' : QS} {M : Nat → Int32} {cn : Nat} {st : List Nat}
theorem PI.n60 (p : PI M n0 cn st) : qn M ≤ 60 := by have := p.2.1; omega
theorem cc_mono (p : PI M n0 cn st) {a b : Nat} (hab : a ≤ b) (hb : b ≤ qn M) : cc M cn a ≤ cc M cn b := by
  induction b with
  | zero => have : a = 0 := by omega
            rw [this]; exact Nat.le_refl _
  | succ b ih =>
    rcases Nat.eq_or_lt_of_le hab with e | e
    · rw [e]; exact Nat.le_refl _
    · have h1 := ih (by omega) (by omega)
      have h2 := (p.2.2.2.1 b (by omega)).2
      omega
theorem cc_n : cc M cn (qn M) = cn := by unfold cc; rw [if_neg (by omega)]
theorem cc_lt (p : PI M n0 cn st) {k b : Nat} (hk : k < b) (hb : b ≤ qn M) (h21 : ¬ kK M k = 21) : cc M cn k < cc M cn b := by
  have h1 := cc_mono p (a := k + 1) (b := b) (by omega) hb
  have h2 := (p.2.2.2.1 k (by omega)).2
  rw [if_neg h21] at h2
  omega
theorem cc_le (p : PI M n0 cn st) {k : Nat} (hk : k ≤ qn M) : cc M cn k ≤ cn := by
  have := cc_mono p hk (Nat.le_refl _)
  rw [cc_n] at this; exact this
theorem qRow_o {w j : Nat} (h1 : j ≠ 6) (h2 : j < 124 + 5 * qn s.2.1 ∨ 124 + 5 * qn s.2.1 + 5 ≤ j) : (qRow w s).2.1 j = s.2.1 j := by
  unfold qRow
  dsimp only
  rw [pk_un h1, if_neg (by omega)]
theorem qRow_6 {w : Nat} : (qRow w s).2.1 6 = nI (qn s.2.1 + 1) := by unfold qRow; dsimp only; exact pk_us
theorem qRow_f {w f : Nat} (hf : f < 5) : (qRow w s).2.1 (124 + 5 * qn s.2.1 + f) = if f = 0 then nI w else if f = 4 then nI s.2.2.1 else 0 := by
  unfold qRow
  dsimp only
  rw [pk_un (by omega), if_pos (by omega)]
  by_cases q : f = 0
  · rw [if_pos (by omega), if_pos q]
  · rw [if_neg (by omega), if_neg q]
    by_cases w' : f = 4
    · rw [if_pos (by omega), if_pos w']
    · rw [if_neg (by omega), if_neg w']
theorem qStep_PI (h : qStep T z N n0 s = .inr s') (p : PI s.2.1 n0 s.2.2.1 s.2.2.2) : PI s'.2.1 n0 s'.2.2.1 s'.2.2.2 ∧ s.1 < s'.1 := by
  have n60 := p.n60
  unfold qStep at h
  split at h
  · rename_i q
    generalize hst : s.2.2.2 = st at *
    cases st with
    | nil => cases h
    | cons o r =>
      obtain ⟨_, rfl⟩ := qSemi_in h
      refine ⟨?_, by show s.1 < s.1 + 1 + 1; omega⟩
      have ho := (p.2.2.2.2.2.1 o (by simp)).1
      refine PI_end (M' := upd (upd (qRow 21 s).2.1 (124 + 5 * qn s.2.1 + 3) (nI o)) (124 + 5 * o + 3) (nI (qn s.2.1))) p (fun j h1 h2 h3 => ?_) pk_us ?_ ?_ ?_ ?_
      · rw [pk_un h3, pk_un (by omega)]; exact qRow_o (by omega) (by omega)
      · rw [pk_un (by omega), pk_un (by omega)]; exact qRow_6
      · show upd _ _ _ (124 + 5 * qn s.2.1) = 21
        rw [pk_un (by omega), pk_un (by omega)]; exact qRow_f (f := 0) (by omega)
      · show upd _ _ _ (124 + 5 * qn s.2.1 + 3) = _
        rw [pk_un (by omega)]; exact pk_us
      · show upd _ _ _ (124 + 5 * qn s.2.1 + 4) = _
        rw [pk_un (by omega), pk_un (by omega)]; exact qRow_f (f := 4) (by omega)
  · split at h
    · rename_i q0 q
      split at h
      · cases h
      · split at h
        · cases h
        · rename_i q1 q2
          obtain ⟨r, h1, h⟩ := qth_r h
          obtain ⟨_, rfl⟩ := qSemi_in h
          obtain ⟨a1, a2, a3, a4, a5⟩ := qRest_in h1 q (qRow_f (f := 0) (by omega))
          have c30 := p.2.1.2.1
          have e1 : r.2.2.1 = s.2.2.1 + 1 := by rw [a1]; unfold qRow; show (if kd T z s.1 = 21 then _ else _) = _; rw [if_neg q0]
          have e2 : r.2.2.2 = s.2.2.2 := by rw [a1]; rfl
          have a5' : s.1 + 1 ≤ r.1 := a5
          have key : ∀ st', ((opn r.2.1 (qn s.2.1) ∧ st' = qn s.2.1 :: s.2.2.2 ∧ s.2.2.2.length < 3) ∨ (¬ opn r.2.1 (qn s.2.1) ∧ st' = s.2.2.2)) → PI r.2.1 n0 (s.2.2.1 + 1) st' := fun st' hst' =>
            PI_add p (by omega) (fun j h1 h2 => by rw [a2 j (by omega)]; exact qRow_o (by omega) (by omega)) (by rw [a2 6 (by omega)]; exact qRow_6) (by show r.2.1 (124 + 5 * qn s.2.1 + 4) = _; rw [a2 _ (by omega)]; exact qRow_f (f := 4) (by omega)) a3 hst'
          unfold qOpen
          by_cases w : kd T z s.1 = 16 ∨ kd T z s.1 = 20
          · rw [if_pos w]
            refine ⟨?_, by show s.1 < r.1 + 1; omega⟩
            show PI r.2.1 n0 r.2.2.1 (qn s.2.1 :: r.2.2.2)
            rw [e1, e2]
            refine key _ (Or.inl ⟨a4.mpr w, rfl, ?_⟩)
            have := p.2.1.2.2
            have q2' : ¬ s.2.2.2.length = 3 := fun u => q2 ⟨w, u⟩
            omega
          · rw [if_neg w]
            refine ⟨?_, by show s.1 < r.1 + 1; omega⟩
            show PI r.2.1 n0 r.2.2.1 r.2.2.2
            rw [e1, e2]
            exact key _ (Or.inr ⟨fun u => w (a4.mp u), rfl⟩)
    · cases h
theorem qPlan_PI (f : Nat) : ∀ (s s' : QS), qPlan T z N n0 f s = .inr s' → PI s.2.1 n0 s.2.2.1 s.2.2.2 → PI s'.2.1 n0 s'.2.2.1 s'.2.2.2 := by
  induction f with
  | zero => intro s s' h p; have h' : (Sum.inr s : QR) = .inr s' := h; rw [← Sum.inr.inj h']; exact p
  | succ f ih =>
    intro s s' h p
    unfold qPlan at h
    split at h
    · rw [← Sum.inr.inj h]; exact p
    · obtain ⟨s1, h1, h⟩ := qth_r h
      exact ih s1 s' h (qStep_PI h1 p).1
end QST
def q00 (M : Nat → Int32) : QS := (0, upd M 6 0, 0, [])
theorem PI_00 {M : Nat → Int32} {n0 : Nat} : PI (q00 M).2.1 n0 0 [] := by
  have e : qn (upd M 6 0) = 0 := by show ix (upd M 6 0 6) = 0; rw [pk_us]; exact ix_0
  refine ⟨by show upd M 6 0 6 = nI (qn (upd M 6 0)); rw [e, pk_us]; rfl, ⟨by show qn (upd M 6 0) + 0 ≤ 0; omega, by omega, by show 0 ≤ 3; omega⟩, ?_, fun k hk => ?_, fun k hk => ?_, fun o ho => absurd ho (by simp), List.Pairwise.nil, fun k hk => ?_, fun k hk => ?_, fun a b _ hb => ?_, fun k hk => ⟨[], List.Pairwise.nil, by show 0 ≤ 3; omega, fun o => ?_⟩⟩
  · unfold cc; show (if 0 < qn (upd M 6 0) then _ else _) = 0; rw [if_neg (by omega)]
  · have : k < qn (upd M 6 0) := hk
    omega
  · have : k < qn (upd M 6 0) := hk
    omega
  · have : k < qn (upd M 6 0) := hk
    omega
  · have : k < qn (upd M 6 0) := hk
    omega
  · have : b < qn (upd M 6 0) := hb
    omega
  · refine ⟨fun ho => absurd ho (by simp), fun ho => ?_⟩
    have : o < qn (upd M 6 0) := ho.2.1
    omega
