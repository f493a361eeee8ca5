/-! WHAT CAN COME, at the reference -/
def in212 (a : Nat) : Prop := a = 197 ∨ a = 212 ∨ a = 213
def cKeep (h g : TH) : Prop := Sm in212 h g ∧ ∀ j, j ≠ 33 → g.I 197 j = h.I 197 j
def inQ (q : Nat → Nat) (F u : Nat) : Prop := ∃ i, i < F ∧ q i = u
def Cq (h : TH) (N : Nat) (q : Nat → Nat) (F : Nat) : Prop := h.I 197 33 = nI F ∧ (∀ i, i < F → h.I 213 i = nI (q i) ∧ q i < N) ∧ (∀ i j, i < j → j < F → q i ≠ q j) ∧ ∀ u, u < N → ((inQ q F u → h.I 212 u = 1) ∧ (¬ inQ q F u → h.I 212 u = 0))
def CqE (q : Nat → Nat) (F : Nat) (q' : Nat → Nat) (F' : Nat) : Prop := F ≤ F' ∧ ∀ i, i < F → q' i = q i
section CO
variable {h g : TH} {M : Nat → Int32} {N F F' F'' : Nat} {q q' q'' : Nat → Nat} {C : TH → Prop}
theorem cKeep.refl : cKeep h h := ⟨Sm.refl, fun _ _ => rfl⟩
theorem cKeep.trans {h1 h2 h3 : TH} (p : cKeep h1 h2) (r : cKeep h2 h3) : cKeep h1 h3 := ⟨p.1.trans r.1, fun j hj => (r.2 j hj).trans (p.2 j hj)⟩
theorem CqE.refl : CqE q F q F := ⟨Nat.le_refl _, fun _ _ => rfl⟩
theorem CqE.trans (p : CqE q F q' F') (r : CqE q' F' q'' F'') : CqE q F q'' F'' := ⟨Nat.le_trans p.1 r.1, fun i hi => (r.2 i (Nat.lt_of_lt_of_le hi p.1)).trans (p.2 i hi)⟩
theorem CqE.inq {u : Nat} (p : CqE q F q' F') (hi : inQ q F u) : inQ q' F' u := by
  obtain ⟨i, i1, i2⟩ := hi
  exact ⟨i, Nat.lt_of_lt_of_le i1 p.1, by rw [p.2 i i1]; exact i2⟩
theorem Cq.le (hq : Cq h N q F) : F ≤ N := fb_holes N F q (fun i hi => (hq.2.1 i hi).2) hq.2.2.1
theorem S295 (hN : N ≤ 6561) (hq : Cq h N q F) {u : Nat} {x : Int32} (hx : x = nI u) (hu : u < N) (kk : ∀ g q' F', cKeep h g → Cq g N q' F' → CqE q F q' F' → inQ q' F' u → (∀ i, F ≤ i → i < F' → q' i = u) → C g) : W295 x h C := by
  subst hx
  obtain ⟨h1, h2, h3, h4⟩ := hq
  unfold W295
  rw [if_neg (nI_ne1 (by omega)), ix_n (by omega)]
  refine ⟨inb_n (by omega), ?_⟩
  by_cases e : inQ q F u
  · rw [if_neg (by rw [(h4 u hu).1 e]; decide)]
    exact kk h q F cKeep.refl ⟨h1, h2, h3, h4⟩ CqE.refl e (fun i z1 z2 => by omega)
  · have hF : F + 1 ≤ N := by
      refine fb_holes N (F + 1) (fun i => if i = F then u else q i) (fun i hi => ?_) (fun i j hij hj z => ?_)
      · (try dsimp only)
        split
        · exact hu
        · exact (h2 i (by omega)).2
      · (try dsimp only at z)
        rw [if_neg (by omega)] at z
        by_cases e2 : j = F
        · rw [if_pos e2] at z; exact e ⟨i, by omega, z⟩
        · rw [if_neg e2] at z; exact h3 i j hij (by omega) z
    rw [if_pos ((h4 u hu).2 e), I_ne (by omega), h1, ix_n (by omega), I_ne (by omega), I_ne (by omega), h1, nI_1]
    refine ⟨inb_n (by omega), inb_n (by omega), ?_⟩
    have s1 : Sm in212 h (((h.sI 212 u (1 &&& 1)).sI 213 F (nI u)).sI 197 33 (nI (F + 1))) := ((Sm.refl.sI (by unfold in212; omega) _).sI (by unfold in212; omega) _).sI (by unfold in212; omega) _
    refine kk _ (fun i => if i = F then u else q i) (F + 1) ⟨s1, fun j hj => by rw [I_nk hj, I_ne (by omega), I_ne (by omega)]⟩ ⟨I_eq, fun i hi => ?_, fun i j hij hj z => ?_, fun v hv => ?_⟩ ⟨by omega, fun i hi => if_neg (by omega)⟩ ⟨F, by omega, if_pos rfl⟩ (fun i z1 z2 => if_pos (by omega))
    · rw [I_ne (by omega), I_at]
      (try dsimp only)
      by_cases e2 : i = F
      · rw [if_pos e2, if_pos e2]; exact ⟨rfl, hu⟩
      · rw [if_neg e2, if_neg e2, I_ne (by omega)]; exact h2 i (by omega)
    · (try dsimp only at z)
      rw [if_neg (by omega)] at z
      by_cases e2 : j = F
      · rw [if_pos e2] at z; exact e ⟨i, by omega, z⟩
      · rw [if_neg e2] at z; exact h3 i j hij (by omega) z
    · have iq : inQ (fun i => if i = F then u else q i) (F + 1) v ↔ v = u ∨ inQ q F v := by
        constructor
        · rintro ⟨i, i1, i2⟩
          (try dsimp only at i2)
          by_cases e2 : i = F
          · rw [if_pos e2] at i2; exact Or.inl i2.symm
          · rw [if_neg e2] at i2; exact Or.inr ⟨i, by omega, i2⟩
        · rintro (z | ⟨i, i1, i2⟩)
          · exact ⟨F, by omega, by (try dsimp only); rw [if_pos rfl]; exact z.symm⟩
          · exact ⟨i, by omega, by (try dsimp only); rw [if_neg (by omega)]; exact i2⟩
      rw [iq, I_ne (by omega), I_ne (by omega), I_at]
      by_cases e2 : v = u
      · rw [if_pos e2]; exact ⟨fun _ => rfl, fun z => absurd (Or.inl e2) z⟩
      · rw [if_neg e2]
        exact ⟨fun z => (h4 v hv).1 (z.resolve_left e2), fun z => (h4 v hv).2 (fun y => z (Or.inr y))⟩
theorem S295n (k : C h) : W295 (-1) h C := by
  unfold W295
  rw [if_pos rfl]
  exact k
end CO
