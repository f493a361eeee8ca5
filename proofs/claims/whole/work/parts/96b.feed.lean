/-! THE TAPE IS FED -/
def sft (i : Nat) : Int32 := 24 - 8 * nI i
theorem sft_s : ∀ i, i < 4 → ¬ sft i < 0 ∧ sft i + (-8) = sft (i + 1) := by decide +kernel
theorem sft_4 : sft 4 < 0 := by decide +kernel
theorem sft_0 : sft 0 = 24 := by decide +kernel
section FED
variable {h : TH} {w : Int32} {z : Nat}
theorem S124 {C : TH → Prop} (hz : h.I 9 1 = nI z) (h9 : z + 4 ≤ 900) (kk : ∀ g, Sm (fun a => a = 9 ∨ a = 10) h g → (∀ j, j ≠ 1 → g.I 9 j = h.I 9 j) → g.I 9 1 = nI (z + 4) → (∀ k, (k < z ∨ z + 4 ≤ k) → g.I 10 k = h.I 10 k) → (∀ i, i < 4 → g.I 10 (z + i) = (iushr w (sft i)) &&& 255) → C g) : W124 w h C := by
  unfold W124 B124_3
  refine LFP.up 4 (fun i q => q.1 = sft i ∧ Sm (fun a => a = 9 ∨ a = 10) h q.2 ∧ (∀ j, j ≠ 1 → q.2.I 9 j = h.I 9 j) ∧ q.2.I 9 1 = nI (z + i) ∧ (∀ k, (k < z ∨ z + 4 ≤ k) → q.2.I 10 k = h.I 10 k) ∧ ∀ k, k < i → q.2.I 10 (z + k) = (iushr w (sft k)) &&& 255) ?_ ?_ (Nat.zero_le _) ⟨sft_0.symm, Sm.refl, fun _ _ => rfl, hz, fun _ _ => rfl, fun k hk => absurd hk (Nat.not_lt_zero _)⟩
  · rintro X i ⟨x2, g⟩ hi ⟨e1, e2, e3, e4, e5, e6⟩ ih
    (try dsimp only at e1 e2 e3 e4 e5 e6)
    subst e1
    obtain ⟨s1, s2⟩ := sft_s i hi
    unfold F124_3
    (try dsimp only)
    rw [if_neg s1, e4, if_neg (show ¬ (900 : Int32) ≤ nI (z + i) from nI_ge (b := 900) (by omega) (by omega)), ix_n (by omega), I_ne (by omega), e4, nI_1 (z + i), s2]
    refine ⟨inb_n (by omega), ih _ ⟨rfl, Sm.sI (Sm.sI e2 (Or.inr rfl) _) (Or.inl rfl) _, fun j hj => ?_, I_eq, fun k hk => ?_, fun k hk => ?_⟩⟩
    · (try dsimp only)
      rw [I_nk hj, I_ne (by omega)]; exact e3 j hj
    · (try dsimp only)
      rw [I_ne (by omega), I_nk (by omega)]; exact e5 k hk
    · (try dsimp only)
      rw [I_ne (by omega), I_at]
      by_cases q : k = i
      · rw [if_pos (by omega), q]
      · rw [if_neg (by omega)]; exact e6 k (by omega)
  · rintro X ⟨x2, g⟩ ⟨e1, e2, e3, e4, e5, e6⟩
    (try dsimp only at e1 e2 e3 e4 e5 e6)
    subst e1
    unfold F124_3
    (try dsimp only)
    rw [if_pos sft_4]
    exact kk g e2 e3 e4 e5 e6
theorem S217 {C : TH → Prop} (hz : h.I 197 10 = nI z) (h9 : z + 4 ≤ 900) (kk : ∀ g, Sm (fun a => a = 197 ∨ a = 203) h g → (∀ j, j ≠ 10 → g.I 197 j = h.I 197 j) → g.I 197 10 = nI (z + 4) → (∀ k, (k < z ∨ z + 4 ≤ k) → g.I 203 k = h.I 203 k) → (∀ i, i < 4 → g.I 203 (z + i) = (((ishr w (sft i))).toInt8.toInt32).toInt8.toInt32) → C g) : W217 w h C := by
  unfold W217 B217_3
  refine LFP.up 4 (fun i q => q.1 = sft i ∧ Sm (fun a => a = 197 ∨ a = 203) h q.2 ∧ (∀ j, j ≠ 10 → q.2.I 197 j = h.I 197 j) ∧ q.2.I 197 10 = nI (z + i) ∧ (∀ k, (k < z ∨ z + 4 ≤ k) → q.2.I 203 k = h.I 203 k) ∧ ∀ k, k < i → q.2.I 203 (z + k) = (((ishr w (sft k))).toInt8.toInt32).toInt8.toInt32) ?_ ?_ (Nat.zero_le _) ⟨sft_0.symm, Sm.refl, fun _ _ => rfl, hz, fun _ _ => rfl, fun k hk => absurd hk (Nat.not_lt_zero _)⟩
  · rintro X i ⟨x2, g⟩ hi ⟨e1, e2, e3, e4, e5, e6⟩ ih
    (try dsimp only at e1 e2 e3 e4 e5 e6)
    subst e1
    obtain ⟨s1, s2⟩ := sft_s i hi
    unfold F217_3
    (try dsimp only)
    rw [if_neg s1, e4, ix_n (by omega), I_ne (by omega), e4, nI_1 (z + i), s2]
    refine ⟨inb_n (by omega), ih _ ⟨rfl, Sm.sI (Sm.sI e2 (Or.inr rfl) _) (Or.inl rfl) _, fun j hj => ?_, I_eq, fun k hk => ?_, fun k hk => ?_⟩⟩
    · (try dsimp only)
      rw [I_nk hj, I_ne (by omega)]; exact e3 j hj
    · (try dsimp only)
      rw [I_ne (by omega), I_nk (by omega)]; exact e5 k hk
    · (try dsimp only)
      rw [I_ne (by omega), I_at]
      by_cases q : k = i
      · rw [if_pos (by omega), q]
      · rw [if_neg (by omega)]; exact e6 k (by omega)
  · rintro X ⟨x2, g⟩ ⟨e1, e2, e3, e4, e5, e6⟩
    (try dsimp only at e1 e2 e3 e4 e5 e6)
    subst e1
    unfold F217_3
    (try dsimp only)
    rw [if_pos sft_4]
    exact kk g e2 e3 e4 e5 e6
end FED
