/-! THE REFERENCE READS A MENU -/
def inR4 (a : Nat) : Prop := inRm a ∨ a = 204
section PUP
variable {T : Nat → Nat} {z : Nat} {s s' : PS}
theorem pSemi_up (h : pSemi T z s = .inr s') : s.1 < s'.1 := by
  unfold pSemi at h
  split at h
  · rw [← Sum.inr.inj h]; exact Nat.lt_succ_self _
  · cases h
theorem pDish_up (h : pDish T z s = .inr s') (hw : aN s.2.1 ≤ 12) : s.1 < s'.1 := by
  unfold pDish at h
  split at h
  · cases h
  · split at h
    · split at h
      · cases h
      · obtain ⟨r, h1, h⟩ := thn_r h
        obtain ⟨r2, h2, h⟩ := thn_r h
        have a1 := (pBody_MI (M0 := s.2.1) (N1 := updN s.2.2 (aN s.2.1) (wd T z (s.1 + 1))) h1 hw ini_MI).2
        have a2 := pSemi_up h2
        rw [← Sum.inr.inj h]
        have a1' : s.1 + 2 ≤ r.1 := a1
        show s.1 < r2.1
        omega
    · cases h
theorem pPair_up (h : pPair T z s = .inr s') : s.1 < s'.1 := by
  unfold pPair at h
  split at h
  · split at h
    · split at h
      · split at h
        · split at h
          · split at h
            · have a2 := pSemi_up h
              have a2' : s.1 + 3 < s'.1 := a2
              omega
            · cases h
          · cases h
        · cases h
      · cases h
    · cases h
  · cases h
theorem pPots_up (f : Nat) : ∀ (s s' : PS), pPots T z f s = .inr s' → s.1 ≤ s'.1 := by
  induction f with
  | zero => intro s s' h; have h' : (Sum.inr s : PR) = .inr s' := h; rw [← Sum.inr.inj h']; exact Nat.le_refl _
  | succ f ih =>
    intro s s' h
    unfold pPots at h
    split at h
    · split at h
      · split at h
        · cases h
        · have := ih _ s' h
          have this' : s.1 + 1 ≤ s'.1 := this
          omega
      · cases h
    · rw [← Sum.inr.inj h]; exact Nat.le_refl _
theorem pThePots_up (h : pThePots T z s = .inr s') : s.1 < s'.1 := by
  unfold pThePots at h
  split at h
  · split at h
    · obtain ⟨r, h1, h⟩ := thn_r h
      have a1 := pPots_up 9 _ r h1
      have a2 := pSemi_up h
      have a1' : s.1 + 1 ≤ r.1 := a1
      omega
    · cases h
  · cases h
theorem pPart_up (h : pPart T z s = .inr s') (hw : aN s.2.1 ≤ 12) : s.1 < s'.1 := by
  unfold pPart at h
  split at h
  · exact pDish_up h hw
  · split at h
    · exact pPair_up h
    · split at h
      · exact pThePots_up h
      · cases h
end PUP
section RME
variable {h : TH} {T : Nat → Nat} {z : Nat}
theorem i8_255 (x : Int32) : x.toInt8.toInt32 &&& 255 = x &&& 255 := by
  refine bt_ext (fun d hd => ?_)
  rw [bt_and, bt_and, b255 d hd]
  by_cases h8 : d < 8
  · rw [bt_i8 _ h8]
  · rw [decide_eq_false h8, Bool.and_false, Bool.and_false]
theorem S225 {C : Int32 → TH → Prop} {y mx : Nat} (hy : y ≤ 900) (h10 : h.I 197 10 = nI y) (hzy : z ≤ y) (hmx : z ≤ mx) (hm9 : mx ≤ 900) (hb : ∀ k, k < z → (h.I 203 k) &&& 255 = nI (T k)) (hT : ∀ k, k < z → T k < 256) (k : ∀ g, Sm (fun a => a = 197 ∨ a = 204) h g → RT g T z 0 → g.I 197 18 = 0 → g.I 197 17 = -1 → g.I 197 19 = 0 → g.I 197 10 = 0 → (∀ j, (j < 10 ∨ 19 < j ∨ j = 16) → g.I 197 j = h.I 197 j) → C 1 g) : W225 (nI z) (nI mx) h C := by
  unfold W225
  rw [if_neg (nI_pos (by omega)), h10, if_neg (nI_nlt hzy (by omega)), if_pos (nI_le hmx (by omega))]
  unfold B225_26
  refine LFP.up z (fun (j : Nat) (st : Int32 × TH) => st.1 = nI j ∧ Sm (fun a => a = 197 ∨ a = 204) h st.2 ∧ (∀ i, i ≠ 11 → st.2.I 197 i = h.I 197 i) ∧ st.2.I 197 11 = nI z ∧ ∀ i, i < j → st.2.I 204 i = (h.I 203 i).toInt8.toInt32) ?_ ?_ (Nat.zero_le _) ⟨rfl, Sm.sI (S := fun a => a = 197 ∨ a = 204) Sm.refl (Or.inl rfl) _, fun i hi => I_nk hi, I_eq, fun i hi => absurd hi (Nat.not_lt_zero _)⟩
  · rintro X j ⟨x3, g⟩ hj ⟨e1, sm, f, e11, e4⟩ ih
    (try dsimp only at e1 sm f e11 e4)
    subst e1
    unfold F225_26
    (try dsimp only)
    rw [if_neg (nI_ge hj (by omega)), ix_n (by omega), nI_1, sm.I (show ¬ (203 = 197 ∨ 203 = 204) by decide)]
    refine ⟨inb_n (by omega), inb_n (by omega), ih _ ⟨rfl, Sm.sI (S := fun a => a = 197 ∨ a = 204) sm (Or.inr rfl) _, fun i hi => by rw [I_ne (by decide)]; exact f i hi, by rw [I_ne (by decide)]; exact e11, fun i hi => ?_⟩⟩
    (try dsimp only)
    rw [I_at]
    by_cases w : i = j
    · rw [if_pos w, w]
    · rw [if_neg w]; exact e4 i (by omega)
  · rintro X ⟨x3, g⟩ ⟨e1, sm, f, e11, e4⟩
    (try dsimp only at e1 sm f e11 e4)
    subst e1
    unfold F225_26
    (try dsimp only)
    rw [if_pos (nI_le (Nat.le_refl _) (by omega))]
    have sm5 : Sm (fun b => b = 197) g (((((g.sI 197 10 0).sI 197 18 0).sI 197 17 (-1)).sI 197 14 0).sI 197 19 0) := Sm.sI (S := fun b => b = 197) (Sm.sI (S := fun b => b = 197) (Sm.sI (S := fun b => b = 197) (Sm.sI (S := fun b => b = 197) (Sm.sI (S := fun b => b = 197) Sm.refl rfl _) rfl _) rfl _) rfl _) rfl _
    have b10 : (((((g.sI 197 10 0).sI 197 18 0).sI 197 17 (-1)).sI 197 14 0).sI 197 19 0).I 197 10 = 0 := by rw [I_nk (by decide), I_nk (by decide), I_nk (by decide), I_nk (by decide), I_eq]
    have b18 : (((((g.sI 197 10 0).sI 197 18 0).sI 197 17 (-1)).sI 197 14 0).sI 197 19 0).I 197 18 = 0 := by rw [I_nk (by decide), I_nk (by decide), I_nk (by decide), I_eq]
    have b17 : (((((g.sI 197 10 0).sI 197 18 0).sI 197 17 (-1)).sI 197 14 0).sI 197 19 0).I 197 17 = -1 := by rw [I_nk (by decide), I_nk (by decide), I_eq]
    have b14 : (((((g.sI 197 10 0).sI 197 18 0).sI 197 17 (-1)).sI 197 14 0).sI 197 19 0).I 197 14 = 0 := by rw [I_nk (by decide), I_eq]
    have b19 : (((((g.sI 197 10 0).sI 197 18 0).sI 197 17 (-1)).sI 197 14 0).sI 197 19 0).I 197 19 = 0 := I_eq
    have bo : ∀ i, i ≠ 10 → i ≠ 18 → i ≠ 17 → i ≠ 14 → i ≠ 19 → (((((g.sI 197 10 0).sI 197 18 0).sI 197 17 (-1)).sI 197 14 0).sI 197 19 0).I 197 i = g.I 197 i := fun i i1 i2 i3 i4 i5 => by rw [I_nk i5, I_nk i4, I_nk i3, I_nk i2, I_nk i1]
    generalize ((((g.sI 197 10 0).sI 197 18 0).sI 197 17 (-1)).sI 197 14 0).sI 197 19 0 = H at sm5 b10 b18 b17 b14 b19 bo ⊢
    have cx : RTx H T z := ⟨by rw [bo 11 (by decide) (by decide) (by decide) (by decide) (by decide)]; exact e11, ⟨by omega, b17⟩, fun k hk => by rw [sm5.I (by decide), e4 k hk, i8_255]; exact hb k hk, hT⟩
    refine S221 (p := 0) cx (Nat.zero_le _) b14 (fun g2 s2 f2 r2 => ?_)
    refine k g2 (sm.trans ((sm5.mono (fun a ha => Or.inl ha)).trans (s2.mono (fun a ha => Or.inl ha)))) ⟨cx.frame (f2 11 (by decide) (by decide) (by decide) (by decide)) (s2.I (by decide)) (f2 17 (by decide) (by decide) (by decide) (by decide)), r2⟩ ?_ ?_ ?_ ?_ (fun j hj => ?_)
    · rw [f2 18 (by decide) (by decide) (by decide) (by decide)]; exact b18
    · rw [f2 17 (by decide) (by decide) (by decide) (by decide)]; exact b17
    · rw [f2 19 (by decide) (by decide) (by decide) (by decide)]; exact b19
    · rw [f2 10 (by decide) (by decide) (by decide) (by decide)]; exact b10
    · rw [f2 j (by omega) (by omega) (by omega) (by omega), bo j (by omega) (by omega) (by omega) (by omega) (by omega), f j (by omega)]
end RME
