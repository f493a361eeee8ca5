/-! THE NUMBER OF A STATE is its own -/
section NU
variable {Sc : Int32} {base : Nat}
theorem num_lt {g : Nat → Nat} (hb : 0 < base) : ∀ j, (∀ d, d < j → g d < base) → fb_sm (fun d => g d * wt Sc base d) j < base ^ fb_ct (bt Sc) j := by
  intro j
  induction j with
  | zero => intro _; exact Nat.pow_pos hb
  | succ j ih =>
    intro hg
    have h1 := ih (fun d hd => hg d (by omega))
    rw [fb_sm_succ, pow_ct]
    unfold wt at h1 ⊢
    cases e : bt Sc j
    · simp only [Bool.false_eq_true, if_false, Nat.mul_zero, Nat.add_zero]
      exact h1
    · simp only [if_true]
      have h2 := hg j (by omega)
      have h3 : g j * base ^ fb_ct (bt Sc) j ≤ (base - 1) * base ^ fb_ct (bt Sc) j := Nat.mul_le_mul_right _ (by omega)
      have h4 : (base - 1) * base ^ fb_ct (bt Sc) j + base ^ fb_ct (bt Sc) j = base ^ fb_ct (bt Sc) j * base := by
        rw [Nat.mul_comm (base ^ fb_ct (bt Sc) j) base]
        obtain ⟨b, rfl⟩ : ∃ b, base = b + 1 := ⟨base - 1, by omega⟩
        rw [Nat.add_sub_cancel, Nat.add_mul, Nat.one_mul]
      omega
theorem num_inj {g g' : Nat → Nat} (hb : 0 < base) : ∀ j, (∀ d, d < j → g d < base) → (∀ d, d < j → g' d < base) → fb_sm (fun d => g d * wt Sc base d) j = fb_sm (fun d => g' d * wt Sc base d) j → ∀ d, d < j → bt Sc d = true → g d = g' d := by
  intro j
  induction j with
  | zero => intro _ _ _ d hd; omega
  | succ j ih =>
    intro h1 h2 he d hd hs
    rw [fb_sm_succ, fb_sm_succ] at he
    have l1 := num_lt (Sc := Sc) (g := g) hb j (fun d hd => h1 d (by omega))
    have l2 := num_lt (Sc := Sc) (g := g') hb j (fun d hd => h2 d (by omega))
    have both : fb_sm (fun d => g d * wt Sc base d) j = fb_sm (fun d => g' d * wt Sc base d) j ∧ (bt Sc j = true → g j = g' j) := by
      cases e : bt Sc j
      · have ew : wt Sc base j = 0 := by unfold wt; rw [e]; rfl
        rw [ew] at he
        exact ⟨by omega, fun q => absurd q (by decide)⟩
      · have ew : wt Sc base j = base ^ fb_ct (bt Sc) j := by unfold wt; rw [e]; rfl
        rw [ew] at he
        have eg : g j = g' j := by
          rcases Nat.lt_trichotomy (g j) (g' j) with q | q | q
          · exfalso
            have : (g j + 1) * base ^ fb_ct (bt Sc) j ≤ g' j * base ^ fb_ct (bt Sc) j := Nat.mul_le_mul_right _ q
            rw [Nat.add_mul, Nat.one_mul] at this
            omega
          · exact q
          · exfalso
            have : (g' j + 1) * base ^ fb_ct (bt Sc) j ≤ g j * base ^ fb_ct (bt Sc) j := Nat.mul_le_mul_right _ q
            rw [Nat.add_mul, Nat.one_mul] at this
            omega
        rw [eg] at he
        exact ⟨by omega, fun _ => eg⟩
    by_cases e : d = j
    · rw [e] at hs ⊢; exact both.2 hs
    · exact ih (fun d hd => h1 d (by omega)) (fun d hd => h2 d (by omega)) both.1 d (by omega) hs
end NU
def dg (m t : Int32) (d : Nat) : Nat := (if bt m d then 1 else 0) + 2 * (if bt t d then 1 else 0)
def sn (Sc : Int32) (base : Nat) (m t : Int32) : Nat := wsum Sc base m + 2 * wsum Sc base t
/-- what a state may be -/
def FV (n : Nat) (Sc : Int32) (tr : Bool) (m t : Int32) : Prop := St n m ∧ St n t ∧ (∀ d, d < 32 → bt m d = true → bt t d = false) ∧ sb m Sc ∧ sb t Sc ∧ (tr = false → t = 0)
section NV
variable {Sc : Int32} {base n : Nat} {tr : Bool} {m t m' t' : Int32}
theorem sn_dg : sn Sc base m t = fb_sm (fun d => dg m t d * wt Sc base d) 12 := by
  unfold sn wsum
  have e : (fun d => dg m t d * wt Sc base d) = fun d => (if bt m d then wt Sc base d else 0) + ((if bt t d then wt Sc base d else 0) + (if bt t d then wt Sc base d else 0)) := by
    funext d
    unfold dg
    cases bt m d <;> cases bt t d <;> simp <;> omega
  rw [e, fb_sm_add, fb_sm_add]
  omega
theorem dg_lt (hv : FV n Sc tr m t) (hb : (base = 2 ∧ tr = false) ∨ (base = 3 ∧ tr = true)) (d : Nat) : dg m t d < base := by
  obtain ⟨h1, h2, h3, h4, h5, h6⟩ := hv
  unfold dg
  by_cases hd : d < 32
  · rcases hb with ⟨rfl, hb⟩ | ⟨rfl, hb⟩
    · rw [h6 hb, bt_0]
      cases bt m d <;> simp
    · cases e : bt m d
      · cases bt t d <;> simp
      · rw [h3 d hd e]; simp
  · rw [bt_big _ (by omega), bt_big _ (by omega)]
    rcases hb with ⟨rfl, _⟩ | ⟨rfl, _⟩ <;> simp
theorem sn_lt (hv : FV n Sc tr m t) (hb : (base = 2 ∧ tr = false) ∨ (base = 3 ∧ tr = true)) : sn Sc base m t < base ^ fb_ct (bt Sc) 12 := by
  rw [sn_dg]
  exact num_lt (by omega) 12 (fun d _ => dg_lt hv hb d)
theorem sn_inj (hn : n ≤ 12) (hv : FV n Sc tr m t) (hv' : FV n Sc tr m' t') (hb : (base = 2 ∧ tr = false) ∨ (base = 3 ∧ tr = true)) (e : sn Sc base m t = sn Sc base m' t') : m = m' ∧ t = t' := by
  rw [sn_dg, sn_dg] at e
  have key := num_inj (by omega) 12 (fun d _ => dg_lt hv hb d) (fun d _ => dg_lt hv' hb d) e
  obtain ⟨h1, h2, h3, h4, h5, h6⟩ := hv
  obtain ⟨g1, g2, g3, g4, g5, g6⟩ := hv'
  have bits : ∀ d, d < n → bt m d = bt m' d ∧ bt t d = bt t' d := by
    intro d hd
    by_cases hs : bt Sc d = true
    · have k := key d (by omega) hs
      unfold dg at k
      have a1 := h3 d (by omega)
      have a2 := g3 d (by omega)
      revert k a1 a2
      cases bt m d <;> cases bt m' d <;> cases bt t d <;> cases bt t' d <;> simp
    · have z : ∀ s, sb s Sc → bt s d = false := by
        intro s q
        cases e : bt s d
        · rfl
        · exact absurd (q d (by omega) e) hs
      rw [z m h4, z m' g4, z t h5, z t' g5]
      exact ⟨rfl, rfl⟩
  exact ⟨St_ext h1 g1 (fun d hd => (bits d hd).1), St_ext h2 g2 (fun d hd => (bits d hd).2)⟩
end NV
