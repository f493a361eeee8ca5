def pourS (m so : Nat → Int32) (x a y b c : Int32) : Int32 := if x < 0 then 1 else if 4 ≤ x then 1 else if y < 0 then 1 else if 4 ≤ y then 1 else if a < 0 then 1 else if b < 0 then 1 else if c < 0 then 1 else if m (ix x) = (-1) then 2 else if m (ix y) = (-1) then 2 else if so (ix x) = so (ix y) then (if m (ix x) - a < c then 3 else if m (ix y) - b < c then 3 else 0) else 8
section TRE
variable {h : TH} {x a y b c : Int32}
theorem pourS_eq {m m' so so' : Nat → Int32} (hm : ∀ i, i < 4 → m i = m' i) (hs : ∀ i, i < 4 → so i = so' i) : pourS m so x a y b c = pourS m' so' x a y b c := by
  unfold pourS
  by_cases h0 : x < 0
  · rw [if_pos h0, if_pos h0]
  · rw [if_neg h0, if_neg h0]
    by_cases h1 : (4 : Int32) ≤ x
    · rw [if_pos h1, if_pos h1]
    · rw [if_neg h1, if_neg h1]
      by_cases h2 : y < 0
      · rw [if_pos h2, if_pos h2]
      · rw [if_neg h2, if_neg h2]
        by_cases h3 : (4 : Int32) ≤ y
        · rw [if_pos h3, if_pos h3]
        · rw [if_neg h3, if_neg h3]
          obtain ⟨i, i1, i2⟩ := tray_ix h0 h1
          obtain ⟨k, k1, k2⟩ := tray_ix h2 h3
          rw [i2, k2, ix_n (by omega), ix_n (by omega), hm i i1, hm k k1, hs i i1, hs k k1]
theorem S214 {C : Int32 → TH → Prop} (hT : ∀ i, i < 4 → h.I 201 i = (-1) ∨ ∃ n, n ≤ 60 ∧ h.I 201 i = nI n) (kf : ∀ v, v = pourS (h.I 201) (h.I 200) x a y b c → ¬ v = 0 → C 0 (h.sI 197 2 v)) (kt : ∀ i k a' b' c' n m : Nat, pourS (h.I 201) (h.I 200) x a y b c = 0 → i < 4 → k < 4 → x = nI i → y = nI k → a = nI a' → b = nI b' → c = nI c' → h.I 201 i = nI n → h.I 201 k = nI m → n ≤ 60 → m ≤ 60 → a' + c' ≤ n → b' + c' ≤ m → B214_118 (nI i) (nI a') (nI k) (nI b') (nI c') 0 h C) : W214 x a y b c h C := by
  have no : ∀ v, v = pourS (h.I 201) (h.I 200) x a y b c → ¬ v = 0 → W204 v h (fun v2 h3 => (v2 = 0 ∨ v2 = 1) ∧ C v2 h3) := by
    intro v w1 w2
    unfold W204
    rw [if_pos w2]
    exact ⟨Or.inl rfl, kf v w1 w2⟩
  have kt := fun i k a' b' c' n m => kt i k a' b' c' n m
  unfold pourS at no kt
  unfold W214 W208
  by_cases h0 : x < 0
  · rw [if_pos h0]
    exact no 1 (by rw [if_pos h0]) (by decide)
  · rw [if_neg h0] at no kt ⊢
    by_cases h1 : (4 : Int32) ≤ x
    · rw [if_pos h1]
      exact no 1 (by rw [if_pos h1]) (by decide)
    · rw [if_neg h1] at no kt ⊢
      show if (1 : Int32) = 0 then _ else _
      rw [if_neg (by decide)]
      by_cases h2 : y < 0
      · rw [if_pos h2]
        exact no 1 (by rw [if_pos h2]) (by decide)
      · rw [if_neg h2] at no kt ⊢
        by_cases h3 : (4 : Int32) ≤ y
        · rw [if_pos h3]
          exact no 1 (by rw [if_pos h3]) (by decide)
        · rw [if_neg h3] at no kt ⊢
          show if (1 : Int32) = 0 then _ else _
          rw [if_neg (by decide)]
          by_cases h4 : a < 0
          · rw [if_pos h4]
            exact no 1 (by rw [if_pos h4]) (by decide)
          · rw [if_neg h4] at no kt ⊢
            by_cases h5 : b < 0
            · rw [if_pos h5]
              exact no 1 (by rw [if_pos h5]) (by decide)
            · rw [if_neg h5] at no kt ⊢
              by_cases h6 : c < 0
              · rw [if_neg (Int32.not_le.mpr h6)]
                exact no 1 (by rw [if_pos h6]) (by decide)
              · rw [if_neg h6] at no kt
                rw [if_pos (Int32.not_lt.mp h6)]
                obtain ⟨i, i1, i2⟩ := tray_ix h0 h1
                obtain ⟨k, k1, k2⟩ := tray_ix h2 h3
                obtain ⟨a', a1, a2⟩ := nI_of h4
                obtain ⟨b', b1, b2⟩ := nI_of h5
                obtain ⟨c', c1, c2⟩ := nI_of h6
                subst i2 k2 a2 b2 c2
                rw [ix_n (j := i) (by omega), ix_n (j := k) (by omega)] at no kt ⊢
                refine ⟨inb_n i1, ?_⟩
                by_cases h7 : h.I 201 i = (-1)
                · rw [if_pos h7]
                  exact no 2 (by rw [if_pos h7]) (by decide)
                · rw [if_neg h7] at no kt ⊢
                  refine ⟨inb_n k1, ?_⟩
                  by_cases h8 : h.I 201 k = (-1)
                  · rw [if_neg (fun w => w h8)]
                    exact no 2 (by rw [if_pos h8]) (by decide)
                  · rw [if_neg h8] at no kt
                    rw [if_pos h8]
                    refine ⟨inb_n i1, inb_n k1, ?_⟩
                    obtain ⟨n, n1, n2⟩ := (hT i i1).resolve_left h7
                    obtain ⟨m, m1, m2⟩ := (hT k k1).resolve_left h8
                    by_cases h9 : h.I 200 i = h.I 200 k
                    · rw [if_pos h9] at no kt ⊢
                      refine ⟨inb_n i1, ?_⟩
                      by_cases h10 : h.I 201 i - nI a' < nI c'
                      · rw [if_pos h10]
                        exact no 3 (by rw [if_pos h10]) (by decide)
                      · rw [if_neg h10] at no kt ⊢
                        refine ⟨inb_n k1, ?_⟩
                        by_cases h11 : h.I 201 k - nI b' < nI c'
                        · rw [if_neg (Int32.not_le.mpr h11)]
                          exact no 3 (by rw [if_pos h11]) (by decide)
                        · rw [if_neg h11] at kt
                          rw [if_pos (Int32.not_lt.mp h11)]
                          rw [n2, run_lt n1 a1 c1] at h10
                          rw [m2, run_lt m1 b1 c1] at h11
                          exact kt i k a' b' c' n m rfl i1 k1 rfl rfl rfl rfl rfl n2 m2 n1 m1 (by omega) (by omega)
                    · rw [if_neg h9]
                      exact no 8 (by rw [if_neg h9]) (by decide)
end TRE
