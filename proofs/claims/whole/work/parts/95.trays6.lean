section TRF
variable {h : TH} {x a y b c : Int32}
theorem S157 {C : Int32 → TH → Prop} (hT : TI h) (kf : ∀ v, v = pourS (h.I 8) (h.I 7) x a y b c → ¬ v = 0 → C 0 (h.sI 0 0 v)) (kt : ∀ i k a' b' c' n m : Nat, pourS (h.I 8) (h.I 7) x a y b c = 0 → i < 4 → k < 4 → x = nI i → y = nI k → a = nI a' → b = nI b' → c = nI c' → h.I 8 i = nI n → h.I 8 k = nI m → n ≤ 60 → m ≤ 60 → a' + c' ≤ n → b' + c' ≤ m → C 1 ((h.cJ (3 + k) (fun l => if b' ≤ l ∧ l < b' + c' then h.J (3 + i) (a' + (l - b')) else h.J (3 + k) l)).sI 0 0 0)) : W157 x a y b c h C := by
  have no : ∀ v, v = pourS (h.I 8) (h.I 7) x a y b c → ¬ v = 0 → W197 v h (fun v2 h3 => (v2 = 0 ∨ v2 = 1) ∧ C v2 h3) := by
    intro v w1 w2
    unfold W197
    exact ⟨Or.inl rfl, kf v w1 w2⟩
  have kt := fun i k a' b' c' n m => kt i k a' b' c' n m
  unfold pourS at no kt
  unfold W157 W140 W142 W143 B157_40
  by_cases h0 : x < 0
  · rw [if_pos h0]
    exact no 1 (by rw [if_pos h0]) (by decide)
  · rw [if_neg h0] at no kt ⊢
    by_cases h1 : (4 : Int32) ≤ x
    · rw [if_pos h1]
      exact no 1 (by rw [if_pos h1]) (by decide)
    · rw [if_neg h1] at no kt ⊢
      show if (1 : Int32) = 0 then _ else _
      rw [if_neg (by decide)]
      by_cases h2 : y < 0
      · rw [if_pos h2]
        exact no 1 (by rw [if_pos h2]) (by decide)
      · rw [if_neg h2] at no kt ⊢
        by_cases h3 : (4 : Int32) ≤ y
        · rw [if_pos h3]
          exact no 1 (by rw [if_pos h3]) (by decide)
        · rw [if_neg h3] at no kt ⊢
          show if (1 : Int32) = 0 then _ else _
          rw [if_neg (by decide)]
          by_cases h4 : a < 0
          · rw [if_pos h4]
            exact no 1 (by rw [if_pos h4]) (by decide)
          · rw [if_neg h4] at no kt ⊢
            by_cases h5 : b < 0
            · rw [if_pos h5]
              exact no 1 (by rw [if_pos h5]) (by decide)
            · rw [if_neg h5] at no kt ⊢
              by_cases h6 : c < 0
              · rw [if_pos h6]
                exact no 1 (by rw [if_pos h6]) (by decide)
              · rw [if_neg h6] at no kt ⊢
                obtain ⟨i, i1, i2⟩ := tray_ix h0 h1
                obtain ⟨k, k1, k2⟩ := tray_ix h2 h3
                obtain ⟨a', a1, a2⟩ := nI_of h4
                obtain ⟨b', b1, b2⟩ := nI_of h5
                obtain ⟨c', c1, c2⟩ := nI_of h6
                subst i2 k2 a2 b2 c2
                rw [ix_n (j := i) (by omega), ix_n (j := k) (by omega)] at no kt ⊢
                refine ⟨inb_n i1, ?_⟩
                by_cases h7 : h.I 8 i = (-1)
                · rw [if_pos h7]
                  exact no 2 (by rw [if_pos h7]) (by decide)
                · rw [if_neg h7] at no kt ⊢
                  show if (1 : Int32) = 0 then _ else _
                  rw [if_neg (by decide)]
                  refine ⟨inb_n k1, ?_⟩
                  by_cases h8 : h.I 8 k = (-1)
                  · rw [if_pos h8]
                    exact no 2 (by rw [if_pos h8]) (by decide)
                  · rw [if_neg h8] at no kt ⊢
                    show if ¬ (1 : Int32) = 0 then _ else _
                    rw [if_pos (by decide)]
                    refine ⟨inb_n i1, inb_n k1, ?_⟩
                    obtain ⟨n, n1, n2⟩ := (hT.many i i1).resolve_left h7
                    obtain ⟨m, m1, m2⟩ := (hT.many k k1).resolve_left h8
                    by_cases h9 : h.I 7 i = h.I 7 k
                    · rw [if_pos h9] at no kt
                      rw [if_neg (fun w => w h9)]
                      show if ¬ (1 : Int32) = 0 then _ else _
                      rw [if_pos (by decide)]
                      refine S144 i1 n2 n1 a1 c1 (fun r1 => ?_) (fun r1 => ?_)
                      · rw [if_neg (by decide)]
                        have h10 : ¬ h.I 8 i - nI a' < nI c' := by rw [n2, run_lt n1 a1 c1]; omega
                        rw [if_neg h10] at no kt
                        refine S144 k1 m2 m1 b1 c1 (fun r2 => ?_) (fun r2 => ?_)
                        · rw [if_pos (by decide)]
                          have h11 : ¬ h.I 8 k - nI b' < nI c' := by rw [m2, run_lt m1 b1 c1]; omega
                          rw [if_neg h11] at kt
                          unfold W149
                          rw [ix_n (j := i) (by omega), ix_n (j := k) (by omega), ix_n (j := a') (by omega), ix_n (j := b') (by omega), ix_n (j := c') (by omega), Nat.one_mul, Nat.one_mul]
                          refine ⟨inb_n i1, inb_n k1, ⟨h6, h5, h4, ?_, ?_⟩, Or.inr rfl, kt i k a' b' c' n m rfl i1 k1 rfl rfl rfl rfl rfl n2 m2 n1 m1 r1 r2⟩
                          · rw [ix_n (j := a') (by omega), ix_n (j := c') (by omega)]; omega
                          · rw [ix_n (j := b') (by omega), ix_n (j := c') (by omega)]; omega
                        · rw [if_neg (fun w => w rfl)]
                          have h11 : h.I 8 k - nI b' < nI c' := by rw [m2, run_lt m1 b1 c1]; omega
                          exact no 3 (by rw [if_pos h11]) (by decide)
                      · rw [if_pos rfl]
                        have h10 : h.I 8 i - nI a' < nI c' := by rw [n2, run_lt n1 a1 c1]; omega
                        exact no 3 (by rw [if_pos h10]) (by decide)
                    · rw [if_pos h9]
                      exact no 8 (by rw [if_neg h9]) (by decide)
end TRF
