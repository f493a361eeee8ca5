/-! FRACTIONS -/
theorem lN_div {a d : Nat} (ha : a < 2 ^ 31) (h0 : 0 < d) (hd : d < 2 ^ 31) : lN a / lN d = lN (a / d) := by
  apply Int64.toInt_inj.mp
  rw [lg_ldiv_nonneg (by rw [lN_toInt ha]; omega) (by rw [lN_toInt hd]; omega), lN_toInt ha, lN_toInt hd, lN_toInt (Nat.lt_of_le_of_lt (Nat.div_le_self a d) ha)]
  first | rfl | exact (Int.natCast_ediv _ _).symm
theorem lN_rem {a d : Nat} (ha : a < 2 ^ 31) (h0 : 0 < d) (hd : d < 2 ^ 31) : lrem (lN a) (lN d) = lN (a % d) := by
  unfold lrem
  rw [lN_div ha h0 hd, lN_mul, lN_sub (Nat.div_mul_le_self a d)]
  exact congrArg lN (by have := Nat.div_add_mod' a d; omega)
section FRN
variable {h : TH} {a b : Nat}
theorem gcd_step (x y : Nat) : Nat.gcd y (x % y) = Nat.gcd x y := by
  rw [Nat.gcd_comm y (x % y), ← Nat.gcd_rec, Nat.gcd_comm]
theorem S199 {C : TH → Prop} (ha : a < 2 ^ 20) (hb : b < 2 ^ 11) (h0 : 0 < b) (k : C ((h.sJ 0 1 (lN (a / Nat.gcd a b))).sJ 0 2 (lN (b / Nat.gcd a b)))) : W199 (nI a) (nI b) h C := by
  have done : ∀ x, x = Nat.gcd a b → B199_39 (nI a) (nI b) (nI x) h C := by
    intro x hx
    have gp : 0 < Nat.gcd a b := Nat.gcd_pos_of_pos_right a h0
    have gl : Nat.gcd a b ≤ b := Nat.le_of_dvd h0 (Nat.gcd_dvd_right a b)
    subst hx
    unfold B199_39
    rw [if_neg (nI_nle gp (by omega)), pk_div (by omega) gp (by omega), pk_div (by omega) gp (by omega), nI_l (Nat.lt_of_le_of_lt (Nat.div_le_self _ _) (by omega)), nI_l (Nat.lt_of_le_of_lt (Nat.div_le_self _ _) (by omega))]
    exact ⟨nI_ne0 gp (by omega), nI_ne0 gp (by omega), k⟩
  unfold W199 B199_8
  refine LFP.up 64 (fun j z => ∃ x y, z = (nI x, nI y, nI j, h) ∧ x < 2 ^ 20 ∧ y < 2 ^ 20 ∧ Nat.gcd x y = Nat.gcd a b ∧ (j = 0 ∨ (y < x ∧ x * y * 2 ^ j < 2 ^ 42))) ?_ ?_ (Nat.zero_le _) ⟨b, a, rfl, by omega, ha, Nat.gcd_comm b a, Or.inl rfl⟩
  · rintro X j ⟨x3, x4, x5, g⟩ hj ⟨x, y, e1, e2, e3, e4, e5⟩ ih
    cases e1
    unfold F199_8
    (try dsimp only)
    rw [if_neg (show ¬ (64 : Int32) ≤ nI j from nI_ge (b := 64) hj (by omega))]
    by_cases z : y = 0
    · rw [z, if_pos nI_0]
      refine done x ?_
      rw [← e4, z, Nat.gcd_zero_right]
    · rw [if_neg (nI_ne0 (by omega) (by omega))]
      refine ⟨nI_ne0 (by omega) (by omega), ih _ ⟨y, x % y, ?_, e3, ?_, ?_, Or.inr ⟨Nat.mod_lt _ (by omega), ?_⟩⟩⟩
      · rw [show irem (nI x) (nI y) = nI (x % y) from pk_rem (by omega) (by omega) (by omega), nI_1]
      · have := Nat.mod_lt x (show 0 < y by omega); omega
      · rw [gcd_step, e4]
      · have m1 := Nat.mod_lt x (show 0 < y by omega)
        rcases e5 with e5 | ⟨e5, e6⟩
        · subst e5
          have : y * (x % y) ≤ 2 ^ 20 * 2 ^ 20 := Nat.mul_le_mul (by omega) (by omega)
          have q1 : y * (x % y) * 2 ^ (0 + 1) = 2 * (y * (x % y)) := by rw [Nat.mul_comm]
          rw [q1]
          omega
        · have m2 : 2 * (x % y) ≤ x := by
            have := Nat.div_add_mod x y
            have d1 : 0 < x / y := Nat.div_pos (by omega) (by omega)
            have : y * 1 ≤ y * (x / y) := Nat.mul_le_mul_left y d1
            omega
          have m3 : y * (2 * (x % y)) ≤ y * x := Nat.mul_le_mul_left y m2
          refine Nat.lt_of_le_of_lt ?_ e6
          rw [Nat.pow_succ, show y * (x % y) * (2 ^ j * 2) = y * (2 * (x % y)) * 2 ^ j by rw [Nat.mul_comm (2 ^ j) 2, ← Nat.mul_assoc, Nat.mul_assoc y, Nat.mul_comm (x % y) 2], Nat.mul_comm x y]
          exact Nat.mul_le_mul_right _ m3
  · rintro X ⟨x3, x4, x5, g⟩ ⟨x, y, e1, e2, e3, e4, e5⟩
    cases e1
    unfold F199_8
    (try dsimp only)
    rw [if_pos (show (64 : Int32) ≤ nI 64 from nI_le (Nat.le_refl _) (by omega))]
    refine done x ?_
    have : y = 0 := by
      rcases e5 with e5 | ⟨e5, e6⟩
      · omega
      · refine Classical.byContradiction (fun q => ?_)
        have : 1 * 1 ≤ x * y := Nat.mul_le_mul (by omega) (by omega)
        have : 1 * 2 ^ 64 ≤ x * y * 2 ^ 64 := Nat.mul_le_mul_right _ this
        omega
    rw [← e4, this, Nat.gcd_zero_right]
theorem S207 {C : Int32 → TH → Prop} (ha : a < 2 ^ 20) (hb : b < 2 ^ 20) (h0 : 0 < b) (k : C 1 (((h.sJ 197 3 (lN (a / Nat.gcd a b))).sJ 197 4 (lN (b / Nat.gcd a b))).sI 197 2 0)) : W207 (lN a) (lN b) h C := by
  unfold W207 B207_6
  refine LFP.ix (fun m z => ∃ x, z = (lN x, lN m, h) ∧ x < 2 ^ 20 ∧ m < 2 ^ 20 ∧ Nat.gcd x m = Nat.gcd a b) ?_ (k := b) ⟨a, rfl, ha, hb, rfl⟩
  rintro X m ⟨x5, x7, g⟩ ⟨x, e1, e2, e3, e4⟩ ih
  cases e1
  have gp : 0 < Nat.gcd a b := Nat.gcd_pos_of_pos_right a h0
  unfold F207_6
  (try dsimp only)
  by_cases z : m = 0
  · rw [z, if_pos (lgc_eq.mpr (show lN 0 = 0 from rfl))]
    have : x = Nat.gcd a b := by rw [← e4, z, Nat.gcd_zero_right]
    have ne : ¬ lN x = 0 := fun q => by rw [show (0 : Int64) = lN 0 from rfl, lN_eq (by omega) (by omega)] at q; omega
    refine ⟨ne, ne, ?_⟩
    unfold W204
    rw [if_neg (fun q => q rfl), lN_div (by omega) (by omega) (by omega), lN_div (by omega) (by omega) (by omega), this]
    exact ⟨Or.inr rfl, k⟩
  · have ne : ¬ lN m = 0 := fun q => by rw [show (0 : Int64) = lN 0 from rfl, lN_eq (by omega) (by omega)] at q; omega
    rw [if_neg (fun q => ne (lgc_eq.mp q))]
    refine ⟨ne, ih (x % m) _ (Nat.mod_lt _ (by omega)) ⟨m, ?_, e3, ?_, ?_⟩⟩
    · rw [lN_rem (by omega) (by omega) (by omega)]
    · have := Nat.mod_lt x (show 0 < m by omega); omega
    · rw [gcd_step, e4]
end FRN
