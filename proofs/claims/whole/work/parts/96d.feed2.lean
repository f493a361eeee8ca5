section FEE
variable {h : TH} {z : Nat}
theorem five {α : Type} {r0 r1 r2 r3 r4 r5 : Nat → α} {b : Nat → Nat → α} (h1 : ∀ k, (k < z ∨ z + 4 ≤ k) → r1 k = r0 k) (h2 : ∀ k, (k < z + 4 ∨ z + 4 + 4 ≤ k) → r2 k = r1 k) (h3 : ∀ k, (k < z + 4 + 4 ∨ z + 4 + 4 + 4 ≤ k) → r3 k = r2 k) (h4 : ∀ k, (k < z + 4 + 4 + 4 ∨ z + 4 + 4 + 4 + 4 ≤ k) → r4 k = r3 k) (h5 : ∀ k, (k < z + 4 + 4 + 4 + 4 ∨ z + 4 + 4 + 4 + 4 + 4 ≤ k) → r5 k = r4 k) (b1 : ∀ i, i < 4 → r1 (z + i) = b 0 i) (b2 : ∀ i, i < 4 → r2 (z + 4 + i) = b 1 i) (b3 : ∀ i, i < 4 → r3 (z + 4 + 4 + i) = b 2 i) (b4 : ∀ i, i < 4 → r4 (z + 4 + 4 + 4 + i) = b 3 i) (b5 : ∀ i, i < 4 → r5 (z + 4 + 4 + 4 + 4 + i) = b 4 i) : (∀ k, (k < z ∨ z + 20 ≤ k) → r5 k = r0 k) ∧ ∀ m i, m < 5 → i < 4 → r5 (z + 4 * m + i) = b m i := by
  refine ⟨fun k hk => ?_, fun m i hm hi => ?_⟩
  · rw [h5 k (by omega), h4 k (by omega), h3 k (by omega), h2 k (by omega), h1 k (by omega)]
  · rcases (show m = 0 ∨ m = 1 ∨ m = 2 ∨ m = 3 ∨ m = 4 by omega) with rfl | rfl | rfl | rfl | rfl
    · rw [h5 _ (by omega), h4 _ (by omega), h3 _ (by omega), h2 _ (by omega), ← b1 i hi, show z + 4 * 0 + i = z + i by omega]
    · rw [h5 _ (by omega), h4 _ (by omega), h3 _ (by omega), ← b2 i hi, show z + 4 * 1 + i = z + 4 + i by omega]
    · rw [h5 _ (by omega), h4 _ (by omega), ← b3 i hi, show z + 4 * 2 + i = z + 4 + 4 + i by omega]
    · rw [h5 _ (by omega), ← b4 i hi, show z + 4 * 3 + i = z + 4 + 4 + 4 + i by omega]
    · rw [← b5 i hi, show z + 4 * 4 + i = z + 4 + 4 + 4 + 4 + i by omega]
theorem S158 {C : Int32 → TH → Prop} (wd : Nat → Int32) (hz : h.I 9 1 = nI z) (hz9 : z ≤ 900) (kf : 880 < z → C (-1) h) (kt : z ≤ 880 → ∀ g, Sm (fun a => a = 9 ∨ a = 10) h g → (∀ j, j ≠ 1 → g.I 9 j = h.I 9 j) → g.I 9 1 = nI (z + 20) → (∀ k, (k < z ∨ z + 20 ≤ k) → g.I 10 k = h.I 10 k) → (∀ m i, m < 5 → i < 4 → g.I 10 (z + 4 * m + i) = (iushr (wd m) (sft i)) &&& 255) → C (nI (z + 20)) g) : W158 (wd 0) (wd 1) (wd 2) (wd 3) (wd 4) h C := by
  unfold W158 W123
  rw [hz]
  by_cases q : 880 < z
  · rw [if_pos (show (880 : Int32) < nI z from nI_lt (a := 880) q (by omega))]
    show if ¬ (0 : Int32) = 0 then _ else _
    rw [if_neg (fun w => w rfl)]
    exact kf q
  · rw [if_neg (show ¬ (880 : Int32) < nI z from nI_nlt (a := 880) (by omega) (by omega))]
    show if ¬ (1 : Int32) = 0 then _ else _
    rw [if_pos (by decide)]
    refine S124 hz (by omega) (fun g1 s1 f1 c1 r1 b1 => S124 c1 (by omega) (fun g2 s2 f2 c2 r2 b2 => S124 c2 (by omega) (fun g3 s3 f3 c3 r3 b3 => S124 c3 (by omega) (fun g4 s4 f4 c4 r4 b4 => S124 c4 (by omega) (fun g5 s5 f5 c5 r5 b5 => ?_)))))
    rw [c5]
    obtain ⟨w1, w2⟩ := five (b := fun m i => (iushr (wd m) (sft i)) &&& 255) r1 r2 r3 r4 r5 b1 b2 b3 b4 b5
    exact kt (by omega) g5 ((((s1.trans s2).trans s3).trans s4).trans s5) (fun j hj => by rw [f5 j hj, f4 j hj, f3 j hj, f2 j hj, f1 j hj]) c5 w1 w2
theorem S216 {C : Int32 → TH → Prop} (wd : Nat → Int32) (hz : h.I 197 10 = nI z) (hz9 : z ≤ 900) (kf : 880 < z → C (-1) h) (kt : z ≤ 880 → ∀ g, Sm (fun a => a = 197 ∨ a = 203) h g → (∀ j, j ≠ 10 → g.I 197 j = h.I 197 j) → g.I 197 10 = nI (z + 20) → (∀ k, (k < z ∨ z + 20 ≤ k) → g.I 203 k = h.I 203 k) → (∀ m i, m < 5 → i < 4 → g.I 203 (z + 4 * m + i) = (((ishr (wd m) (sft i))).toInt8.toInt32).toInt8.toInt32) → C (nI (z + 20)) g) : W216 (wd 0) (wd 1) (wd 2) (wd 3) (wd 4) h C := by
  unfold W216
  rw [hz, show nI z + 20 = nI (z + 20) from nI_add z 20]
  by_cases q : 880 < z
  · rw [if_neg (show ¬ nI (z + 20) ≤ 900 from nI_ge (a := 900) (by omega) (by omega))]
    exact kf q
  · rw [if_pos (show nI (z + 20) ≤ 900 from nI_le (b := 900) (by omega) (by omega))]
    refine S217 hz (by omega) (fun g1 s1 f1 c1 r1 b1 => S217 c1 (by omega) (fun g2 s2 f2 c2 r2 b2 => S217 c2 (by omega) (fun g3 s3 f3 c3 r3 b3 => S217 c3 (by omega) (fun g4 s4 f4 c4 r4 b4 => S217 c4 (by omega) (fun g5 s5 f5 c5 r5 b5 => ?_)))))
    rw [c5]
    obtain ⟨w1, w2⟩ := five (b := fun m i => (((ishr (wd m) (sft i))).toInt8.toInt32).toInt8.toInt32) r1 r2 r3 r4 r5 b1 b2 b3 b4 b5
    exact kt (by omega) g5 ((((s1.trans s2).trans s3).trans s4).trans s5) (fun j hj => by rw [f5 j hj, f4 j hj, f3 j hj, f2 j hj, f1 j hj]) c5 w1 w2
end FEE
