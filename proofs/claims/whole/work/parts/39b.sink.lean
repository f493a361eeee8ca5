/-! sink -/
section SK
variable {h h' : TH} {t n a5 a6 a7 a8 w : Nat} {k V : Nat → Nat} {C : TH → Prop}
theorem S40 (ha : Arr h t n a5 a6 a7 a8) (hn : n ≤ 12) (ht : is2 t) (hwt : h.I t 10 = nI w) (hk : ∀ u, u < 2 ^ n → h.I a5 u = nI (k u) ∧ k u ≤ 2147483647) (hw : w ≤ 2 ^ n) (h00 : h.I a6 0 = nI (V 0)) (hho : Hole h a6 a7 n w 0 V) (hd : ∀ i, 0 < i → i < w → (i - 1) / 2 ≠ 0 → k (V ((i - 1) / 2)) ≤ k (V i)) (kk : ∀ h' V', Sm (in67 a6 a7) h h' → HpOk h' a6 a7 n k w V' → (∀ z, (∃ i, i < w ∧ V' i = z) ↔ ∃ i, i < w ∧ V i = z) → C h') : W40 t h C := by
  have p12 : 2 ^ n ≤ 2 ^ 12 := Nat.pow_le_pow_right (by omega) hn
  have h2 := is2_rng ht
  have hpw := hho.1
  have hu : V 0 < 2 ^ n := hho.2.1 0 hpw
  obtain ⟨q5, q6, q7, q8, qa, n56, n57, n58, n67, n68, n78⟩ := ha
  have ha : Arr h t n a5 a6 a7 a8 := ⟨q5, q6, q7, q8, qa, n56, n57, n58, n67, n68, n78⟩
  have b6 := qa a6 (Or.inr (Or.inl rfl))
  have b7 := qa a7 (Or.inr (Or.inr (Or.inl rfl)))
  unfold W40
  rw [R_of q6, ix_0, h00]
  refine ⟨q6, ha.ok6 (u := 0) (by omega), ?_⟩
  unfold B40_11
  refine LFP.ix (fun m q => ∃ c V' T, q.1 = nI c ∧ q.2.1 = nI T ∧ m + c = w ∧ T ≤ c ∧ Sm (in67 a6 a7) h q.2.2 ∧ Hole q.2.2 a6 a7 n w c V' ∧ V' c = V 0 ∧ (∀ i, 0 < i → i < w → (i - 1) / 2 ≠ c → k (V' ((i - 1) / 2)) ≤ k (V' i)) ∧ (∀ i, 0 < i → i < w → (i - 1) / 2 = c → 0 < c → k (V' ((c - 1) / 2)) ≤ k (V' i)) ∧ ∀ z, (∃ i, i < w ∧ V' i = z) ↔ ∃ i, i < w ∧ V i = z) ?_ (k := w) ⟨0, V, 0, rfl, rfl, rfl, by omega, Sm.refl, hho, rfl, hd, fun _ _ _ _ q => absurd q (by omega), fun z => Iff.rfl⟩
  rintro X m ⟨x2, x3, g⟩ ⟨c, V', T, e1, e2, em, e3, e4, e5, e6, e7, e8, e9⟩ ih
  dsimp only at e1 e2 e4 e5
  subst e1 e2
  have hg := ha.sm e4
  obtain ⟨r5, r6, r7, r8, ra, -⟩ := hg
  have hg := ha.sm e4
  have hcw := e5.1
  have hwg : g.I t 10 = nI w := by rw [e4.I (by unfold in67; omega)]; exact hwt
  have hkg : ∀ u, u < 2 ^ n → g.I a5 u = nI (k u) ∧ k u ≤ 2147483647 := by
    intro u hu
    rw [e4.I (by unfold in67; omega)]
    exact hk u hu
  have fin : (∀ i, 0 < i → i < w → k (V' ((i - 1) / 2)) ≤ k (V' i)) → B40_138 t (nI (V 0)) (nI c) g C := by
    intro q
    unfold B40_138
    simp only [R_sI, P_sI]
    rw [R_of r6, R_of r7, ix_n (by omega), ix_n (by omega)]
    refine ⟨r6, hg.ok6 (by omega), r7, hg.ok7 hu, ?_⟩
    rw [← e6]
    exact kk _ V' ((e4.sI (Or.inl rfl) _).sI (Or.inr rfl) _) (e5.fill n67 q) e9
  /- the lesser child b -/
  have down : ∀ b, b < w → (b = 2 * c + 1 ∨ b = 2 * c + 2) → (∀ i, i < w → (i = 2 * c + 1 ∨ i = 2 * c + 2) → k (V' b) ≤ k (V' i)) → B40_80 t (nI (V 0)) (nI c) (nI T) (nI b) g C X := by
    intro b hb hbc hmin
    have eb : g.I a6 b = nI (V' b) := e5.2.2.2.1 b hb (by omega)
    have lb : V' b < 2 ^ n := e5.2.1 b hb
    unfold B40_80
    simp only [R_sI, P_sI]
    rw [R_of r5, R_of r6, R_of r7, ix_n (j := b) (by omega), eb, ix_n (j := V' b) (by omega), (hkg _ lb).1, ix_n (j := V 0) (by omega), (hkg _ hu).1, ix_n (j := c) (by omega), I_eq, ix_n (j := V' b) (by omega)]
    refine ⟨r5, r6, hg.ok6 (by omega), hg.ok5 lb, r5, hg.ok5 hu, ?_⟩
    have k1 := (hkg _ lb).2
    have k2 := (hkg _ hu).2
    by_cases e : k (V' b) < k (V 0)
    · rw [if_pos (nI_lt e (by omega))]
      refine ⟨r6, r6, hg.ok6 (by omega), hg.ok6 (by omega), r7, r6, hg.ok6 (by omega), hg.ok7 lb, ?_⟩
      refine ih (w - b) _ (by omega) ⟨b, sw2 V' c b, T + 1, rfl, nI_1 T, by omega, by omega, (e4.sI (Or.inl rfl) _).sI (Or.inr rfl) _, e5.move n67 hb (by omega), ?_, ?_, ?_, fun z => (sw2_mem hb hcw z).trans (e9 z)⟩
      · rw [sw2_b, e6]
      · intro i i1 i2 i3
        rcases sw2_cases V' c b i with ⟨p1, p2⟩ | ⟨p1, p2⟩ | ⟨p0, p1, p2⟩
        · rw [p2]
          have a1 : sw2 V' c b ((i - 1) / 2) = V' ((i - 1) / 2) := sw2_ne (by omega) (by omega)
          rw [a1, p1]
          exact e8 b (by omega) hb (by omega) (by omega)
        · rw [p2, show (i - 1) / 2 = c by omega, sw2_a, e6]; omega
        · rw [p2]
          rcases sw2_cases V' c b ((i - 1) / 2) with ⟨r1, r2⟩ | ⟨r1, r2⟩ | ⟨r0, r1, r2⟩ <;> rw [r2]
          · exact hmin i i2 (by omega)
          · exact absurd r1 i3
          · exact e7 i i1 i2 r0
      · intro i i1 i2 i3 i4
        rw [show (b - 1) / 2 = c by omega, sw2_a, sw2_ne (by omega) (by omega)]
        have := e7 i i1 i2 (by omega)
        rwa [i3] at this
    · rw [if_neg (nI_nlt (by omega) (by omega))]
      refine fin (fun i h1 h2 => ?_)
      by_cases e9 : (i - 1) / 2 = c
      · rw [e9, e6]
        have := hmin i h2 (by omega)
        omega
      · exact e7 i h1 h2 e9
  have hx : nI c * 2 + 1 = nI (2 * c + 1) := by
    show nI c * nI 2 + nI 1 = _
    rw [pk_mul, nI_add, Nat.mul_comm]
  unfold F40_11
  dsimp only
  rw [if_neg (show ¬ (4096 : Int32) ≤ nI T from nI_ge (b := 4096) (by omega) (by omega)), hx, nI_1, hwg]
  by_cases e0 : w ≤ 2 * c + 1
  · rw [if_pos (nI_le e0 (by omega))]
    refine fin (fun i h1 h2 => e7 i h1 h2 (by omega))
  · rw [if_neg (nI_ge (by omega) (by omega))]
    by_cases e01 : w ≤ 2 * c + 1 + 1
    · rw [if_pos (nI_le e01 (by omega))]
      refine down (2 * c + 1) (by omega) (Or.inl rfl) (fun i h1 h2 => ?_)
      rw [show i = 2 * c + 1 by omega]
      exact Nat.le_refl _
    · rw [if_neg (nI_ge (by omega) (by omega))]
      have eb1 : g.I a6 (2 * c + 1) = nI (V' (2 * c + 1)) := e5.2.2.2.1 _ (by omega) (by omega)
      have lb1 : V' (2 * c + 1) < 2 ^ n := e5.2.1 _ (by omega)
      have eb2 : g.I a6 (2 * c + 1 + 1) = nI (V' (2 * c + 1 + 1)) := e5.2.2.2.1 _ (by omega) (by omega)
      have lb2 : V' (2 * c + 1 + 1) < 2 ^ n := e5.2.1 _ (by omega)
      rw [R_of r5, R_of r6, ix_n (j := 2 * c + 1) (by omega), ix_n (j := 2 * c + 1 + 1) (by omega), eb1, eb2, ix_n (j := V' (2 * c + 1)) (by omega), ix_n (j := V' (2 * c + 1 + 1)) (by omega), (hkg _ lb1).1, (hkg _ lb2).1]
      refine ⟨r5, r6, hg.ok6 (by omega), hg.ok5 lb2, r5, r6, hg.ok6 (by omega), hg.ok5 lb1, ?_⟩
      have k1 := (hkg _ lb1).2
      have k2 := (hkg _ lb2).2
      by_cases e : k (V' (2 * c + 1)) ≤ k (V' (2 * c + 1 + 1))
      · rw [if_pos (nI_le e (by omega))]
        refine down (2 * c + 1) (by omega) (Or.inl rfl) (fun i h1 h2 => ?_)
        rcases h2 with rfl | rfl
        · exact Nat.le_refl _
        · exact e
      · rw [if_neg (nI_ge (by omega) (by omega))]
        refine down (2 * c + 1 + 1) (by omega) (Or.inr rfl) (fun i h1 h2 => ?_)
        rcases h2 with rfl | rfl
        · omega
        · exact Nat.le_refl _
end SK
