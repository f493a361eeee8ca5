section TRB
variable {h : TH} {x y z : Int32}
theorem S156 {C : Int64 → TH → Prop} (hT : TI h) (kf : ∀ v, v = why (h.I 8) x y → ¬ v = 0 → C (-1) (h.sI 0 0 v)) (kt : ∀ i j n, why (h.I 8) x y = 0 → i < 4 → x = nI i → y = nI j → j < n → n ≤ 60 → h.I 8 i = nI n → C (h.J (3 + i) j) (h.sI 0 0 0)) : W156 x y h C := by
  unfold W156
  refine S146 ?_
  rw [I_eq]
  by_cases w : why (h.I 8) x y = 0
  · rw [if_neg (fun q => q w)]
    obtain ⟨i, j, n, i1, i2, i3, i4, i5, i6⟩ := why_0 hT.many w
    have := kt i j n w i1 i2 i3 i4 i5 i6
    subst i2 i3
    unfold W148
    rw [ix_n (by omega), ix_n (by omega), Nat.one_mul, J_sI, w]
    exact ⟨inb_n i1, inb_n (by omega), this⟩
  · rw [if_pos w]
    exact kf _ rfl w
theorem why_pos {m : Nat → Int32} : why m x y = 0 ∨ ¬ why m x y ≤ 0 := by
  unfold why
  split
  · exact Or.inr (by decide)
  · split
    · exact Or.inr (by decide)
    · split
      · exact Or.inr (by decide)
      · split
        · exact Or.inr (by decide)
        · split
          · exact Or.inl rfl
          · exact Or.inr (by decide)
theorem S213 {C : Int64 → TH → Prop} (hT : ∀ i, i < 4 → h.I 201 i = (-1) ∨ ∃ n, n ≤ 60 ∧ h.I 201 i = nI n) (kf : ∀ v, v = why (h.I 201) x y → ¬ v = 0 → C (-1) (h.sI 197 2 v)) (kt : ∀ i j n, why (h.I 201) x y = 0 → i < 4 → x = nI i → y = nI j → j < n → n ≤ 60 → h.I 201 i = nI n → C (h.J 202 (60 * i + j)) (h.sI 197 2 0)) : W213 x y h C := by
  unfold W213
  refine S211 ?_
  rw [I_eq]
  rcases why_pos (m := h.I 201) (x := x) (y := y) with w | w
  · rw [w, if_pos (by decide)]
    obtain ⟨i, j, n, i1, i2, i3, i4, i5, i6⟩ := why_0 hT w
    have := kt i j n w i1 i2 i3 i4 i5 i6
    subst i2 i3
    rw [show (60 : Int32) * nI i + nI j = nI (60 * i + j) by show nI 60 * nI i + nI j = _; rw [pk_mul, nI_add], ix_n (by omega), J_sI]
    exact ⟨inb_n (by omega), this⟩
  · rw [if_neg w]
    exact kf _ rfl (fun q => w (by rw [q]; decide))
/-- a TRAY is laid -/
def trayOk (x y z : Int32) : Prop := ∃ i s n, i < 4 ∧ s < 4 ∧ n ≤ 60 ∧ x = nI i ∧ y = nI s ∧ z = nI n
theorem S328 {C : TH → Prop} {a n : Nat} {v : Int64} (hK : h.K a = 101) (hN : h.N a = n) (hn : n ≤ 60000) (kk : ∀ g, g.n = h.n ∧ g.sl = h.sl ∧ g.K = h.K ∧ g.N = h.N ∧ g.P = h.P ∧ g.I = h.I ∧ (∀ b, b ≠ a → g.J b = h.J b) → (∀ j, j < n → g.J a j = v) → C g) : W328 a v h C := by
  unfold W328 B328_6
  rw [hN]
  refine ⟨hK, ?_⟩
  refine LFP.up n (fun j q => q.1 = nI j ∧ (q.2.n = h.n ∧ q.2.sl = h.sl ∧ q.2.K = h.K ∧ q.2.N = h.N ∧ q.2.P = h.P ∧ q.2.I = h.I ∧ (∀ b, b ≠ a → q.2.J b = h.J b)) ∧ ∀ i, i < j → q.2.J a i = v) ?_ ?_ (Nat.zero_le _) ⟨rfl, ⟨rfl, rfl, rfl, rfl, rfl, rfl, fun _ _ => rfl⟩, fun i hi => absurd hi (Nat.not_lt_zero _)⟩
  · rintro X j ⟨x3, g⟩ hj ⟨e1, ⟨f1, f2, f3, f4, f5, f6, f7⟩, e3⟩ ih
    (try dsimp only at e1 f1 f2 f3 f4 f5 f6 f7 e3)
    subst e1
    unfold F328_6
    (try dsimp only)
    rw [if_neg (nI_ge hj (by omega)), ix_n (by omega)]
    refine ⟨okA_n (by rw [f3]; exact hK) (by rw [f4, hN]; exact hj) (by rw [f4, hN]; exact hn), ih _ ⟨nI_1 j, ⟨f1, f2, f3, f4, f5, f6, fun b hb => ?_⟩, fun i hi => ?_⟩⟩
    · funext k
      (try dsimp only)
      rw [J_ne hb, f7 b hb]
    · (try dsimp only)
      rw [J_at]
      by_cases q : i = j
      · rw [if_pos q]
      · rw [if_neg q]; exact e3 i (by omega)
  · rintro X ⟨x3, g⟩ ⟨e1, e2, e3⟩
    (try dsimp only at e1 e2 e3)
    subst e1
    unfold F328_6
    (try dsimp only)
    rw [if_pos (nI_le (Nat.le_refl _) (by omega))]
    exact kk g e2 e3
theorem tray_args (x y z : Int32) : trayOk x y z ∨ x < 0 ∨ 4 ≤ x ∨ y < 0 ∨ 4 ≤ y ∨ z < 0 ∨ 60 < z := by
  rcases pk_ix x (n := 4) (by omega) with q | q | ⟨i, i1, i2⟩
  · exact Or.inr (Or.inl q)
  · exact Or.inr (Or.inr (Or.inl q))
  · rcases pk_ix y (n := 4) (by omega) with q | q | ⟨s, s1, s2⟩
    · exact Or.inr (Or.inr (Or.inr (Or.inl q)))
    · exact Or.inr (Or.inr (Or.inr (Or.inr (Or.inl q))))
    · rcases pk_ix z (n := 61) (by omega) with q | q | ⟨n, n1, n2⟩
      · exact Or.inr (Or.inr (Or.inr (Or.inr (Or.inr (Or.inl q)))))
      · refine Or.inr (Or.inr (Or.inr (Or.inr (Or.inr (Or.inr ?_)))))
        rw [Int32.lt_iff_toInt_lt]
        rw [Int32.le_iff_toInt_le, nI_toInt (by omega)] at q
        have : (60 : Int32).toInt = 60 := by decide
        omega
      · exact Or.inl ⟨i, s, n, i1, s1, by omega, i2, s2, n2⟩
theorem S154 {C : Int32 → TH → Prop} (hT : TI h) (kf : ¬ trayOk x y z → C 0 (h.sI 0 0 1)) (kt : ∀ (i s n : Nat) (g : TH), i < 4 → s < 4 → n ≤ 60 → x = nI i → y = nI s → z = nI n → g.n = h.n ∧ g.sl = h.sl ∧ g.K = h.K ∧ g.N = h.N ∧ g.P = h.P ∧ g.I = ((h.sI 7 i y).sI 8 i z).I ∧ (∀ b, b ≠ 3 + i → g.J b = h.J b) → (∀ j, j < 60 → g.J (3 + i) j = 0) → C 1 (g.sI 0 0 0)) : W154 x y z h C := by
  unfold W154 W140 W141 B154_36 W197
  by_cases h0 : x < 0
  · rw [if_pos h0]
    exact ⟨Or.inl rfl, kf (fun ⟨i, s, n, i1, s1, n1, i2, s2, n2⟩ => by rw [i2] at h0; exact absurd h0 (nI_pos (by omega)))⟩
  · rw [if_neg h0]
    by_cases h1 : (4 : Int32) ≤ x
    · rw [if_pos h1]
      exact ⟨Or.inl rfl, kf (fun ⟨i, s, n, i1, s1, n1, i2, s2, n2⟩ => by rw [i2] at h1; exact nI_ge (b := 4) i1 (by omega) h1)⟩
    · rw [if_neg h1]
      show if (1 : Int32) = 0 then _ else _
      rw [if_neg (by decide)]
      by_cases h2 : y < 0
      · rw [if_pos h2]
        exact ⟨Or.inl rfl, kf (fun ⟨i, s, n, i1, s1, n1, i2, s2, n2⟩ => by rw [s2] at h2; exact absurd h2 (nI_pos (by omega)))⟩
      · rw [if_neg h2]
        by_cases h3 : (4 : Int32) ≤ y
        · rw [if_pos h3]
          exact ⟨Or.inl rfl, kf (fun ⟨i, s, n, i1, s1, n1, i2, s2, n2⟩ => by rw [s2] at h3; exact nI_ge (b := 4) s1 (by omega) h3)⟩
        · rw [if_neg h3]
          show if (1 : Int32) = 0 then _ else _
          rw [if_neg (by decide)]
          by_cases h4 : z < 0
          · rw [if_pos h4]
            exact ⟨Or.inl rfl, kf (fun ⟨i, s, n, i1, s1, n1, i2, s2, n2⟩ => by rw [n2] at h4; exact absurd h4 (nI_pos (by omega)))⟩
          · rw [if_neg h4]
            by_cases h5 : (60 : Int32) < z
            · rw [if_pos h5]
              exact ⟨Or.inl rfl, kf (fun ⟨i, s, n, i1, s1, n1, i2, s2, n2⟩ => by rw [n2] at h5; exact nI_nlt (a := 60) n1 (by omega) h5)⟩
            · rw [if_neg h5]
              rcases tray_args x y z with q | q | q | q | q | q | q
              · obtain ⟨i, s, n, i1, s1, n1, i2, s2, n2⟩ := q
                unfold W145
                rw [i2, ix_n (by omega), Nat.one_mul]
                have hi := hT i i1
                refine ⟨inb_n i1, inb_n i1, inb_n i1, S328 (n := 60) (by rw [K_sI, K_sI]; exact hi.2.2.2.1) (by rw [N_sI, N_sI]; exact hi.2.2.2.2) (by omega) (fun g w1 w2 => ?_)⟩
                exact ⟨Or.inr rfl, kt i s n g i1 s1 n1 i2 s2 n2 w1 w2⟩
              · exact absurd q h0
              · exact absurd q h1
              · exact absurd q h2
              · exact absurd q h3
              · exact absurd q h4
              · exact absurd q h5
end TRB
