section TRC
variable {h : TH} {x y z : Int32}
theorem S210 {C : Int32 → TH → Prop} (kf : ¬ trayOk x y z → C 0 (h.sI 197 2 1)) (kt : ∀ (i s n : Nat) (g : TH), i < 4 → s < 4 → n ≤ 60 → x = nI i → y = nI s → z = nI n → g.n = h.n ∧ g.sl = h.sl ∧ g.K = h.K ∧ g.N = h.N ∧ g.P = h.P ∧ g.I = ((h.sI 200 i y).sI 201 i z).I ∧ (∀ b, b ≠ 202 → g.J b = h.J b) → (∀ j, j < n → g.J 202 (60 * i + j) = 0) → (∀ k, (k < 60 * i ∨ 60 * i + 60 ≤ k) → g.J 202 k = h.J 202 k) → C 1 (g.sI 197 2 0)) : W210 x y z h C := by
  have no : ∀ (w : ¬ trayOk x y z), W204 1 h (fun v2 h3 => (v2 = 0 ∨ v2 = 1) ∧ C v2 h3) := by
    intro w
    unfold W204
    rw [if_pos (by decide)]
    exact ⟨Or.inl rfl, kf w⟩
  unfold W210 W208
  by_cases h0 : x < 0
  · rw [if_pos h0]
    exact no (fun ⟨i, s, n, i1, s1, n1, i2, s2, n2⟩ => by rw [i2] at h0; exact absurd h0 (nI_pos (by omega)))
  · rw [if_neg h0]
    by_cases h1 : (4 : Int32) ≤ x
    · rw [if_pos h1]
      exact no (fun ⟨i, s, n, i1, s1, n1, i2, s2, n2⟩ => by rw [i2] at h1; exact nI_ge (b := 4) i1 (by omega) h1)
    · rw [if_neg h1]
      show if (1 : Int32) = 0 then _ else _
      rw [if_neg (by decide)]
      by_cases h2 : y < 0
      · rw [if_pos h2]
        exact no (fun ⟨i, s, n, i1, s1, n1, i2, s2, n2⟩ => by rw [s2] at h2; exact absurd h2 (nI_pos (by omega)))
      · rw [if_neg h2]
        by_cases h3 : (3 : Int32) < y
        · rw [if_pos h3]
          exact no (fun ⟨i, s, n, i1, s1, n1, i2, s2, n2⟩ => by rw [s2] at h3; exact nI_nlt (a := 3) (by omega) (by omega) h3)
        · rw [if_neg h3]
          by_cases h4 : z < 0
          · rw [if_pos h4]
            exact no (fun ⟨i, s, n, i1, s1, n1, i2, s2, n2⟩ => by rw [n2] at h4; exact absurd h4 (nI_pos (by omega)))
          · rw [if_neg h4]
            by_cases h5 : z ≤ (60 : Int32)
            · rw [if_pos h5]
              have ok : trayOk x y z := by
                rcases tray_args x y z with q | q | q | q | q | q | q
                · exact q
                · exact absurd q h0
                · exact absurd q h1
                · exact absurd q h2
                · exfalso
                  apply h3
                  rw [Int32.lt_iff_toInt_lt]
                  rw [Int32.le_iff_toInt_le] at q
                  have a1 : (3 : Int32).toInt = 3 := by decide
                  have a2 : (4 : Int32).toInt = 4 := by decide
                  omega
                · exact absurd q h4
                · exact absurd h5 (Int32.not_le.mpr q)
              obtain ⟨i, s, n, i1, s1, n1, i2, s2, n2⟩ := ok
              have kt := fun g => kt i s n g i1 s1 n1 i2 s2 n2
              rw [i2, n2, ix_n (by omega)]
              rw [n2] at kt
              refine ⟨inb_n i1, inb_n i1, ?_⟩
              unfold B210_49
              have e1 : ((h.sI 200 i y).sI 201 i (nI n)).J = h.J := rfl
              have e2 : ((h.sI 200 i y).sI 201 i (nI n)).n = h.n ∧ ((h.sI 200 i y).sI 201 i (nI n)).sl = h.sl ∧ ((h.sI 200 i y).sI 201 i (nI n)).K = h.K ∧ ((h.sI 200 i y).sI 201 i (nI n)).N = h.N ∧ ((h.sI 200 i y).sI 201 i (nI n)).P = h.P := ⟨rfl, rfl, rfl, rfl, rfl⟩
              generalize ((h.sI 200 i y).sI 201 i (nI n)) = H at e1 e2 kt ⊢
              refine LFP.up n (fun j q => q.1 = nI j ∧ (q.2.n = h.n ∧ q.2.sl = h.sl ∧ q.2.K = h.K ∧ q.2.N = h.N ∧ q.2.P = h.P ∧ q.2.I = H.I ∧ (∀ b, b ≠ 202 → q.2.J b = h.J b)) ∧ (∀ k, k < j → q.2.J 202 (60 * i + k) = 0) ∧ ∀ k, (k < 60 * i ∨ 60 * i + 60 ≤ k) → q.2.J 202 k = h.J 202 k) ?_ ?_ (Nat.zero_le _) ⟨rfl, ⟨e2.1, e2.2.1, e2.2.2.1, e2.2.2.2.1, e2.2.2.2.2, rfl, fun b _ => by (try dsimp only); rw [e1]⟩, fun k hk => absurd hk (Nat.not_lt_zero _), fun k _ => by (try dsimp only); rw [e1]⟩
              · rintro X j ⟨x4, g⟩ hj ⟨f0, ⟨f1, f2, f3, f4, f5, f6, f7⟩, f8, f9⟩ ih
                (try dsimp only at f0 f1 f2 f3 f4 f5 f6 f7 f8 f9)
                subst f0
                unfold F210_49
                (try dsimp only)
                rw [if_neg (nI_ge hj (by omega)), show (60 : Int32) * nI i + nI j = nI (60 * i + j) by show nI 60 * nI i + nI j = _; rw [pk_mul, nI_add], ix_n (by omega)]
                refine ⟨inb_n (by omega), ih _ ⟨nI_1 j, ⟨f1, f2, f3, f4, f5, f6, fun b hb => ?_⟩, fun k hk => ?_, fun k hk => ?_⟩⟩
                · funext k
                  (try dsimp only)
                  rw [J_ne hb, f7 b hb]
                · (try dsimp only)
                  rw [J_at]
                  by_cases q : k = j
                  · rw [if_pos (by omega)]
                  · rw [if_neg (by omega)]; exact f8 k (by omega)
                · (try dsimp only)
                  rw [J_at, if_neg (by omega)]; exact f9 k hk
              · rintro X ⟨x4, g⟩ ⟨f0, f1, f8, f9⟩
                (try dsimp only at f0 f1 f8 f9)
                subst f0
                unfold F210_49 W204
                (try dsimp only)
                rw [if_pos (nI_le (Nat.le_refl _) (by omega)), if_neg (fun q => q rfl)]
                exact ⟨Or.inr rfl, kt g f1 f8 f9⟩
            · rw [if_neg h5]
              exact no (fun ⟨i, s, n, i1, s1, n1, i2, s2, n2⟩ => by rw [n2] at h5; exact h5 (nI_le (b := 60) n1 (by omega)))
/-- the TRAYS of both, after a call -/
theorem TI.frame {g : TH} (hT : TI h) (h1 : g.I 7 = h.I 7) (h2 : g.I 8 = h.I 8) (h3 : g.I 200 = h.I 200) (h4 : g.I 201 = h.I 201) (h5 : ∀ i, i < 4 → g.J (3 + i) = h.J (3 + i) ∧ g.K (3 + i) = h.K (3 + i) ∧ g.N (3 + i) = h.N (3 + i)) (h6 : g.J 202 = h.J 202) : TI g := by
  intro i hi
  obtain ⟨w1, w2, w3⟩ := h5 i hi
  rw [h1, h2, h3, h4, h6, w1, w2, w3]
  exact hT i hi
theorem TI.write {g : TH} {i j n : Nat} {v : Int64} (hT : TI h) (hi : i < 4) (hj : j < n) (hn : n ≤ 60) (h8 : h.I 8 i = nI n) (gI : ∀ a, a = 7 ∨ a = 8 ∨ a = 200 ∨ a = 201 → g.I a = h.I a) (gJ : ∀ k, k < 4 → ∀ l, g.J (3 + k) l = if k = i ∧ l = j then v else h.J (3 + k) l) (gM : ∀ l, g.J 202 l = if l = 60 * i + j then v else h.J 202 l) (gK : ∀ k, k < 4 → g.K (3 + k) = h.K (3 + k) ∧ g.N (3 + k) = h.N (3 + k)) : TI g := by
  intro k hk
  obtain ⟨t1, t2, t3, t4, t5⟩ := hT k hk
  rw [gI 7 (by omega), gI 8 (by omega), gI 200 (by omega), gI 201 (by omega), (gK k hk).1, (gK k hk).2]
  refine ⟨t1, t2, t3.imp id (fun ⟨m, m1, m2, m3⟩ => ⟨m, m1, m2, fun l hl => ?_⟩), t4, t5⟩
  rw [gJ k hk, gM]
  by_cases q : k = i ∧ l = j
  · rw [if_pos q, if_pos (by omega)]
  · rw [if_neg q, if_neg (fun w => q (by omega))]
    exact m3 l hl
end TRC
