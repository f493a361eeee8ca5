section CRE
variable {h : TH} {M : Nat → Int32} {goal Sc : Int32} {tm L a3 a4 F A : Nat} {q : Nat → Nat} {C : TH → Prop} {Gd : Nat → Prop}
/-- washed, as long as there are more -/
theorem S118 {x : Int32} (hw : Wf M) (hx : x = nI A) (hAF : A ≤ F) (hq : RQ h tm M goal Sc L a3 a4 q F) (hG : ∀ i, i < F → Gd (q i)) (hGw : ∀ u, u < 2 ^ aN M → Gd u → ∀ d, d < aN M → Gd (ix (nI u &&& (ishl 1 (nI d) ^^^ (-1))))) (kk : ∀ g q' F', Sm (inRq a3 a4) h g → RQ g tm M goal Sc L a3 a4 q' F' → CqE q F q' F' → (∀ i, i < F' → Gd (q' i)) → (∀ i, A ≤ i → i < F' → ∀ d, d < aN M → inQ q' F' (ix (nI (q' i) &&& (ishl 1 (nI d) ^^^ (-1))))) → C g) : W118 x h C := by
  have h12 := hw.n12
  have p12 := pow12 h12
  subst hx
  have fA := hq.le
  unfold W118 B118_2
  refine LFP.up (2 ^ aN M) (fun j z => z.1 = nI j ∧ ∃ q' F', Sm (inRq a3 a4) h z.2 ∧ RQ z.2 tm M goal Sc L a3 a4 q' F' ∧ CqE q F q' F' ∧ (∀ i, i < F' → Gd (q' i)) ∧ j ≤ F' ∧ ∀ i, A ≤ i → i < j → ∀ d, d < aN M → inQ q' F' (ix (nI (q' i) &&& (ishl 1 (nI d) ^^^ (-1))))) ?_ ?_ (by omega) ⟨rfl, q, F, Sm.refl, hq, CqE.refl, hG, hAF, fun i z1 z2 => by omega⟩
  · rintro X j ⟨x2, g⟩ hj ⟨e1, q1, F1, e2, e3, e4, e5, e6, e7⟩ ih
    (try dsimp only at e1 e2 e3)
    subst e1
    have hb := e3.big
    have hl := e3.le
    obtain ⟨⟨⟨p3, p4⟩, ⟨k3, k4⟩, ⟨n3, n4⟩, _⟩, ⟨t1, t2, t3⟩, _⟩ := id e3
    have i5 := e3.2.2.2.2.2.1
    unfold F118_2
    (try dsimp only)
    rw [R_of p3, n3, i5, if_neg (nI_ge (by omega) (by omega))]
    refine ⟨p3, k3, ?_⟩
    by_cases z : j < F1
    · rw [if_neg (nI_ge z (by omega))]
      unfold B118_21
      have qj := (e3.2.2.2.2.2.2.1 j z)
      have jS : St (aN M) (nI (q1 j)) := ⟨q1 j, qj.2, rfl⟩
      refine LFP.up (aN M) (fun d y => y.1 = nI d ∧ ∃ q' F', Sm (inRq a3 a4) h y.2 ∧ RQ y.2 tm M goal Sc L a3 a4 q' F' ∧ CqE q1 F1 q' F' ∧ (∀ i, i < F' → Gd (q' i)) ∧ ∀ e, e < d → inQ q' F' (ix (nI (q1 j) &&& (ishl 1 (nI e) ^^^ (-1))))) ?_ ?_ (Nat.zero_le _) ⟨rfl, q1, F1, e2, e3, CqE.refl, e5, fun e he => absurd he (Nat.not_lt_zero _)⟩
      · rintro X1 d ⟨x3, g1⟩ hd ⟨f1, q2, F2, f2, f3, f4, f5, f6⟩ ih1
        (try dsimp only at f1 f2 f3)
        subst f1
        obtain ⟨⟨⟨p3', _⟩, ⟨k3', _⟩, ⟨n3', _⟩, _⟩, ⟨t1', t2', t3'⟩, _⟩ := id f3
        have qj2 := (f3.2.2.2.2.2.2.1 j (by have := f4.1; omega))
        rw [f4.2 j z] at qj2
        unfold F118_21
        (try dsimp only)
        rw [R_of t1', R_of p3', t3'.r.n, if_neg (nI_ge hd (by omega)), ix_n (by omega), qj2.1]
        have okj : okA g1 a3 100 (nI j) := okA_n k3' (by omega) (by omega)
        refine ⟨t1', t2', p3', okj, ?_⟩
        by_cases b : bt (nI (q1 j)) d = true
        · rw [if_neg ((bt_in' (by omega)).mpr b)]
          refine ⟨p3', okj, ?_⟩
          obtain ⟨s1, s2⟩ := wash_le (v := q1 j) (d := d) h12 qj.2
          refine S117 s1.lt.2.1 s1.lt.1 f3 (fun g2 q3 F3 l1 l2 l3 l4 l5 => ih1 _ ⟨nI_1 d, q3, F3, f2.trans l1, l2, f4.trans l3, fun i hi => ?_, fun e he => ?_⟩)
          · rcases Nat.lt_or_ge i F2 with y | y
            · rw [l3.2 i y]; exact f5 i y
            · rw [l5 i y hi]
              exact hGw (q1 j) qj.2 (e5 j z) d hd
          · rcases Nat.lt_or_ge e d with y | y
            · exact l3.inq (f6 e y)
            · rw [show e = d by omega]; exact l4
        · rw [if_pos ((bt_in (by omega)).mpr (by simpa using b))]
          refine ih1 _ ⟨nI_1 d, q2, F2, f2, f3, f4, f5, fun e he => ?_⟩
          rcases Nat.lt_or_ge e d with y | y
          · exact f6 e y
          · rw [show e = d by omega]
            have : nI (q1 j) &&& (ishl 1 (nI d) ^^^ (-1)) = nI (q1 j) := bt_ext (fun x hx => by
              rw [bt_andn hx, bt_bit (by omega)]
              by_cases w : x = d
              · rw [w]; cases w2 : bt (nI (q1 j)) d
                · rfl
                · exact absurd w2 b
              · simp [w])
            rw [this, ix_n (by omega)]
            exact ⟨j, by have := f4.1; omega, f4.2 j z⟩
      · rintro X1 ⟨x3, g1⟩ ⟨f1, q2, F2, f2, f3, f4, f5, f6⟩
        (try dsimp only at f1 f2 f3)
        subst f1
        obtain ⟨t1', t2', t3'⟩ := f3.2.1
        unfold F118_21
        (try dsimp only)
        rw [R_of t1', t3'.r.n, if_pos (nI_le (Nat.le_refl _) (by omega))]
        refine ⟨t1', t2', ih _ ⟨nI_1 j, q2, F2, f2, f3, e4.trans f4, f5, by have := f4.1; omega, fun i z1 z2 d hd => ?_⟩⟩
        rcases Nat.lt_or_ge i j with y | y
        · rw [f4.2 i (by omega)]; exact f4.inq (e7 i z1 y d hd)
        · rw [show i = j by omega, f4.2 j z]; exact f6 d hd
    · rw [if_pos (nI_le (by omega) (by omega))]
      exact kk g q1 F1 e2 e3 e4 e5 (fun i z1 z2 => e7 i z1 (by omega))
  · rintro X ⟨x2, g⟩ ⟨e1, q1, F1, e2, e3, e4, e5, e6, e7⟩
    (try dsimp only at e1 e2 e3)
    subst e1
    have hb := e3.big
    have hl := e3.le
    obtain ⟨⟨⟨p3, p4⟩, ⟨k3, k4⟩, ⟨n3, n4⟩, _⟩, _⟩ := id e3
    have i5 := e3.2.2.2.2.2.1
    have fin : C g := kk g q1 F1 e2 e3 e4 e5 (fun i z1 z2 => e7 i z1 (by omega))
    unfold F118_2
    (try dsimp only)
    rw [R_of p3, n3, i5, if_pos (nI_le hl (by omega))]
    refine ⟨p3, k3, ?_⟩
    split
    · exact fin
    · exact fin
/-- those that are ready -/
theorem S119 {C : Int32 → Prop} {s : Int32} (hw : Wf M) (hSc : St (aN M) Sc) (hq : RQ h tm M goal Sc L a3 a4 q F) (kk : ∀ m, St (aN M) m → (∀ d, d < 32 → (bt m d = true ↔ d < aN M ∧ bt Sc d = true ∧ bt s d = false ∧ aNe M d &&& (s ^^^ (-1)) = 0)) → C m) : W119 s h C := by
  have h12 := hw.n12
  obtain ⟨t1, t2, t3⟩ := hq.2.1
  have i2 := hq.2.2.2.1
  unfold W119 B119_4
  refine LFP.up (aN M) (fun j z => z.2 = nI j ∧ St (aN M) z.1 ∧ ∀ d, d < 32 → (bt z.1 d = true ↔ d < j ∧ bt Sc d = true ∧ bt s d = false ∧ aNe M d &&& (s ^^^ (-1)) = 0)) ?_ ?_ (Nat.zero_le _) ⟨rfl, St_0 _, fun d hd => ⟨fun w => by (try dsimp only at w); rw [bt_0] at w; exact absurd w (by decide), fun w => absurd w.1 (Nat.not_lt_zero _)⟩⟩
  · rintro X j ⟨x2, x3⟩ hj ⟨e1, e2, e3⟩ ih
    (try dsimp only at e1 e2 e3)
    subst e1
    unfold F119_4
    (try dsimp only)
    rw [R_of t1, t3.r.n, if_neg (nI_ge hj (by omega)), i2]
    refine ⟨t1, t2, ?_⟩
    have no : ¬ (bt Sc j = true ∧ bt s j = false ∧ aNe M j &&& (s ^^^ (-1)) = 0) → X (x2, nI j + 1) := by
      intro w
      refine ih _ ⟨nI_1 j, e2, fun d hd => ?_⟩
      (try dsimp only)
      rw [e3 d hd]
      constructor
      · rintro ⟨w1, w2⟩; exact ⟨by omega, w2⟩
      · rintro ⟨w1, w2⟩
        rcases Nat.lt_or_ge d j with y | y
        · exact ⟨y, w2⟩
        · rw [show d = j by omega] at w2; exact absurd w2 w
    have bs : bt (Sc &&& (s ^^^ (-1))) j = true ↔ bt Sc j = true ∧ bt s j = false := by
      rw [bt_andn (by omega), Bool.and_eq_true, Bool.not_eq_true']
    by_cases b : bt (Sc &&& (s ^^^ (-1))) j = true
    · rw [if_neg ((bt_in' (by omega)).mpr b), ix_n (by omega), t3.r.ne hj]
      refine ⟨t1, t2, inb_n (by omega), ?_⟩
      by_cases z : aNe M j &&& (s ^^^ (-1)) = 0
      · rw [if_neg (fun w => w z)]
        refine ih _ ⟨nI_1 j, St_or e2 (St_bit hj), fun d hd => ?_⟩
        (try dsimp only)
        rw [bt_or, bt_bit (by omega), Bool.or_eq_true, e3 d hd, decide_eq_true_eq]
        constructor
        · rintro (⟨w1, w2⟩ | w)
          · exact ⟨by omega, w2⟩
          · rw [w]; exact ⟨by omega, (bs.mp b).1, (bs.mp b).2, z⟩
        · rintro ⟨w1, w2⟩
          rcases Nat.lt_or_ge d j with y | y
          · exact Or.inl ⟨y, w2⟩
          · exact Or.inr (by omega)
      · rw [if_pos z]
        exact no (fun w => z w.2.2)
    · rw [if_pos ((bt_in (by omega)).mpr (by simpa using b))]
      exact no (fun w => b (bs.mpr ⟨w.1, w.2.1⟩))
  · rintro X ⟨x2, x3⟩ ⟨e1, e2, e3⟩
    (try dsimp only at e1 e2 e3)
    subst e1
    unfold F119_4
    (try dsimp only)
    rw [R_of t1, t3.r.n, if_pos (nI_le (Nat.le_refl _) (by omega))]
    exact ⟨t1, t2, kk x2 e2 e3⟩
end CRE
