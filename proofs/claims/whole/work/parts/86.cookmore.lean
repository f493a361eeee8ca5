section CMO
variable {M : Nat → Int32} {goal Sc s m : Int32} {tm L a3 a4 P : Nat} {Gd : Nat → Prop}
theorem unn_or (hw : Wf M) {c : Int32} {j : Nat} (hj : j < aN M) : unn M (c ||| ishl 1 (nI j)) = unn M c ||| aNe M j := by
  have h12 := hw.n12
  refine bt_ext (fun o ho => ?_)
  have a1 := bt_unn (x := c ||| ishl 1 (nI j)) (o := o) hw
  have a2 := bt_unn (x := c) (o := o) hw
  rw [bt_or]
  cases e : bt (unn M (c ||| ishl 1 (nI j))) o
  · cases e2 : bt (unn M c) o
    · cases e3 : bt (aNe M j) o
      · rfl
      · rw [a1.mpr ⟨j, hj, by rw [bt_or, bt_bit (j := j) (by omega)]; simp, e3⟩] at e; exact absurd e (by decide)
    · obtain ⟨d, d1, d2, d3⟩ := a2.mp e2
      rw [a1.mpr ⟨d, d1, by rw [bt_or, d2]; rfl, d3⟩] at e; exact absurd e (by decide)
  · obtain ⟨d, d1, d2, d3⟩ := a1.mp e
    rw [bt_or, bt_bit (by omega), Bool.or_eq_true, decide_eq_true_eq] at d2
    rcases d2 with d2 | d2
    · rw [a2.mpr ⟨d, d1, d2, d3⟩]; rfl
    · rw [← d2, d3, Bool.or_true]
theorem S120 (hw : Wf M) (hs : St (aN M) s) (hm : ∀ d, d < 32 → bt m d = true → d < aN M ∧ bt Sc d = true ∧ rdy M s d) (hGd : ∀ x, stp M Sc P s x → Gd (ix (out M s x))) (hP : P ≤ 12) : ∀ p k c y, 1 ≤ p → p ≤ k → St (aN M) c → St (aN M) y → sb c m → sb y m → pc c + p ≤ P → ∀ (h : TH) (q : Nat → Nat) (F : Nat) (C : TH → Prop), RQ h tm M goal Sc L a3 a4 q F → (∀ i, i < F → Gd (q i)) → (∀ g q' F', Sm (inRq a3 a4) h g → RQ g tm M goal Sc L a3 a4 q' F' → CqE q F q' F' → (∀ i, i < F' → Gd (q' i)) → (g.I 190 6 = 1 ∨ ∀ x', sb c x' → sb x' (c ||| y) → ¬ x' = c → pc x' ≤ pc c + p → fitB M (bigK M 0) (s ||| x') = true → inQ q' F' (ix (out M s x'))) → C g) → W120 k s y c (unn M c &&& oS M) (nI p) h C := by
  have h12 := hw.n12
  have p12 := pow12 h12
  intro p
  induction p with
  | zero => intro k c y h1; omega
  | succ p ihp =>
    intro k c y hp hk cS yS cm ym hpc h q F C hq hG kk
    obtain ⟨k, rfl⟩ : ∃ k', k = k' + 1 := ⟨k - 1, by omega⟩
    show B120_6 (W120 k) s c (unn M c &&& oS M) (nI (p + 1)) y 0 h C
    unfold B120_6
    refine LFP.up (aN M) (fun j z => z.2.1 = nI j ∧ St (aN M) z.1 ∧ (∀ d, d < 32 → (bt z.1 d = true ↔ bt y d = true ∧ j ≤ d)) ∧ ∃ q' F', Sm (inRq a3 a4) h z.2.2 ∧ RQ z.2.2 tm M goal Sc L a3 a4 q' F' ∧ CqE q F q' F' ∧ (∀ i, i < F' → Gd (q' i)) ∧ (z.2.2.I 190 6 = 1 ∨ ∀ x', sb c x' → sb x' (c ||| y) → (∃ d, d < j ∧ bt x' d = true ∧ bt c d = false) → pc x' ≤ pc c + (p + 1) → fitB M (bigK M 0) (s ||| x') = true → inQ q' F' (ix (out M s x')))) ?_ ?_ (Nat.zero_le _) ⟨rfl, yS, fun d hd => ⟨fun w => ⟨w, Nat.zero_le _⟩, fun w => w.1⟩, q, F, Sm.refl, hq, CqE.refl, hG, Or.inr (fun x' _ _ ⟨d, hd, _⟩ => absurd hd (Nat.not_lt_zero _))⟩
    · rintro X j ⟨x6, x7, g⟩ hj ⟨e1, e2, e3, q1, F1, f1, f2, f3, f4, f5⟩ ih
      (try dsimp only at e1 e2 e3 f1 f2 f5)
      subst e1
      obtain ⟨t1, t2, t3⟩ := f2.2.1
      unfold F120_6
      (try dsimp only)
      rw [R_of t1, t3.r.n, if_neg (nI_ge hj (by omega))]
      refine ⟨t1, t2, ?_⟩
      have diff : ∀ x', sb c x' → sb x' (c ||| y) → ¬ x' = c → ∃ d, d < 32 ∧ bt x' d = true ∧ bt c d = false ∧ bt y d = true := by
        intro x' w1 w2 w3
        refine Classical.byContradiction (fun w => w3 (sb_anti (fun d hd v => ?_) w1))
        cases v2 : bt c d
        · have := w2 d hd v
          rw [bt_or, v2, Bool.false_or] at this
          exact absurd ⟨d, hd, v, v2, this⟩ w
        · rfl
      by_cases z0 : x6 = 0
      · rw [if_pos z0]
        refine kk g q1 F1 f1 f2 f3 f4 (f5.imp id (fun f5 x' w1 w2 w3 w4 w5 => ?_))
        obtain ⟨d, d1, d2, d3, d4⟩ := diff x' w1 w2 w3
        refine f5 x' w1 w2 ⟨d, ?_, d2, d3⟩ w4 w5
        rcases Nat.lt_or_ge d j with v | v
        · exact v
        · have := (e3 d d1).mpr ⟨d4, v⟩
          rw [z0, bt_0] at this; exact absurd this (by decide)
      · rw [if_neg z0]
        by_cases zf : g.I 190 6 = 0
        · rw [if_neg (fun w => w zf)]
          have f5 := f5.resolve_left (fun w => by rw [zf] at w; exact absurd w (by decide))
          have bj : bt x6 j = true ↔ bt y j = true := ⟨fun w => ((e3 j (by omega)).mp w).1, fun w => (e3 j (by omega)).mpr ⟨w, Nat.le_refl _⟩⟩
          by_cases b : bt x6 j = true
          · rw [if_pos ((bt_in' (by omega)).mpr b)]
            have mj := hm j (by omega) (ym j (by omega) (bj.mp b))
            have cj : St (aN M) (c ||| ishl 1 (nI j)) := St_or cS (St_bit hj)
            have e6S : St (aN M) (x6 &&& (ishl 1 (nI j) ^^^ (-1))) := St_and _ e2
            have e6 : ∀ d, d < 32 → (bt (x6 &&& (ishl 1 (nI j) ^^^ (-1))) d = true ↔ bt y d = true ∧ j + 1 ≤ d) := by
              intro d hd
              rw [bt_andn hd, bt_bit (by omega), Bool.and_eq_true, e3 d hd, Bool.not_eq_true', decide_eq_false_iff_not]
              constructor
              · rintro ⟨⟨w1, w2⟩, w3⟩; exact ⟨w1, by omega⟩
              · rintro ⟨w1, w2⟩; exact ⟨⟨w1, by omega⟩, by omega⟩
            have sj : sb (ishl 1 (nI j)) m := by
              intro d hd w
              rw [bt_bit (by omega), decide_eq_true_eq] at w
              rw [w]; exact ym j (by omega) (bj.mp b)
            have cjm : sb (c ||| ishl 1 (nI j)) m := sb_or cm sj
            have pcj : pc (c ||| ishl 1 (nI j)) ≤ pc c + 1 := by
              cases w : bt c j
              · exact Nat.le_of_eq (pc_add (by omega) w)
              · refine Nat.le_trans (pc_sb (sb_or (sb_refl _) (fun d hd v => ?_))) (Nat.le_succ _)
                rw [bt_bit (by omega), decide_eq_true_eq] at v
                rw [v]; exact w
            /- whoever has its least new one here -/
            have here : ∀ x', sb c x' → sb x' (c ||| y) → (∃ d, d < j + 1 ∧ bt x' d = true ∧ bt c d = false) → (∃ d, d < j ∧ bt x' d = true ∧ bt c d = false) ∨ (bt x' j = true ∧ bt c j = false ∧ sb (c ||| ishl 1 (nI j)) x' ∧ sb x' ((c ||| ishl 1 (nI j)) ||| (x6 &&& (ishl 1 (nI j) ^^^ (-1))))) := by
              rintro x' w1 w2 ⟨d, d1, d2, d3⟩
              by_cases w : ∃ d, d < j ∧ bt x' d = true ∧ bt c d = false
              · exact Or.inl w
              · right
                have dj : d = j := by
                  rcases Nat.lt_or_ge d j with v | v
                  · exact absurd ⟨d, v, d2, d3⟩ w
                  · omega
                subst dj
                refine ⟨d2, d3, sb_or w1 (fun e he v => ?_), fun e he v => ?_⟩
                · rw [bt_bit (by omega), decide_eq_true_eq] at v
                  rw [v]; exact d2
                · rw [bt_or, bt_or, bt_bit (by omega), Bool.or_eq_true, Bool.or_eq_true, decide_eq_true_eq]
                  cases v1 : bt c e
                  · by_cases v2 : e = d
                    · exact Or.inl (Or.inr v2)
                    · right
                      have := w2 e he v
                      rw [bt_or, v1, Bool.false_or] at this
                      refine (e6 e he).mpr ⟨this, ?_⟩
                      rcases Nat.lt_or_ge e d with v3 | v3
                      · exact absurd ⟨e, v3, v, v1⟩ w
                      · omega
                  · exact Or.inl (Or.inl rfl)
            have asc : (s ||| c) ||| ishl 1 (nI j) = s ||| (c ||| ishl 1 (nI j)) := Int32.or_assoc _ _ _
            rw [asc]
            refine ⟨t1, t2, S112 hw t3.room (St_or hs cj) (fun ft => ?_) (fun ft => ?_)⟩
            · rw [if_neg (by decide)]
              refine ⟨t1, t2, S63 hw t3.r t3.2.1 j rfl hj ?_⟩
              have gn : (unn M c &&& oS M) ||| (nP M j &&& oS M) = unn M (c ||| ishl 1 (nI j)) &&& oS M := by
                rw [nP_alone mj.2.2.2.1, unn_or hw hj]
                refine bt_ext (fun o ho => ?_)
                rw [bt_or, bt_and, bt_and, bt_and, bt_or]
                cases bt (unn M c) o <;> cases bt (aNe M j) o <;> cases bt (oS M) o <;> rfl
              rw [gn]
              have st : stp M Sc P s (c ||| ishl 1 (nI j)) := ⟨cj, fun d hd w => (hm d hd (cjm d hd w)).2.1, fun d hd w => (hm d (by omega) (cjm d (by omega) w)).2.2, by omega, ft⟩
              have oS' := (out_St hw hs cj).lt
              show W117 (out M s (c ||| ishl 1 (nI j))) g _
              refine S117 oS'.2.1 oS'.1 f2 (fun g2 q2 F2 l1 l2 l3 l4 l5 => ?_)
              have G2 : ∀ i, i < F2 → Gd (q2 i) := by
                intro i hi
                rcases Nat.lt_or_ge i F1 with w | w
                · rw [l3.2 i w]; exact f4 i w
                · rw [l5 i w hi]; exact hGd _ st
              by_cases p1 : p = 0
              · subst p1
                rw [if_pos (show nI (0 + 1) ≤ 1 by decide +kernel)]
                refine ih _ ⟨nI_1 j, e6S, e6, q2, F2, f1.trans l1, l2, f3.trans l3, G2, Or.inr (fun x' w1 w2 w3 w4 w5 => ?_)⟩
                rcases here x' w1 w2 w3 with v | ⟨v1, v2, v3, v4⟩
                · exact l3.inq (f5 x' w1 w2 v w4 w5)
                · have pj := pc_add (a := c) (d := j) (by omega) v2
                  by_cases v5 : c ||| ishl 1 (nI j) = x'
                  · rw [← v5]; exact l4
                  · have xS : St 12 x' := St_mono (sb_St (by omega) v4 (St_or cj e6S)) h12
                    have := pc_lt v3 xS v5
                    omega
              · rw [if_neg (show ¬ nI (p + 1) ≤ 1 from nI_ge (a := 1) (by omega) (by omega)), nI_pred]
                refine ihp k (c ||| ishl 1 (nI j)) _ (by omega) (by omega) cj e6S cjm (sb_trans (fun d hd w => ((e6 d hd).mp w).1) ym) (by omega) g2 q2 F2 _ l2 G2 (fun g3 q3 F3 m1 m2 m3 m4 m5 => ?_)
                refine ih _ ⟨nI_1 j, e6S, e6, q3, F3, (f1.trans l1).trans m1, m2, (f3.trans l3).trans m3, m4, m5.imp id (fun m5 x' w1 w2 w3 w4 w5 => ?_)⟩
                rcases here x' w1 w2 w3 with v | ⟨v1, v2, v3, v4⟩
                · exact m3.inq (l3.inq (f5 x' w1 w2 v w4 w5))
                · have pj := pc_add (a := c) (d := j) (by omega) v2
                  by_cases v5 : x' = c ||| ishl 1 (nI j)
                  · rw [v5]; exact m3.inq l4
                  · exact m5 x' v3 v4 v5 (by omega) w5
            · rw [if_pos rfl]
              refine ih _ ⟨nI_1 j, e6S, e6, q1, F1, f1, f2, f3, f4, Or.inr (fun x' w1 w2 w3 w4 w5 => ?_)⟩
              rcases here x' w1 w2 w3 with v | ⟨v1, v2, v3, v4⟩
              · exact f5 x' w1 w2 v w4 w5
              · have := fit_mono (M := M) (big := bigK M 0) (a := s ||| (c ||| ishl 1 (nI j))) (b := s ||| x') (fun d hd w => by
                  rw [bt_or, Bool.or_eq_true] at w ⊢
                  exact w.imp id (v3 d (by omega))) w5
                rw [this] at ft; exact absurd ft (by decide)
          · rw [if_neg (fun w => w ((bt_in (by omega)).mpr (by simpa using b)))]
            refine ih _ ⟨nI_1 j, e2, fun d hd => ?_, q1, F1, f1, f2, f3, f4, Or.inr (fun x' w1 w2 w3 w4 w5 => ?_)⟩
            · (try dsimp only)
              rw [e3 d hd]
              constructor
              · rintro ⟨w1, w2⟩
                refine ⟨w1, ?_⟩
                rcases Nat.lt_or_ge j d with v | v
                · exact v
                · rw [show d = j by omega] at w1; exact absurd (bj.mpr w1) b
              · rintro ⟨w1, w2⟩; exact ⟨w1, by omega⟩
            · obtain ⟨d, d1, d2, d3⟩ := w3
              refine f5 x' w1 w2 ⟨d, ?_, d2, d3⟩ w4 w5
              rcases Nat.lt_or_ge d j with v | v
              · exact v
              · have := w2 d (by omega) d2
                rw [bt_or, d3, Bool.false_or, show d = j by omega] at this
                exact absurd (bj.mpr this) b
        · rw [if_pos zf]
          exact kk g q1 F1 f1 f2 f3 f4 (Or.inl (f2.2.2.2.2.2.2.2.2.2.1.resolve_left zf))
    · rintro X ⟨x6, x7, g⟩ ⟨e1, e2, e3, q1, F1, f1, f2, f3, f4, f5⟩
      (try dsimp only at e1 e2 e3 f1 f2 f5)
      subst e1
      obtain ⟨t1, t2, t3⟩ := f2.2.1
      unfold F120_6
      (try dsimp only)
      rw [R_of t1, t3.r.n, if_pos (nI_le (Nat.le_refl _) (by omega))]
      refine ⟨t1, t2, kk g q1 F1 f1 f2 f3 f4 (f5.imp id (fun f5 x' w1 w2 w3 w4 w5 => ?_))⟩
      have : ∃ d, d < 32 ∧ bt x' d = true ∧ bt c d = false := by
        refine Classical.byContradiction (fun w => w3 (sb_anti (fun d hd v => ?_) w1))
        cases v2 : bt c d
        · exact absurd ⟨d, hd, v, v2⟩ w
        · rfl
      obtain ⟨d, d1, d2, d3⟩ := this
      exact f5 x' w1 w2 ⟨d, St_d h12 (sb_St (by omega) w2 (St_or cS yS)) d1 d2, d2, d3⟩ w4 w5
end CMO
