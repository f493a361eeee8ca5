section CNT
variable {h h0 : TH} {M : Nat → Int32} {goal Sc : Int32} {tm L a3 a4 P : Nat}
theorem Lv_ix (hw : Wf M) {r : Nat} {s : Int32} (hs : St (aN M) s) : Lv M Sc P r (nI (ix s)) ↔ Lv M Sc P r s := by
  have h12 := hw.n12
  rw [← hs.lt.2.1]
/-- round after round -/
theorem S114r {C : Int32 → TH → Prop} (hw : Wf M) (hSc : St (aN M) Sc) (hal : ∀ d, d < aN M → bt Sc d = true → aPa M d = (-1)) (h1 : 1 ≤ P) (h4 : P ≤ 4) (hn : h0.n + 5 ≤ 1000000) (kk : ∀ g r L' b3 b4, RdPost h0 g → RcA g L' b3 b4 → Rnd M Sc P goal r → (∀ k, r = some k → k ≤ 4096) → C (match r with | none => (-1) | some p => nI p) g) {q : Nat → Nat} {F : Nat} (hp : RdPost h0 h) (hq : RQ h tm M goal Sc L a3 a4 q F) (hi : inQ q F 0) (hq0 : ∀ i, i < F → q i = 0) : B114_38 (nI P) 0 0 h C := by
  have h12 := hw.n12
  have p12 := pow12 h12
  unfold B114_38
  have h00 : (fun (k : Nat) (z : Int32 × Int32 × TH) => ∃ r A q F, k + A = 4096 ∧ z.1 = nI A ∧ z.2.1 = nI r ∧ r ≤ A ∧ A ≤ F ∧ RdPost h0 z.2.2 ∧ RQ z.2.2 tm M goal Sc L a3 a4 q F ∧ (∀ i, i < F → Lv M Sc P r (nI (q i))) ∧ (∀ i, i < A → ∀ d, d < aN M → inQ q F (ix (nI (q i) &&& (ishl 1 (nI d) ^^^ (-1))))) ∧ (∀ k, k < r → ¬ LvGo M Sc P goal k) ∧ (z.2.2.I 190 6 = 1 ∨ ((∀ s, Lv M Sc P r s → ∃ i, i < F ∧ sb s (nI (q i))) ∧ ∀ i, i < A → ∀ x, ¬ x = 0 → stp M Sc P (nI (q i)) x → inQ q F (ix (out M (nI (q i)) x))))) 4096 ((0 : Int32), (0 : Int32), h) := by
    refine ⟨0, 0, q, F, rfl, rfl, rfl, Nat.le_refl _, Nat.zero_le _, hp, hq, fun i hi => ?_, fun i hi => absurd hi (Nat.not_lt_zero _), fun k hk => absurd hk (Nat.not_lt_zero _), Or.inr ⟨fun s hs => ?_, fun i hi => absurd hi (Nat.not_lt_zero _)⟩⟩
    · rw [hq0 i hi]; rfl
    · have hs : s = 0 := hs
      obtain ⟨i, i1, i2⟩ := hi
      exact ⟨i, i1, by rw [hs]; exact sb_zero _⟩
  refine LFP.ix (fun (k : Nat) (z : Int32 × Int32 × TH) => ∃ r A q F, k + A = 4096 ∧ z.1 = nI A ∧ z.2.1 = nI r ∧ r ≤ A ∧ A ≤ F ∧ RdPost h0 z.2.2 ∧ RQ z.2.2 tm M goal Sc L a3 a4 q F ∧ (∀ i, i < F → Lv M Sc P r (nI (q i))) ∧ (∀ i, i < A → ∀ d, d < aN M → inQ q F (ix (nI (q i) &&& (ishl 1 (nI d) ^^^ (-1))))) ∧ (∀ k, k < r → ¬ LvGo M Sc P goal k) ∧ (z.2.2.I 190 6 = 1 ∨ ((∀ s, Lv M Sc P r s → ∃ i, i < F ∧ sb s (nI (q i))) ∧ ∀ i, i < A → ∀ x, ¬ x = 0 → stp M Sc P (nI (q i)) x → inQ q F (ix (out M (nI (q i)) x))))) ?_ h00
  rintro X k ⟨x4, x5, g⟩ ⟨r, A, q, F, e0, e1, e2, e3, e4, e5, e6, e7, e8, e9, e10⟩ ih
  (try dsimp only at e1 e2 e5 e6 e10)
  subst e1 e2
  have hl := e6.le
  unfold F114_38
  (try dsimp only)
  rw [if_neg (show ¬ (4096 : Int32) < nI r from nI_nlt (a := 4096) (by omega) (by omega))]
  have fl := e6.2.2.2.2.2.2.2.2.2
  by_cases zf : g.I 190 6 = 0
  · rw [if_pos zf]
    obtain ⟨cov, cook⟩ := e10.resolve_left (fun w => by rw [zf] at w; exact absurd w (by decide))
    have ng : ¬ LvGo M Sc P goal r := by
      rintro ⟨s, w1, w2⟩
      obtain ⟨i, i1, i2⟩ := cov s w1
      have := fl.2.mpr ⟨i, i1, sb_trans w2 i2⟩
      rw [zf] at this; exact absurd this (by decide)
    refine S118 (Gd := fun u => Lv M Sc P r (nI u)) hw rfl e4 e6 e7 (fun u hu w d hd => ?_) (fun g1 q1 F1 l1 l2 l3 l4 l5 => ?_)
    · obtain ⟨s1, s2⟩ := wash_le (v := u) (d := d) h12 hu
      exact (Lv_ix hw s1).mpr (Lv_sub w (sb_and _ _))
    · have post1 := e5.sm e6.1 hn l1
      have hl1 := l2.le
      have cl : ∀ i, i < F1 → ∀ d, d < aN M → inQ q1 F1 (ix (nI (q1 i) &&& (ishl 1 (nI d) ^^^ (-1)))) := by
        intro i hi d hd
        rcases Nat.lt_or_ge i A with w | w
        · rw [l3.2 i (by omega)]; exact l3.inq (e8 i w d hd)
        · exact l5 i w hi d hd
      have mem : ∀ s, Lv M Sc P r s → inQ q1 F1 (ix s) := by
        intro s hs
        obtain ⟨i, i1, i2⟩ := cov s hs
        have qi := e6.2.2.2.2.2.2.1 i i1
        refine sub_closed (n := aN M) h12 (Q := fun s => inQ q1 F1 (ix s)) (fun s hs w d hd => ?_) 12 (nI (q i)) s (pc_le _) ⟨q i, qi.2, rfl⟩ ?_ i2
        · obtain ⟨i', w1, w2⟩ := w
          have := cl i' w1 d hd
          rw [w2, ← hs.lt.2.1] at this
          exact this
        · (try dsimp only)
          rw [ix_n (by omega)]
          exact ⟨i, by have := l3.1; omega, l3.2 i i1⟩
      rw [l2.2.2.2.2.2.1]
      by_cases zA : A = F1
      · rw [if_neg (fun w => w (by rw [zA]))]
        refine kk g1 none L a3 a4 post1 l2.1 (fun k' => ?_) (fun k w => absurd w (by simp))
        have fx : ∀ s, Lv M Sc P (r + 1) s → Lv M Sc P r s := by
          rintro s ⟨s0, x, w1, w2, w3⟩
          by_cases x0 : x = 0
          · rw [x0, out_0 hw] at w3
            exact Lv_sub w1 w3
          · have st := w2.resolve_left x0
            obtain ⟨i, i1, i2⟩ := mem s0 w1
            have s0S := Lv_St hw r s0 w1
            have e : nI (q i) = s0 := by rw [← l3.2 i (by omega), i2]; exact s0S.lt.2.1.symm
            have := cook i (by omega) x x0 (by rw [e]; exact st)
            obtain ⟨i', i3, i4⟩ := this
            have lv := e7 i' i3
            rw [i4, e] at lv
            exact Lv_sub ((Lv_ix hw (out_St hw s0S st.1)).mp lv) w3
        rintro ⟨s, w1, w2⟩
        rcases Nat.lt_or_ge k' r with y | y
        · exact e9 k' y ⟨s, w1, w2⟩
        · exact ng ⟨s, Lv_fix hw fx (k' - r) s (by rw [show r + (k' - r) = k' by omega]; exact w1), w2⟩
      · rw [if_pos (fun w => zA ((nI_eq (by omega) (by omega)).mp w))]
        have AF : A < F1 := by have := l3.1; omega
        unfold B114_81
        have fin : ∀ g2 q2 F2, Sm (inRq a3 a4) g1 g2 → RQ g2 tm M goal Sc L a3 a4 q2 F2 → CqE q1 F1 q2 F2 → (∀ i, i < F2 → Lv M Sc P (r + 1) (nI (q2 i))) → (g2.I 190 6 = 1 ∨ ∀ i, A ≤ i → i < F1 → ∀ x, ¬ x = 0 → stp M Sc P (nI (q1 i)) x → inQ q2 F2 (ix (out M (nI (q1 i)) x))) → B114_126 (nI P) (nI r) (nI F1) g2 C X := by
          intro g2 q2 F2 m1 m2 m3 m4 m5
          unfold B114_126
          have cookd : (∀ i, A ≤ i → i < F1 → ∀ x, ¬ x = 0 → stp M Sc P (nI (q1 i)) x → inQ q2 F2 (ix (out M (nI (q1 i)) x))) → ∀ i, i < F1 → ∀ x, ¬ x = 0 → stp M Sc P (nI (q2 i)) x → inQ q2 F2 (ix (out M (nI (q2 i)) x)) := by
            intro m5 i hi x x0 st
            rw [m3.2 i hi] at st ⊢
            rcases Nat.lt_or_ge i A with w | w
            · rw [l3.2 i (by omega)] at st ⊢
              exact m3.inq (l3.inq (cook i w x x0 st))
            · exact m5 i w hi x x0 st
          refine ih (4096 - F1) _ (by omega) ⟨r + 1, F1, q2, F2, by omega, rfl, nI_1 r, by omega, m3.1, post1.sm l2.1 hn m1, m2, m4, fun i hi d hd => ?_, fun k' hk => ?_, m5.imp id (fun m5 => ⟨fun s hs => ?_, cookd m5⟩)⟩
          · rw [m3.2 i hi]; exact m3.inq (cl i hi d hd)
          · rcases Nat.lt_or_ge k' r with y | y
            · exact e9 k' y
            · rw [show k' = r by omega]; exact ng
          · obtain ⟨s0, x, w1, w2, w3⟩ := hs
            obtain ⟨i, i1, i2⟩ := mem s0 w1
            have s0S := Lv_St hw r s0 w1
            have e : nI (q2 i) = s0 := by rw [m3.2 i i1, i2]; exact s0S.lt.2.1.symm
            by_cases x0 : x = 0
            · rw [x0, out_0 hw] at w3
              exact ⟨i, by have := m3.1; omega, by rw [e]; exact w3⟩
            · have st := w2.resolve_left x0
              obtain ⟨i', i3, i4⟩ := cookd m5 i i1 x x0 (by rw [e]; exact st)
              refine ⟨i', i3, ?_⟩
              rw [i4, e, ← (out_St hw s0S st.1).lt.2.1]
              exact w3
        refine LFP.up F1 (fun j z => z.1 = nI j ∧ ∃ q2 F2, Sm (inRq a3 a4) g1 z.2 ∧ RQ z.2 tm M goal Sc L a3 a4 q2 F2 ∧ CqE q1 F1 q2 F2 ∧ (∀ i, i < F2 → Lv M Sc P (r + 1) (nI (q2 i))) ∧ (z.2.I 190 6 = 1 ∨ ∀ i, A ≤ i → i < j → ∀ x, ¬ x = 0 → stp M Sc P (nI (q1 i)) x → inQ q2 F2 (ix (out M (nI (q1 i)) x)))) ?_ ?_ (Nat.le_of_lt AF) ⟨rfl, q1, F1, Sm.refl, l2, CqE.refl, fun i hi => Lv_up hw (l4 i hi), Or.inr (fun i z1 z2 => by omega)⟩
        · rintro X1 j ⟨x7, g2⟩ hj ⟨f1, q2, F2, f2, f3, f4, f5, f6⟩ ih1
          (try dsimp only at f1 f2 f3 f6)
          subst f1
          unfold F114_81
          (try dsimp only)
          rw [if_neg (nI_ge hj (by omega))]
          by_cases zg : g2.I 190 6 = 0
          · rw [if_neg (fun w => w zg)]
            have f6 := f6.resolve_left (fun w => by rw [zg] at w; exact absurd w (by decide))
            obtain ⟨⟨p3, _⟩, ⟨k3, _⟩, ⟨n3, _⟩, _⟩ := f3.1
            have hb := f3.big
            have qj := f3.2.2.2.2.2.2.1 j (by have := f4.1; omega)
            rw [f4.2 j hj] at qj
            have jS : St (aN M) (nI (q1 j)) := ⟨q1 j, qj.2, rfl⟩
            have okj : okA g2 a3 100 (nI j) := okA_n k3 (by omega) (by omega)
            rw [R_of p3, ix_n (by omega), qj.1]
            refine ⟨p3, okj, p3, okj, S119 hw hSc f3 (fun m mS mb => ?_)⟩
            have hm : ∀ d, d < 32 → bt m d = true → d < aN M ∧ bt Sc d = true ∧ rdy M (nI (q1 j)) d := by
              intro d hd w
              obtain ⟨w1, w2, w3, w4⟩ := (mb d hd).mp w
              exact ⟨w1, w2, w3, hal d w1 w2, w4⟩
            have z0 : (0 : Int32) = unn M 0 &&& oS M := by rw [unn_0 hw]; exact Int32.zero_and.symm
            have go := S120 (tm := tm) (goal := goal) (L := L) (a3 := a3) (a4 := a4) (Gd := fun u => Lv M Sc P (r + 1) (nI u)) hw jS hm (fun x st => (Lv_ix hw (out_St hw jS st.1)).mpr (Lv_step (l4 j hj) st)) (show P ≤ 12 by omega) P 5 0 m h1 (by omega) (St_0 _) mS (sb_zero _) (sb_refl _) (by rw [pc_0]; omega) g2 q2 F2 (fun h6 => X1 (nI j + 1, h6)) f3 f5 (fun g3 q3 F3 m1 m2 m3 m4 m5 => ih1 _ ⟨nI_1 j, q3, F3, f2.trans m1, m2, f4.trans m3, m4, m5.imp id (fun m5 i z1 z2 x x0 st => ?_)⟩)
            · rw [← z0] at go
              exact go
            · rcases Nat.lt_or_ge i j with y | y
              · exact m3.inq (f6 i z1 y x x0 st)
              · have : i = j := by omega
                subst this
                refine m5 x (sb_zero _) (fun d hd w => ?_) x0 (by rw [pc_0]; have := st.2.2.2.1; omega) st.2.2.2.2
                have d1 := St_d h12 st.1 hd w
                have rd := st.2.2.1 d d1 w
                rw [Int32.zero_or]
                exact (mb d hd).mpr ⟨d1, st.2.1 d hd w, rd.1, rd.2.2⟩
          · rw [if_pos zg]
            exact fin g2 q2 F2 f2 f3 f4 f5 (Or.inl (f3.2.2.2.2.2.2.2.2.2.1.resolve_left zg))
        · rintro X1 ⟨x7, g2⟩ ⟨f1, q2, F2, f2, f3, f4, f5, f6⟩
          (try dsimp only at f1 f2 f3 f6)
          subst f1
          unfold F114_81
          (try dsimp only)
          rw [if_pos (nI_le (Nat.le_refl _) (by omega))]
          exact fin g2 q2 F2 f2 f3 f4 f5 f6
  · rw [if_neg zf]
    have f1 := fl.1.resolve_left zf
    obtain ⟨i, i1, i2⟩ := fl.2.mp f1
    exact kk g (some r) L a3 a4 e5 e6.1 ⟨⟨nI (q i), e7 i i1, i2⟩, e9⟩ (fun k w => by cases w; omega)
end CNT
