/-! mark, back -/
section MRK
variable {h g h2 g2 : TH} {L z c i t : Nat} {xs : Nat → Int32} {G : Int32 → Nat → Int32} {T S : Nat → Prop} {D : Int32 → TH → Prop} {x y : Int32} {M : Nat → Int32}
/-- the rows that hold no level are kept, a level more or less stands open -/
theorem Rst.lvl {i' : Nat} (r : Rst L xs h z G c i) (p : Sm T h g) (hT : ∀ a, T a → a = 0 ∨ (43 ≤ a ∧ a < 139) ∨ a = 197 ∨ a = 198 ∨ a = 199) (hz : z < 1000) (f0 : g.I 0 19 = h.I 0 19) (f197 : ∀ j, j ≠ 2 → j ≠ 55 → g.I 197 j = h.I 197 j) (l : Lvs g i' G c (z + 1)) : Rst L xs g (z + 1) G c i' := by
  obtain ⟨r1, r2, r3, r4, r5, r6, r7, -⟩ := r
  have F : ∀ a, ¬ (a = 0 ∨ (43 ≤ a ∧ a < 139) ∨ a = 197 ∨ a = 198 ∨ a = 199) → g.I a = h.I a ∧ g.J a = h.J a := fun a ha => ⟨p.I (fun w => ha (hT a w)), p.J (fun w => ha (hT a w))⟩
  refine ⟨r1.fr (fun j hj => by rw [(F 9 (by omega)).1]) (F 10 (by omega)).1 (F 11 (by omega)).2 (fun j hj => f197 j (by omega) (by omega)) (F 203 (by omega)).1, r2.fr f0 (f197 52 (by omega) (by omega)) (F 193 (by omega)).1 (F 194 (by omega)).1 (F 221 (by omega)).1, r3.frame (F 7 (by omega)).1 (F 8 (by omega)).1 (F 200 (by omega)).1 (F 201 (by omega)).1 (fun e he => ⟨(F _ (by omega)).2, by rw [p.K], by rw [p.N]⟩) (F 202 (by omega)).2, by rw [p.K, p.N]; exact r4, by unfold Rm at r5 ⊢; rw [p.n, p.sl]; omega, by unfold Sc; rw [p.N, (F 1000000 (by omega)).1]; exact r6, ⟨by rw [(F 15 (by omega)).1]; exact r7.1, by omega⟩, l⟩
theorem Q190 (hI : Inv L xs h z) (hz : z < 1000) (k : Jn L xs z W324 D) : W190 h D := by
  have hn := hI.nn
  obtain ⟨G, c, i, M, N, cn, S, U, W, kk, A, s0, r, se, l, hi, cur, hw, hc, hM, hC, hR, -⟩ := hI.lev
  obtain ⟨r1, r2, r3, r4, r5, r6, r7, l1, l2, l3, l4, l5⟩ := id r
  obtain ⟨m1, m2, m3, m4, m5, m6, m7, m8, m9⟩ := id l
  have st := hI.1
  have h12 := hw.n12
  have c3 : (3 : Int32) = nI 3 := rfl
  unfold W190
  by_cases i3 : i < 3
  · have e1 : h.I 0 10 + 1 = nI (i + 1) := by rw [cur, nI_1]
    have j0 : ix (nI i) = i := ix_n (by omega)
    have j1 : ix (nI (i + 1)) = i + 1 := ix_n (by omega)
    rw [if_pos (by rw [cur, c3, nI_ltI (by omega) (by omega)]; exact i3), e1, cur, j0, j1]
    refine ⟨inb_n (by omega), inb_n (by omega), S53 (by omega) (by omega) (fun ga a1 a2 a3 a4 a5 a6 a7 => ?_)⟩
    have ca : ga.I 0 10 = nI i := by rw [a1.I (by omega)]; exact cur
    rw [ca, nI_1, j0, j1]
    have pl01 : ga.I (58 + 24 * i) 0 = 0 ∨ ga.I (58 + 24 * i) 0 = 1 := by
      rw [a1.I (by omega)]
      exact m9.imp (fun w => w.1) (fun w => w.1.1)
    refine ⟨inb_n (by omega), inb_n (by omega), S89 (by omega) pl01 (fun gb b1 b2 b3 b4 b5 => ?_)⟩
    have cb : gb.I 0 10 = nI i := by rw [b1.I (by omega)]; exact ca
    rw [cb, nI_1, j0, j1]
    refine ⟨inb_n (by omega), inb_n (by omega), S15 (by omega) (fun gc c1 c2 c3' c4 c5 c6 c7 => ?_)⟩
    have cc : gc.I 0 10 = nI i := by rw [c1.I (by omega)]; exact cb
    unfold W193
    rw [cc, nI_1, I_eq]
    -- the class's heap now
    have smc : Sm (fun a => a = 0 ∨ 67 + 24 * i ≤ a ∧ a < 91 + 24 * i) h ((gc.sI 0 10 (nI (i + 1))).sI 0 0 0) := by
      refine Sm.sI (S := fun a => a = 0 ∨ 67 + 24 * i ≤ a ∧ a < 91 + 24 * i) (Sm.sI (S := fun a => a = 0 ∨ 67 + 24 * i ≤ a ∧ a < 91 + 24 * i) ?_ (Or.inl rfl) _) (Or.inl rfl) _
      exact ((a1.mono (fun a ha => by omega)).trans (b1.mono (fun a ha => by omega))).trans (c1.mono (fun a ha => by omega))
    have t0 : ∀ j, j ≠ 0 → j ≠ 10 → ((gc.sI 0 10 (nI (i + 1))).sI 0 0 0).I 0 j = h.I 0 j := fun j h1 h2 => by rw [I_nk h1, I_nk h2, c1.I (by omega), b1.I (by omega), a1.I (by omega)]
    have t10 : ((gc.sI 0 10 (nI (i + 1))).sI 0 0 0).I 0 10 = nI (i + 1) := by rw [I_nk (by omega), I_eq]
    have t00 : ((gc.sI 0 10 (nI (i + 1))).sI 0 0 0).I 0 0 = 0 := I_eq
    have tI : ∀ a, a ≠ 0 → ((gc.sI 0 10 (nI (i + 1))).sI 0 0 0).I a = gc.I a := fun a ha => funext (fun j => by rw [I_sI, if_neg (by omega), I_sI, if_neg (by omega)])
    have tJ : ((gc.sI 0 10 (nI (i + 1))).sI 0 0 0).J = gc.J := rfl
    generalize ((gc.sI 0 10 (nI (i + 1))).sI 0 0 0) = hc2 at smc t0 t10 t00 tI tJ ⊢
    refine k _ _ (hI.sc.gr smc.gr (by omega)) (fun Y hY => ?_)
    unfold W324
    have e55 : hc2.I 197 55 = nI i := by rw [smc.I (by omega)]; exact l3
    rw [e55, if_pos (fun w => by rw [c3] at w; have := (nI_eq (by omega) (by omega)).mp w; omega), nI_1, I_eq]
    refine S323 (x := 0) (y := i + 1) (by omega) (by omega) (by omega) (fun gd d1 d2 d3 d4 d5 => ?_)
    have f55 : gd.I 197 55 = nI (i + 1) := by rw [d1.I (by omega), I_eq]
    unfold W206
    rw [f55]
    refine hY _ ?_
    -- the end
    have sm : Sm (fun a => (a = 0 ∨ 67 + 24 * i ≤ a ∧ a < 91 + 24 * i) ∨ (a = 197 ∨ a = 198 ∨ a = 199)) h (gd.sI 197 2 0) := by
      refine Sm.sI (S := fun a => (a = 0 ∨ 67 + 24 * i ≤ a ∧ a < 91 + 24 * i) ∨ (a = 197 ∨ a = 198 ∨ a = 199)) ?_ (Or.inr (Or.inl rfl)) 0
      exact ((smc.mono (fun a ha => Or.inl ha)).trans ((sm1 hc2 197 55 (nI (i + 1))).mono (fun a ha => Or.inr (Or.inl ha)))).trans (d1.mono (fun a ha => by omega))
    have w1 : ∀ a, ¬ (a = 197 ∨ a = 198 ∨ a = 199) → (gd.sI 197 2 0).I a = hc2.I a := fun a ha => funext (fun j => by rw [I_sI, if_neg (by omega), d1.I (by omega), I_sI, if_neg (by omega)])
    have wJ : ∀ a, ¬ (a = 198 ∨ a = 199) → (gd.sI 197 2 0).J a = hc2.J a := fun a ha => by rw [J_sI, d1.J (by omega)]; rfl
    have w197 : ∀ j, j ≠ 2 → j ≠ 55 → (gd.sI 197 2 0).I 197 j = h.I 197 j := fun j h1 h2 => by rw [I_nk h1, d1.I (by omega), I_nk h2, smc.I (by omega)]
    have f198 : ∀ j, (j < 440 * (i + 1) ∨ 440 * (i + 1) + 440 ≤ j) → (gd.sI 197 2 0).I 198 j = h.I 198 j := fun j hj => by rw [I_sI, if_neg (by omega), d3 j hj, I_sI, if_neg (by omega), smc.I (by omega)]
    have f199 : ∀ j, (j < 12 * (i + 1) ∨ 12 * (i + 1) + 12 ≤ j) → (gd.sI 197 2 0).J 199 j = h.J 199 j := fun j hj => by rw [J_sI, d5 j hj, J_sI, smc.J (by omega)]
    have g198 : ∀ j, j < 440 → (gd.sI 197 2 0).I 198 (440 * (i + 1) + j) = h.I 198 j := fun j hj => by
      rw [I_sI, if_neg (by omega), d2 j hj, I_sI, if_neg (by omega), smc.I (by omega)]
      rw [show 440 * 0 + j = j by omega]
    have g199 : ∀ j, j < 12 → (gd.sI 197 2 0).J 199 (12 * (i + 1) + j) = h.J 199 j := fun j hj => by
      rw [J_sI, d4 j hj, J_sI, smc.J (by omega), show 12 * 0 + j = j by omega]
    refine ⟨⟨by rw [w1 0 (by omega), t00, I_eq], by rw [sm.J0, sm.J197]; exact st.2.1, by rw [sm.J0, sm.J197]; exact st.2.2⟩, G, c, i + 1, r.lvl sm (fun a ha => by omega) hz (by rw [w1 0 (by omega)]; exact t0 19 (by omega) (by omega)) w197 ⟨by omega, by rw [w1 0 (by omega)]; exact t10, by rw [I_nk (by omega)]; exact f55, ?_, fun j hj => ?_⟩, se.gr sm.gr hn.1 (fun a ha => by unfold outS; omega) ⟨w197 30 (by omega) (by omega), sm.I (by omega), sm.I (by omega), sm.I (by omega)⟩⟩
    · -- the new level
      have gI : ∀ a, 43 + 24 * (i + 1) ≤ a → a < 67 + 24 * (i + 1) → (gd.sI 197 2 0).I a = gc.I a := fun a h1 h2 => by rw [w1 a (by omega), tI a (by omega)]
      have ga' : ∀ a, 43 + 24 * (i + 1) ≤ a → a < 58 + 24 * (i + 1) → (gd.sI 197 2 0).I a = ga.I a := fun a h1 h2 => by rw [gI a h1 (by omega), c1.I (by omega), b1.I (by omega)]
      have gb' : ∀ a, 58 + 24 * (i + 1) ≤ a → a < 65 + 24 * (i + 1) → (gd.sI 197 2 0).I a = gb.I a := fun a h1 h2 => by rw [gI a (by omega) (by omega), c1.I (by omega)]
      have hga : ∀ a, 43 + 24 * i ≤ a → a < 67 + 24 * i → ga.I a = h.I a := fun a h1 h2 => a1.I (by omega)
      have hgb : ∀ a, 43 + 24 * i ≤ a → a < 67 + 24 * i → gb.I a = h.I a := fun a h1 h2 => (b1.I (by omega)).trans (hga a h1 h2)
      obtain ⟨q1, q2, q3⟩ := m4
      obtain ⟨q7, q8, q9, q10, q11, q12⟩ := m7
      refine ⟨M, N, cn, S, U, W, kk, A, s0, m1, ?_, fun j hj => ?_, ⟨?_, q2, q3⟩, fun k hk => ?_, fun j hj => ?_, ⟨?_, by omega, q9, q10, q11, q12⟩, ?_, ?_⟩
      · refine CM.frame (h := ga) (CM_copy hw hc a2 a4 a5 a6 a7) (fun a h1 h2 => ga' a h1 (by omega))
      · rw [show (gd.sI 197 2 0).J (43 + 24 * (i + 1) + 1) = ga.J (43 + 24 * (i + 1) + 1) by rw [wJ _ (by omega), tJ, c1.J (by omega), b1.J (by omega)], a3 j (by omega)]
        exact m3 j hj
      · rw [ga' _ (by omega) (by omega), a2 0 (by omega)]; exact q1
      · rw [f198 k (by omega)]; exact m5 k hk
      · rw [f199 j (by omega)]; exact m6 j hj
      · refine HCs_copy (h := gc) h12 (HCs_copy (h := gb) (a := 65 + 24 * i) h12 (HCs_copy (h := h) (a := 65 + 24 * i) h12 q7 (by rw [hgb _ (by omega) (by omega)]) (by rw [hgb _ (by omega) (by omega)]) (by rw [hgb _ (by omega) (by omega)]) (by rw [hgb _ (by omega) (by omega)]) (by rw [hgb _ (by omega) (by omega)]; exact q7.2.2.2.2.1) (fun j hj => by rw [hgb _ (by omega) (by omega)])) c2 c3' c4 c5 c6 c7) (by rw [gI _ (by omega) (by omega)]) (by rw [gI _ (by omega) (by omega)]) (by rw [gI _ (by omega) (by omega)]) (by rw [gI _ (by omega) (by omega)]) (by rw [gI _ (by omega) (by omega)]; exact c6) (fun j hj => by rw [gI _ (by omega) (by omega)])
      · rw [f198 2 (by omega), f198 3 (by omega), f198 4 (by omega), f198 5 (by omega)]
        exact ⟨m8.1, m8.2.1, m8.2.2.1, m8.2.2.2.1, fun d hd x1 x2 x3 => by rw [f198 _ (by omega)]; exact m8.2.2.2.2 d hd x1 x2 x3⟩
      · have e58 : (gd.sI 197 2 0).I (58 + 24 * (i + 1)) 0 = h.I (58 + 24 * i) 0 := by rw [gb' _ (by omega) (by omega), b2, hga _ (by omega) (by omega)]
        rw [e58, f198 6 (by omega)]
        refine m9.imp id (fun ⟨w, w6, wr⟩ => ⟨⟨e58.trans w.1, by rw [gb' _ (by omega) (by omega), b3, hga _ (by omega) (by omega)]; exact w.2.1, w.2.2.1, ?_⟩, w6, fun k k1 k2 => by rw [f198 k (by omega)]; exact wr k k1 k2⟩)
        exact CPl_copy (h := ga) w.2.2.1 (CPl_fr w.2.2.2 (fun a x1 x2 => hga _ (by omega) (by omega))) (fun r j x1 x2 x3 => by rw [gb' _ (by omega) (by omega)]; exact b5 r j x1 x2 x3)
    · -- the levels below
      have old : ∀ a, 43 ≤ a → a < 67 + 24 * i → (gd.sI 197 2 0).I a = h.I a ∧ (gd.sI 197 2 0).J a = h.J a := fun a h1 h2 => ⟨sm.I (by omega), sm.J (by omega)⟩
      by_cases ji : j = i
      · subst ji
        exact l4.fr (fun a x1 x2 _ _ _ => (old a (by omega) (by omega)).1) (old _ (by omega) (by omega)).2 (fun e he => by rw [(old _ (by omega) (by omega)).1]) (fun k hk => g198 k hk) (fun k hk => g199 k hk) (by omega)
      · exact (l5 j (by omega)).fr (fun a x1 x2 _ _ _ => (old a (by omega) (by omega)).1) (old _ (by omega) (by omega)).2 (fun e he => by rw [(old _ (by omega) (by omega)).1]) (fun k hk => f198 _ (by omega)) (fun k hk => f199 _ (by omega)) (by omega)
  · rw [if_neg (by rw [cur, c3, nI_ltI (by omega) (by omega)]; exact i3)]
    refine k.st hI hz (fun Y hY => ?_)
    unfold W324
    rw [if_neg (fun n => n (by show h.I 197 55 = 3; rw [l3, show i = 3 by omega]; rfl))]; exact hY
theorem Q191 (hI : Inv L xs h z) (hz : z < 1000) (k : Jn L xs z W325 D) : W191 h D := by
  have hn := hI.nn
  obtain ⟨s0, G, c, i, r, se⟩ := id hI
  obtain ⟨r1, r2, r3, r4, r5, r6, r7, l1, l2, l3, l4, l5⟩ := id r
  unfold W191 W193 W194
  by_cases i0 : i = 0
  · rw [if_neg (by rw [l2, i0]; decide)]
    refine k.st hI hz (fun Y hY => ?_)
    unfold W325
    rw [if_neg (fun n => n (by show h.I 197 55 = 0; rw [l3, i0]; rfl))]; exact hY
  · have em : nI i - 1 = nI (i - 1) := by rw [show (1 : Int32) = nI 1 from rfl, pk_sub (by omega)]
    rw [if_pos (by rw [l2]; exact (nI_ltI (a := 0) (by omega) (by omega)).mpr (by omega)), l2, em, I_eq]
    have smc : Sm (fun a => a = 0) h ((h.sI 0 10 (nI (i - 1))).sI 0 0 0) := Sm.sI (S := fun a => a = 0) (sm1 h 0 10 _) rfl _
    have t0 : ∀ j, j ≠ 0 → j ≠ 10 → ((h.sI 0 10 (nI (i - 1))).sI 0 0 0).I 0 j = h.I 0 j := fun j h1 h2 => by rw [I_nk h1, I_nk h2]
    have t10 : ((h.sI 0 10 (nI (i - 1))).sI 0 0 0).I 0 10 = nI (i - 1) := by rw [I_nk (by omega), I_eq]
    have t00 : ((h.sI 0 10 (nI (i - 1))).sI 0 0 0).I 0 0 = 0 := I_eq
    generalize ((h.sI 0 10 (nI (i - 1))).sI 0 0 0) = hc2 at smc t0 t10 t00 ⊢
    refine k _ _ (hI.sc.gr smc.gr (by omega)) (fun Y hY => ?_)
    unfold W325
    have e55 : hc2.I 197 55 = nI i := by rw [smc.I (by omega)]; exact l3
    rw [e55, if_pos (fun w => by have := (nI_eq (b := 0) (by omega) (by omega)).mp w; omega)]
    refine S323 (x := i) (y := 0) (by omega) (by omega) i0 (fun gd d1 d2 d3 d4 d5 => ?_)
    unfold W206
    rw [show gd.I 197 55 = nI i by rw [d1.I (by omega), e55], em, I_eq]
    refine hY _ ?_
    have sm : Sm (fun a => a = 0 ∨ a = 197 ∨ a = 198 ∨ a = 199) h ((gd.sI 197 55 (nI (i - 1))).sI 197 2 0) := by
      refine Sm.sI (S := fun a => a = 0 ∨ a = 197 ∨ a = 198 ∨ a = 199) (Sm.sI (S := fun a => a = 0 ∨ a = 197 ∨ a = 198 ∨ a = 199) ?_ (Or.inr (Or.inl rfl)) _) (Or.inr (Or.inl rfl)) 0
      exact (smc.mono (fun a ha => Or.inl ha)).trans (d1.mono (fun a ha => by omega))
    have w1 : ∀ a, ¬ (a = 197 ∨ a = 198 ∨ a = 199) → ((gd.sI 197 55 (nI (i - 1))).sI 197 2 0).I a = hc2.I a := fun a ha => funext (fun j => by rw [I_sI, if_neg (by omega), I_sI, if_neg (by omega), d1.I (by omega)])
    have w197 : ∀ j, j ≠ 2 → j ≠ 55 → ((gd.sI 197 55 (nI (i - 1))).sI 197 2 0).I 197 j = h.I 197 j := fun j h1 h2 => by rw [I_nk h1, I_nk h2, d1.I (by omega), smc.I (by omega)]
    have f55 : ((gd.sI 197 55 (nI (i - 1))).sI 197 2 0).I 197 55 = nI (i - 1) := by rw [I_nk (by omega), I_eq]
    have x0 : ∀ e, 440 * 0 + e = e := fun e => by omega
    have y0 : ∀ e, 12 * 0 + e = e := fun e => by omega
    have f198 : ∀ j, 440 ≤ j → ((gd.sI 197 55 (nI (i - 1))).sI 197 2 0).I 198 j = h.I 198 j := fun j hj => by rw [I_sI, if_neg (by omega), I_sI, if_neg (by omega), d3 j (by omega), smc.I (by omega)]
    have f199 : ∀ j, 12 ≤ j → ((gd.sI 197 55 (nI (i - 1))).sI 197 2 0).J 199 j = h.J 199 j := fun j hj => by rw [J_sI, J_sI, d5 j (by omega), smc.J (by omega)]
    have g198 : ∀ j, j < 440 → ((gd.sI 197 55 (nI (i - 1))).sI 197 2 0).I 198 j = h.I 198 (440 * i + j) := fun j hj => by
      have := d2 j hj
      rw [x0] at this
      rw [I_sI, if_neg (by omega), I_sI, if_neg (by omega), this, smc.I (by omega)]
    have g199 : ∀ j, j < 12 → ((gd.sI 197 55 (nI (i - 1))).sI 197 2 0).J 199 j = h.J 199 (12 * i + j) := fun j hj => by
      have := d4 j hj
      rw [y0] at this
      rw [J_sI, J_sI, this, smc.J (by omega)]
    have w2 : ((gd.sI 197 55 (nI (i - 1))).sI 197 2 0).I 197 2 = 0 := I_eq
    generalize ((gd.sI 197 55 (nI (i - 1))).sI 197 2 0) = hf at sm w1 w197 f55 f198 f199 g198 g199 w2 ⊢
    have old : ∀ a, 43 ≤ a → a < 139 → hf.I a = h.I a ∧ hf.J a = h.J a := fun a h1 h2 => ⟨sm.I (by omega), sm.J (by omega)⟩
    refine ⟨⟨by rw [w1 0 (by omega), t00, w2], by rw [sm.J0, sm.J197]; exact s0.2.1, by rw [sm.J0, sm.J197]; exact s0.2.2⟩, G, c, i - 1, r.lvl sm (fun a ha => by omega) hz (by rw [w1 0 (by omega)]; exact t0 19 (by omega) (by omega)) w197 ⟨by omega, by rw [w1 0 (by omega)]; exact t10, f55, ?_, fun j hj => ?_⟩, se.gr sm.gr hn.1 (fun a ha => by unfold outS; omega) ⟨w197 30 (by omega) (by omega), sm.I (by omega), sm.I (by omega), sm.I (by omega)⟩⟩
    · exact (l5 (i - 1) (by omega)).fr (fun a x1 x2 _ _ _ => (old a (by omega) (by omega)).1) (old _ (by omega) (by omega)).2 (fun e he => by rw [(old _ (by omega) (by omega)).1]) (fun k hk => by rw [g198 k hk, show i - 1 + 1 = i by omega]) (fun k hk => by rw [g199 k hk, show i - 1 + 1 = i by omega]) (by omega)
    · exact (l5 j (by omega)).fr (fun a x1 x2 _ _ _ => (old a (by omega) (by omega)).1) (old _ (by omega) (by omega)).2 (fun e he => by rw [(old _ (by omega) (by omega)).1]) (fun k hk => f198 _ (by omega)) (fun k hk => f199 _ (by omega)) (by omega)
end MRK
