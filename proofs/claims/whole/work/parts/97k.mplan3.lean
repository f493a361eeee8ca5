/-! THE REFERENCE READS A STEP: all of it -/
section RP3
variable {h : TH} {T : Nat → Nat} {z : Nat} {N : Nat → List Nat} {n0 : Nat} {s : QS}
theorem S245 {C : Int32 → TH → Prop} (p : PI s.2.1 n0 s.2.2.1 s.2.2.2) (c : RPm h T z N n0 s.2.2.2 s.2.2.1 s.1 s.2.1) (k1 : ∀ g s', qStep T z N n0 s = .inr s' → RFp h g → RPm g T z N n0 s'.2.2.2 s'.2.2.1 s'.1 s'.2.1 → C 1 g) (k0 : ∀ g e, qStep T z N n0 s = .inl e → RFp h g → RFt g e → C 0 g) : W245 h C := by
  have n60 := p.n60
  obtain ⟨p2, p3, p4⟩ := p.2.1
  have e6 : h.I 198 1766 = nI (qn s.2.1) := by rw [c.2.1 6 (by omega)]; exact p.1
  have e21 := c.2.2.2.2.2.1
  have e22 := c.2.2.2.2.2.2.1
  have fail : ∀ f : Nat, 1 ≤ f ∧ f ≤ 9 → qStep T z N n0 s = .inl (fl T z s.1 f) → W224 (nI f) h (fun v2 h3 => (v2 = 0 ∨ v2 = 1) ∧ C v2 h3) := fun f hf e =>
    S224 (f := f) c.1 c.2.2.2.2.1 (fun g s1 f1 pf => ⟨Or.inl rfl, k0 g _ e (RFp_ft s1 f1) pf⟩) hf
  have semi : ∀ (g : TH) (s1 : QS), qStep T z N n0 s = qSemi T z s1 → RFp h g → RPm g T z N n0 s1.2.2.2 s1.2.2.1 s1.1 s1.2.1 → W226 59 g (fun v3 h4 => (v3 = 0 ∨ v3 = 1) ∧ C v3 h4) := by
    intro g s1 e1 rf c1
    refine S226 c1.1 c1.2.2.2.2.1 (fun q g2 s2 f2 r2 => ⟨Or.inr rfl, ?_⟩) (fun q g2 s2 f2 p2 => ⟨Or.inl rfl, ?_⟩)
    · exact k1 g2 (s1.1 + 1, s1.2) (by rw [e1]; unfold qSemi; rw [if_pos q]) (rf.trans (RFp_tok s2 f2)) (RPm_tok c1 s2 f2 r2)
    · exact k0 g2 _ (by rw [e1]; unfold qSemi; rw [if_neg q]) (rf.trans (RFp_ft s2 f2)) p2
  have stp : ∀ (w : Nat) (x4 x5 : Int32), kd T z s.1 = w → isSt w → ((x4 = 1 ∧ (w = 10 ∨ w = 11 ∨ w = 13 ∨ w = 14 ∨ w = 15)) ∨ (x4 = 0 ∧ (w = 16 ∨ w = 20 ∨ w = 22))) → ((x5 = 1 ∧ (w = 16 ∨ w = 20)) ∨ (x5 = 0 ∧ ¬ (w = 16 ∨ w = 20))) → B245_115 (nI w) (nI (qn s.2.1)) (nI (1884 + 5 * qn s.2.1)) x4 x5 h C := by
    intro w x4 x5 hw hst hx4 hx5
    have w23 : w < 23 ∧ w ≠ 21 := by unfold isSt at hst; omega
    have eS : qStep T z N n0 s = if s.2.2.1 = 30 then .inl (fl T z s.1 6) else if (w = 16 ∨ w = 20) ∧ s.2.2.2.length = 3 then .inl (fl T z s.1 7) else qth (qRest T z N n0 w (qn s.2.1) (qRow w s)) (fun r => qSemi T z (qOpen w (qn s.2.1) r)) := by
      unfold qStep; rw [hw, if_neg w23.2, if_pos hst]
    unfold B245_115
    rw [if_neg (show ¬ nI w = 21 from nIw (by omega) 21 (by omega) w23.2), e22]
    by_cases q30 : s.2.2.1 = 30
    · rw [if_neg (fun n => n (by rw [q30]; rfl))]
      exact fail 6 (by omega) (by rw [eS, if_pos q30])
    · rw [if_pos (show ¬ nI s.2.2.1 = 30 from nIw (by omega) 30 (by omega) q30)]
      rw [if_neg q30] at eS
      have body : ((w = 16 ∨ w = 20) → s.2.2.2.length < 3) → B245_157 (nI w) (nI (qn s.2.1)) (nI (1884 + 5 * qn s.2.1)) x4 x5 h C := by
        intro hl
        rw [if_neg (fun u => by have := hl u.1; omega)] at eS
        refine S245l w23.1 p c (fun g rf c1 => ?_)
        refine S245m (r := qRow w s) hst n60 hx4 c1 (fun g2 r' e2 er rf2 c2 => ?_) (fun g2 e e2 rf2 pf => ?_)
        · have eR : qStep T z N n0 s = qSemi T z (qOpen w (qn s.2.1) r') := by rw [eS]; exact qth_i e2
          have ec : r'.2.2.1 = (qRow w s).2.2.1 := by rw [er]
          have es : r'.2.2.2 = s.2.2.2 := by rw [er]; rfl
          have no21 : ∀ G : TH, W226 59 G (fun v3 h4 => (v3 = 0 ∨ v3 = 1) ∧ C v3 h4) → B245_345 (nI w) (nI (qn s.2.1)) (nI (1884 + 5 * qn s.2.1)) G C := by
            intro G hG
            unfold B245_345
            rw [if_pos (show ¬ nI w = 21 from nIw (by omega) 21 (by omega) w23.2)]; exact hG
          unfold B245_320
          rcases hx5 with ⟨rfl, v⟩ | ⟨rfl, v⟩
          · have hl' := hl v
            have eO : qOpen w (qn s.2.1) r' = (r'.1, r'.2.1, r'.2.2.1, qn s.2.1 :: s.2.2.2) := by unfold qOpen; rw [if_pos v, es]
            rw [if_neg (by decide), c2.2.2.2.2.2.1, ix_n (by omega), I_ne (show (197 : Nat) ≠ 205 by decide), c2.2.2.2.2.2.1, nI_1]
            refine ⟨inb_n hl', no21 _ (semi _ _ eR (rf.trans (rf2.trans ⟨Sm.sI (S := inQp) (Sm.sI (S := inQp) Sm.refl (Or.inr (Or.inr rfl)) _) (Or.inl rfl) _, fun i hi => by rw [I_ne (by decide), I_ne (by decide)], fun j hj => by rw [I_nk (by omega), I_ne (by decide)]⟩)) ?_)⟩
            rw [eO]
            obtain ⟨d1, d2, d3, d4, d5, d6, d7, d8⟩ := c2
            refine ⟨d1.frame (fun j j1 j2 => by rw [I_nk (by omega), I_ne (by decide)]) (by funext j; rw [I_ne (by decide), I_ne (by decide)]) (by rw [I_nk (by decide), I_ne (by decide)]), fun i hi => by rw [I_ne (by decide), I_ne (by decide)]; exact d2 i hi, fun j hj => d3 j hj, ⟨by rw [I_ne (by decide), I_ne (by decide)]; exact d4.1, d4.2⟩, by rw [I_nk (by decide), I_ne (by decide)]; exact d5, by rw [I_eq]; rfl, by rw [I_nk (by decide), I_ne (by decide), d7]; exact congrArg nI ec.symm, fun j y hy => ?_⟩
            rw [I_ne (by decide), I_at]
            rcases rev_new hy with ⟨j1, j2⟩ | ⟨j1, j2⟩
            · rw [if_neg (by omega)]; exact d8 j y j2
            · rw [if_pos j1, j2]
          · rw [if_pos rfl]
            have eO : qOpen w (qn s.2.1) r' = r' := by unfold qOpen; rw [if_neg v]
            refine no21 _ (semi g2 r' (by rw [eR, eO]) (rf.trans rf2) ?_)
            rw [es, ec]; exact c2
        · exact k0 g2 e (by rw [eS]; exact qth_l e2) (rf.trans rf2) pf
      unfold B245_137
      rcases hx5 with ⟨rfl, v⟩ | ⟨rfl, v⟩
      · rw [if_neg (by decide), e21]
        by_cases l3 : s.2.2.2.length = 3
        · rw [if_neg (fun n => n (by rw [l3]; rfl))]
          exact fail 7 (by omega) (by rw [eS, if_pos ⟨v, l3⟩])
        · rw [if_pos (show ¬ nI s.2.2.2.length = 3 from nIw (by omega) 3 (by omega) l3)]
          exact body (fun _ => by omega)
      · rw [if_pos rfl]
        exact body (fun u => absurd u v)
  have endd : kd T z s.1 = 21 → ∀ (x : Nat) (r : List Nat), s.2.2.2 = x :: r → B245_115 (nI 21) (nI (qn s.2.1)) (nI (1884 + 5 * qn s.2.1)) 0 0 h C := by
    intro q x r hs
    obtain ⟨hx, ox⟩ := p.2.2.2.2.2.1 x (by rw [hs]; simp)
    have hlen : s.2.2.2.length = r.length + 1 := by rw [hs]; rfl
    have eS : qStep T z N n0 s = qSemi T z (s.1 + 1, upd (upd (qRow 21 s).2.1 (124 + 5 * qn s.2.1 + 3) (nI x)) (124 + 5 * x + 3) (nI (qn s.2.1)), s.2.2.1, r) := by
      unfold qStep; rw [if_pos q]
      split
      · rename_i hh; rw [hh] at hs; cases hs
      · rename_i o' r' hh
        rw [hh] at hs
        cases hs; rfl
    unfold B245_115
    rw [if_pos (show nI 21 = 21 from rfl)]
    unfold B245_137
    rw [if_pos rfl]
    refine S245l (w := 21) (by omega) p c (fun g rf c1 => ?_)
    rw [if_pos rfl]
    unfold B245_254
    rw [if_pos (show ¬ nI 21 = 11 by decide)]
    unfold B245_283
    rw [if_pos (show ¬ nI 21 = 20 by decide)]
    unfold B245_304
    rw [if_pos (show ¬ nI 21 = 16 by decide)]
    unfold B245_320
    rw [if_pos rfl]
    unfold B245_345
    rw [if_neg (fun n => n rfl)]
    obtain ⟨d1, d2, d3, d4, d5, d6, d7, d8⟩ := c1
    have e5 : g.I 205 r.length = nI x := d8 _ _ (by rw [hs]; exact rev_top)
    rw [d6, hlen, nI_pred, I_eq, ix_n (by omega), I_ne (show (205 : Nat) ≠ 197 by decide), e5, show (3 : Int32) = nI 3 from rfl, nI_add, ix_n (by omega)]
    refine ⟨inb_n (by omega), inb_n (by omega), fun h5 e5' => ?_⟩
    have a21 : h5.I 197 21 = nI r.length := by rw [e5', I_ne (by decide), I_eq]
    have a205 : h5.I 205 r.length = nI x := by rw [e5', I_ne (by decide), I_ne (by decide)]; exact e5
    rw [a21, ix_n (by omega), a205, show (5 : Int32) = nI 5 from rfl, pk_mul, show (1884 : Int32) = nI 1884 from rfl, nI_add, nI_add, ix_n (by omega)]
    refine ⟨inb_n (by omega), inb_n (by omega), semi _ _ eS (rf.trans ?_) ?_⟩
    · rw [e5']
      exact ⟨Sm.sI (S := inQp) (Sm.sI (S := inQp) (Sm.sI (S := inQp) Sm.refl (Or.inl rfl) _) (Or.inr (Or.inl rfl)) _) (Or.inr (Or.inl rfl)) _, fun i hi => by rw [I_nk (by omega), I_nk (by omega), I_ne (by decide)], fun j hj => by rw [I_ne (by decide), I_ne (by decide), I_nk (by omega)]⟩
    · have cc1 : (qRow 21 s).2.2.1 = s.2.2.1 := by unfold qRow; rfl
      refine ⟨?_, ?_, ?_, ⟨?_, d4.2⟩, ?_, ?_, ?_, fun j y hy => ?_⟩
      · rw [e5']
        exact RT_198 (RT_198 (d1.frame (fun j j1 j2 => I_nk (by omega)) (by funext j; rw [I_ne (by decide)]) (I_nk (by decide))))
      · refine RMs_upd (k := 124 + 5 * x + 3) ?_ (by omega)
        rw [e5']
        exact RMs_upd (k := 124 + 5 * qn s.2.1 + 3) (fun i hi => by rw [I_ne (by decide)]; exact d2 i hi) (by omega)
      · intro j hj; rw [e5']; exact d3 j hj
      · rw [I_nk (by omega), e5', I_nk (by omega), I_ne (by decide)]; exact d4.1
      · rw [I_ne (by decide), e5', I_ne (by decide), I_nk (by decide)]; exact d5
      · rw [I_ne (by decide)]; exact a21
      · rw [I_ne (by decide), e5', I_ne (by decide), I_nk (by decide), d7, cc1]
      · rw [I_ne (by decide), e5', I_ne (by decide), I_ne (by decide)]
        exact d8 j y (by rw [hs]; exact rev_old hy)
  unfold W245
  rw [show ix 1766 = 1766 from rfl, e6, show (5 : Int32) = nI 5 from rfl, pk_mul, show (1884 : Int32) = nI 1884 from rfl, nI_add]
  have bad2 : kd T z s.1 ≠ 21 → ¬ isSt (kd T z s.1) → qStep T z N n0 s = .inl (fl T z s.1 2) := fun a b => by unfold qStep; rw [if_neg a, if_neg b]
  refine S223 c.1 (fun u => ?_) (fun u => ?_)
  · generalize hw : kd T z s.1 = w at *
    have named : (w = 10 ∨ w = 11 ∨ w = 13 ∨ w = 14 ∨ w = 15) → B245_54 (nI w) (nI (qn s.2.1)) (nI (1884 + 5 * qn s.2.1)) h C := by
      intro v
      unfold B245_54 B245_59
      rw [if_neg (show ¬ nI w = 16 from nIw (by omega) 16 (by omega) (by omega)), if_pos (show ¬ nI w = 20 from nIw (by omega) 20 (by omega) (by omega))]
      unfold B245_78
      rw [if_pos (by decide)]
      exact stp w 1 0 rfl (by unfold isSt; omega) (Or.inl ⟨rfl, v⟩) (Or.inr ⟨rfl, by omega⟩)
    by_cases q10 : w = 10
    · rw [if_pos (by rw [q10]; rfl)]; exact named (by omega)
    rw [if_neg (show ¬ nI w = 10 from nIw (by omega) 10 (by omega) q10)]
    by_cases q11 : w = 11
    · rw [if_pos (by rw [q11]; rfl)]; exact named (by omega)
    rw [if_neg (show ¬ nI w = 11 from nIw (by omega) 11 (by omega) q11)]
    by_cases q13 : w = 13
    · rw [if_pos (by rw [q13]; rfl)]; exact named (by omega)
    rw [if_neg (show ¬ nI w = 13 from nIw (by omega) 13 (by omega) q13)]
    by_cases q14 : w = 14
    · rw [if_pos (by rw [q14]; rfl)]; exact named (by omega)
    rw [if_neg (show ¬ nI w = 14 from nIw (by omega) 14 (by omega) q14)]
    by_cases q15 : w = 15
    · rw [if_neg (fun n => n (by rw [q15]; rfl))]; exact named (by omega)
    rw [if_pos (show ¬ nI w = 15 from nIw (by omega) 15 (by omega) q15)]
    unfold B245_59
    by_cases q16 : w = 16
    · rw [if_pos (by rw [q16]; rfl)]
      unfold B245_73 B245_78
      rw [if_neg (fun n => n rfl), if_pos (by decide)]
      exact stp w 0 1 rfl (by unfold isSt; omega) (Or.inr ⟨rfl, by omega⟩) (Or.inl ⟨rfl, by omega⟩)
    rw [if_neg (show ¬ nI w = 16 from nIw (by omega) 16 (by omega) q16)]
    by_cases q20 : w = 20
    · rw [if_neg (fun n => n (by rw [q20]; rfl))]
      unfold B245_73 B245_78
      rw [if_neg (fun n => n rfl), if_pos (by decide)]
      exact stp w 0 1 rfl (by unfold isSt; omega) (Or.inr ⟨rfl, by omega⟩) (Or.inl ⟨rfl, by omega⟩)
    rw [if_pos (show ¬ nI w = 20 from nIw (by omega) 20 (by omega) q20)]
    unfold B245_78
    rw [if_neg (fun n => n rfl), if_neg (fun n => n rfl)]
    by_cases q22 : w = 22
    · rw [if_pos (by rw [q22]; rfl)]
      exact stp w 0 0 rfl (by unfold isSt; omega) (Or.inr ⟨rfl, by omega⟩) (Or.inr ⟨rfl, by omega⟩)
    rw [if_neg (show ¬ nI w = 22 from nIw (by omega) 22 (by omega) q22)]
    by_cases q21 : w = 21
    · rw [if_neg (fun n => n (by rw [q21]; rfl)), e21]
      cases hs : s.2.2.2 with
      | nil =>
        rw [if_neg (fun n => n rfl)]
        refine fail 2 (by omega) ?_
        unfold qStep
        rw [if_pos (by rw [hw]; exact q21), hs]
      | cons x r =>
        rw [if_pos (show ¬ nI (x :: r).length = 0 from nI_ne0 (by show 0 < r.length + 1; omega) (by rw [hs] at p4; omega)), q21]
        exact endd q21 x r hs
    rw [if_pos (show ¬ nI w = 21 from nIw (by omega) 21 (by omega) q21)]
    exact fail 2 (by omega) (bad2 q21 (by unfold isSt; omega))
  · rw [if_neg (by decide), if_neg (by decide), if_neg (by decide), if_neg (by decide), if_pos (by decide)]
    unfold B245_59
    rw [if_neg (by decide), if_pos (by decide)]
    unfold B245_78
    rw [if_neg (fun n => n rfl), if_neg (fun n => n rfl), if_neg (by decide), if_pos (by decide)]
    exact fail 2 (by omega) (bad2 (by omega) (by unfold isSt; omega))
end RP3
