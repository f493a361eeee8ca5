/-! THE REFERENCE READS A STEP -/
section RP2
variable {h : TH} {T : Nat → Nat} {z : Nat} {N : Nat → List Nat} {n0 : Nat} {st : List Nat} {cn : Nat} {r : QS}
theorem nIw {w : Nat} (hw : w < 100) (x : Nat) (hx : x < 100) (h : w ≠ x) : ¬ nI w = nI x := fun e => h ((nI_eq (by omega) (by omega)).mp e)
theorem S245m {C : Int32 → TH → Prop} {w k : Nat} {x4 x5 : Int32} (hst : isSt w) (hk : k ≤ 60) (hx4 : (x4 = 1 ∧ (w = 10 ∨ w = 11 ∨ w = 13 ∨ w = 14 ∨ w = 15)) ∨ (x4 = 0 ∧ (w = 16 ∨ w = 20 ∨ w = 22))) (c : RPm h T z N n0 st cn r.1 r.2.1) (fin : ∀ g r', qRest T z N n0 w k r = .inr r' → r'.2.2 = r.2.2 → RFp h g → RPm g T z N n0 st cn r'.1 r'.2.1 → B245_320 (nI w) (nI k) (nI (1884 + 5 * k)) x5 g C) (k0 : ∀ g e, qRest T z N n0 w k r = .inl e → RFp h g → RFt g e → C 0 g) : if x4 = 0 then (B245_254 (nI w) (nI k) (nI (1884 + 5 * k)) x5 h C) else (W243 (nI (1884 + 5 * k) + 1) h (fun v3 h4 => if ¬ v3 = 0 then (B245_254 (nI w) (nI k) (nI (1884 + 5 * k)) x5 h4 C) else (C 0 h4))) := by
  have w23 : w < 23 := by unfold isSt at hst; omega
  have d304 : ∀ g : TH, w ≠ 16 → B245_320 (nI w) (nI k) (nI (1884 + 5 * k)) x5 g C → B245_304 (nI w) (nI k) (nI (1884 + 5 * k)) x5 g C := by
    intro g h1 b
    unfold B245_304
    rw [if_pos (show ¬ nI w = 16 from nIw (by omega) 16 (by omega) h1)]; exact b
  have d283 : ∀ g : TH, w ≠ 16 → w ≠ 20 → B245_320 (nI w) (nI k) (nI (1884 + 5 * k)) x5 g C → B245_283 (nI w) (nI k) (nI (1884 + 5 * k)) x5 g C := by
    intro g h1 h2 b
    unfold B245_283
    rw [if_pos (show ¬ nI w = 20 from nIw (by omega) 20 (by omega) h2)]; exact d304 g h1 b
  have d254 : ∀ g : TH, w ≠ 11 → B245_283 (nI w) (nI k) (nI (1884 + 5 * k)) x5 g C → B245_254 (nI w) (nI k) (nI (1884 + 5 * k)) x5 g C := by
    intro g h1 b
    unfold B245_254
    rw [if_pos (show ¬ nI w = 11 from nIw (by omega) 11 (by omega) h1)]; exact b
  rcases hx4 with ⟨rfl, hw⟩ | ⟨rfl, hw⟩
  · rw [if_neg (by decide), nI_1]
    by_cases w11 : w = 11
    · subst w11
      refine S243 (q := 124 + 5 * k + 1) c (by omega) (by omega) (fun g r1 e1 e2 rf c1 => ?_) (fun g e e1 rf p => ?_)
      · rw [if_pos (by decide)]
        have eR : qRest T z N n0 11 k r = (if kd T z r1.1 = 12 then qName T z N n0 (124 + 5 * k + 2) (r1.1 + 1, r1.2) else .inl (fl T z r1.1 2)) := by unfold qRest; rw [if_neg (by omega), if_pos rfl, qth_i e1]
        unfold B245_254
        rw [if_neg (fun n => n rfl)]
        refine S227 (w := 12) c1.1 c1.2.2.2.2.1 (by omega) (fun q g2 s2 f2 r2 => ?_) (fun q g2 s2 f2 p2 => ?_)
        · rw [if_neg (by decide), show (2 : Int32) = nI 2 from rfl, nI_add]
          rw [if_pos q] at eR
          refine S243 (r := (r1.1 + 1, r1.2)) (q := 124 + 5 * k + 2) (RPm_tok c1 s2 f2 r2) (by omega) (by omega) (fun g3 r3 e3 e4 rf3 c3 => ?_) (fun g3 e e3 rf3 p3 => ?_)
          · rw [if_pos (by decide)]
            exact d283 g3 (by omega) (by omega) (fin g3 r3 (eR.trans e3) (by rw [e4]; exact e2) (rf.trans ((RFp_tok s2 f2).trans rf3)) c3)
          · rw [if_neg (fun n => n rfl)]
            exact k0 g3 e (eR.trans e3) (rf.trans ((RFp_tok s2 f2).trans rf3)) p3
        · rw [if_pos rfl]
          rw [if_neg q] at eR
          exact k0 g2 _ eR (rf.trans (RFp_ft s2 f2)) p2
      · rw [if_neg (fun n => n rfl)]
        exact k0 g e (by unfold qRest; rw [if_neg (by omega), if_pos rfl]; exact qth_l e1) rf p
    · have eR : qRest T z N n0 w k r = qName T z N n0 (124 + 5 * k + 1) r := by unfold qRest; rw [if_pos (by omega)]
      refine S243 (q := 124 + 5 * k + 1) c (by omega) (by omega) (fun g r1 e1 e2 rf c1 => ?_) (fun g e e1 rf p => ?_)
      · rw [if_pos (by decide)]
        exact d254 g w11 (d283 g (by omega) (by omega) (fin g r1 (eR.trans e1) e2 rf c1))
      · rw [if_neg (fun n => n rfl)]
        exact k0 g e (eR.trans e1) rf p
  · rw [if_pos rfl]
    rcases hw with rfl | rfl | rfl
    · have eR : qRest T z N n0 16 k r = qTest T z N n0 k r := by unfold qRest; rw [if_neg (by omega), if_neg (by omega), if_neg (by omega), if_pos rfl]
      refine d254 h (by omega) ?_
      unfold B245_283
      rw [if_pos (show ¬ nI 16 = 20 by decide)]
      unfold B245_304
      rw [if_neg (fun n => n rfl)]
      refine S244 (k := k) c (by omega) hk (fun g r1 e1 e2 rf c1 => ?_) (fun g e e1 rf p => ?_)
      · rw [if_pos (by decide)]
        exact fin g r1 (eR.trans e1) e2 rf c1
      · rw [if_neg (fun n => n rfl)]
        exact k0 g e (eR.trans e1) rf p
    · have eR : qRest T z N n0 20 k r = qNum T z (124 + 5 * k + 1) 1 99 r := by unfold qRest; rw [if_neg (by omega), if_neg (by omega), if_pos rfl]
      refine d254 h (by omega) ?_
      unfold B245_283
      rw [if_neg (fun n => n rfl), nI_1]
      refine S228q (q := 124 + 5 * k + 1) (lo := 1) (hi := 99) c (by omega) (by omega) (by omega) (by omega) (fun g r1 e1 e2 rf c1 => ?_) (fun g e e1 rf p => ?_)
      · rw [if_pos (by decide)]
        exact d304 g (by omega) (fin g r1 (eR.trans e1) e2 rf c1)
      · rw [if_neg (fun n => n rfl)]
        exact k0 g e (eR.trans e1) rf p
    · exact d254 h (by omega) (d283 h (by omega) (by omega) (fin h r (by unfold qRest; rw [if_neg (by omega), if_neg (by omega), if_neg (by omega), if_neg (by omega)]) rfl RFp.refl c))
/-- a row is laid -/
theorem S245l {C : Int32 → TH → Prop} {w : Nat} {x4 x5 : Int32} {s : QS} (hw : w < 23) (p : PI s.2.1 n0 s.2.2.1 s.2.2.2) (c : RPm h T z N n0 s.2.2.2 s.2.2.1 s.1 s.2.1) (k : ∀ g, RFp h g → RPm g T z N n0 s.2.2.2 (qRow w s).2.2.1 (s.1 + 1) (qRow w s).2.1 → if x4 = 0 then (B245_254 (nI w) (nI (qn s.2.1)) (nI (1884 + 5 * qn s.2.1)) x5 g C) else (W243 (nI (1884 + 5 * qn s.2.1) + 1) g (fun v3 h4 => if ¬ v3 = 0 then (B245_254 (nI w) (nI (qn s.2.1)) (nI (1884 + 5 * qn s.2.1)) x5 h4 C) else (C 0 h4)))) : B245_157 (nI w) (nI (qn s.2.1)) (nI (1884 + 5 * qn s.2.1)) x4 x5 h C := by
  have n60 := p.n60
  have c30 := p.2.1.2.1
  generalize hn : qn s.2.1 = n at *
  unfold B245_157
  rw [ix_n (by omega)]
  refine ⟨inb_n (by omega), ?_⟩
  unfold B245_167
  refine LFP.up 4 (fun (j : Nat) (q : Int32 × TH) => 1 ≤ j ∧ q.1 = nI j ∧ RFp h q.2 ∧ ∃ M1 : Nat → Int32, RPm q.2 T z N n0 s.2.2.2 s.2.2.1 s.1 M1 ∧ (∀ i, (i < 124 + 5 * n ∨ 124 + 5 * n + j ≤ i) → M1 i = s.2.1 i) ∧ M1 (124 + 5 * n) = nI w ∧ ∀ f, 1 ≤ f → f < j → M1 (124 + 5 * n + f) = 0) ?_ ?_ (i := 1) (by omega) ⟨by omega, rfl, RFp_198 (by omega), _, RPm_wr (q := 124 + 5 * n) c (by omega), fun i hi => pk_un (by omega), pk_us, fun f h1 h2 => absurd h1 (by omega)⟩
  · rintro X j ⟨x6, g⟩ hj ⟨j1, e1, rf, M1, c1, o1, w1, z1⟩ ih
    (try dsimp only at e1 rf c1)
    subst e1
    unfold F245_167
    (try dsimp only)
    rw [if_neg (show ¬ (4 : Int32) ≤ nI j from nI_ge (b := 4) hj (by omega)), nI_add, ix_n (by omega), nI_1]
    refine ⟨inb_n (by omega), ih _ ⟨by omega, rfl, rf.trans (RFp_198 (by omega)), _, RPm_wr (q := 124 + 5 * n + j) c1 (by omega), fun i hi => by rw [pk_un (by omega)]; exact o1 i (by omega), by rw [pk_un (by omega)]; exact w1, fun f h1 h2 => ?_⟩⟩
    by_cases y : f = j
    · rw [y]; exact pk_us
    · rw [pk_un (by omega)]; exact z1 f h1 (by omega)
  · rintro X ⟨x6, g⟩ ⟨j1, e1, rf, M1, c1, o1, w1, z1⟩
    (try dsimp only at e1 rf c1)
    subst e1
    unfold F245_167
    (try dsimp only)
    have e22 : g.I 197 22 = nI s.2.2.1 := c1.2.2.2.2.2.2.1
    rw [if_pos (show (4 : Int32) ≤ nI 4 by decide +kernel), show (4 : Int32) = nI 4 from rfl, nI_add, ix_n (by omega), e22, I_ne (show (197 : Nat) ≠ 198 by decide), e22]
    refine ⟨inb_n (by omega), ?_⟩
    have c2 := RPm_wr (v := nI s.2.2.1) (q := 124 + 5 * n + 4) c1 (p := 1884 + 5 * n + 4) (by omega)
    have rf2 : RFp h (g.sI 198 (1884 + 5 * n + 4) (nI s.2.2.1)) := rf.trans (RFp_198 (by omega))
    generalize g.sI 198 (1884 + 5 * n + 4) (nI s.2.2.1) = G at c2 rf2 ⊢
    have e6 : G.I 198 1766 = nI n := by
      rw [c2.2.1 6 (by omega), pk_un (by omega), o1 6 (by omega)]
      rw [← hn]; exact p.1
    have eM : ∀ i, i < 440 → upd (upd M1 (124 + 5 * n + 4) (nI s.2.2.1)) 6 (nI (n + 1)) i = (qRow w s).2.1 i := by
      intro i hi
      by_cases i6 : i = 6
      · rw [i6, pk_us, qRow_6, hn]
      · rw [pk_un i6]
        by_cases hr : 124 + 5 * n ≤ i ∧ i < 124 + 5 * n + 5
        · obtain ⟨f, rfl⟩ : ∃ f, i = 124 + 5 * n + f := ⟨i - (124 + 5 * n), by omega⟩
          have := qRow_f (s := s) (w := w) (f := f) (by omega)
          rw [hn] at this
          rw [this]
          by_cases f0 : f = 0
          · rw [if_pos f0, f0, pk_un (by omega)]; exact w1
          · rw [if_neg f0]
            by_cases f4 : f = 4
            · rw [if_pos f4, f4]; exact pk_us
            · rw [if_neg f4, pk_un (by omega)]; exact z1 f (by omega) (by omega)
        · rw [pk_un (by omega), o1 i (by omega)]
          exact (qRow_o i6 (by omega)).symm
    have go : ∀ d : Nat, (qRow w s).2.2.1 = s.2.2.1 + d → B245_217 (nI w) (nI n) (nI (1884 + 5 * n)) x4 x5 (nI s.2.2.1) (nI d) G C := by
      intro d hd
      unfold B245_217
      rw [show ix 1766 = 1766 from rfl, I_ne (show (198 : Nat) ≠ 197 by decide), e6, nI_1 n, nI_add]
      obtain ⟨c21, c22, c23, c24, c25, c26, c27, c28⟩ := c2
      have rtG : RT ((G.sI 197 22 (nI (s.2.2.1 + d))).sI 198 1766 (nI (n + 1))) T z s.1 := RT_198 (c21.frame (fun j _ _ => I_nk (by omega)) (by funext j; rw [I_ne (by decide)]) (I_nk (by decide)))
      have cG : RPm ((G.sI 197 22 (nI (s.2.2.1 + d))).sI 198 1766 (nI (n + 1))) T z N n0 s.2.2.2 (s.2.2.1 + d) s.1 (qRow w s).2.1 := by
        refine ⟨rtG, fun i hi => ?_, fun j hj => c23 j hj, ⟨by rw [I_nk (by decide), I_ne (by decide)]; exact c24.1, c24.2⟩, by rw [I_ne (by decide), I_nk (by decide)]; exact c25, by rw [I_ne (by decide), I_nk (by decide)]; exact c26, by rw [I_ne (by decide), I_eq], fun j o ho => by rw [I_ne (by decide), I_ne (by decide)]; exact c28 j o ho⟩
        rw [← eM i hi]
        exact RMs_upd (k := 6) (h := G.sI 197 22 (nI (s.2.2.1 + d))) (fun i hi => by rw [I_ne (by decide)]; exact c22 i hi) rfl i hi
      have rfG : RFp h ((G.sI 197 22 (nI (s.2.2.1 + d))).sI 198 1766 (nI (n + 1))) := rf2.trans ⟨Sm.sI (S := inQp) (Sm.sI (S := inQp) Sm.refl (Or.inl rfl) _) (Or.inr (Or.inl rfl)) _, fun i hi => by rw [I_nk (by omega), I_ne (by decide)], fun j hj => by rw [I_ne (by decide), I_nk (by omega)]⟩
      refine S221n rtG (fun g3 s3 f3 r3 => ?_)
      refine k g3 (rfG.trans (RFp_tok s3 f3)) ?_
      rw [hd]
      exact RPm_tok cG s3 f3 r3
    by_cases q : w = 21
    · rw [if_neg (fun n => n (by rw [q]; rfl))]
      exact go 0 (by unfold qRow; show (if w = 21 then _ else _) = _; rw [if_pos q]; rfl)
    · rw [if_pos (show ¬ nI w = 21 from nIw (by omega) 21 (by omega) q)]
      exact go 1 (by unfold qRow; show (if w = 21 then _ else _) = _; rw [if_neg q])
end RP2
