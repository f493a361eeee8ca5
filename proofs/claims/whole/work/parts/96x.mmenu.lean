/-! THE REFERENCE READS A MENU'S PARTS -/
section RMP
variable {h : TH} {T : Nat → Nat} {z : Nat} {s : PS}
theorem S240 {C : Int32 → TH → Prop} (c : RB h T z s) (k1 : ∀ g s', pThePots T z s = pSemi T z s' → RFw h g → RB g T z s' → C 1 g) (k0 : ∀ g e, pThePots T z s = .inl e → RFw h g → RFt g e → C 0 g) : W240 h C := by
  obtain ⟨rt, rm, rn, r18, hw, r19⟩ := c
  have h12 := hw.n12
  unfold W240
  by_cases q : aP s.2.1 = 0
  · rw [if_pos (show ¬ h.I 197 19 = 1 by rw [r19, if_pos q]; decide)]
    have rtH : RT (h.sI 197 19 1) T z s.1 := rt.frame (fun j h1 h2 => I_nk (by omega)) (by funext j; rw [I_ne (by decide)]) (I_nk (by decide))
    have smH : Sm (fun b => b = 197) h (h.sI 197 19 1) := Sm.sI (S := fun b => b = 197) Sm.refl rfl _
    have rfH : RFw h (h.sI 197 19 1) := ⟨smH.mono (fun a ha => Or.inl ha), fun k _ => by rw [I_ne (by decide)], fun _ _ => rfl, fun j hj => I_nk (by omega)⟩
    refine S221n rtH (fun g1 s1 f1 r1 => ?_)
    have rf1 : RFw h g1 := rfH.trans (RF_tok s1 f1).w
    have y1 : g1.I 197 19 = 1 := by rw [f1 19 (by decide), I_eq]
    have z1 : g1.I 197 18 = 0 := by rw [f1 18 (by decide), I_nk (by decide)]; exact r18
    by_cases w : kd T z (s.1 + 1) = 32
    · rw [if_pos ((RT_12 r1).1.mpr w)]
      have e0 : pThePots T z s = thn (pPots T z 9 (s.1 + 1, s.2)) (pSemi T z) := by unfold pThePots; rw [if_pos q, if_pos w]
      unfold B240_37
      refine LFP.ix (fun (f : Nat) (g : TH) => ∃ sA : PS, thn (pPots T z f sA) (pSemi T z) = pThePots T z s ∧ RT g T z sA.1 ∧ RMs g sA.2.1 ∧ NmR g 48 sA.2.2 (aN sA.2.1) ∧ g.I 197 18 = 0 ∧ g.I 197 19 = 1 ∧ Wf sA.2.1 ∧ aP sA.2.1 + f = 9 ∧ RFw h g ∧ (1 ≤ aP sA.2.1 ∨ kd T z sA.1 = 32)) ?_ (k := 9) ⟨(s.1 + 1, s.2), e0.symm, r1, RMs_tok (RMs_tok rm smH) s1, NmR_sm (NmR_sm rn (to78 smH)) (to78 s1), z1, y1, hw, by show aP s.2.1 + 9 = 9; omega, rf1, Or.inr w⟩
      rintro X f g ⟨sA, eA, a1, a2, a3, a4, a5, a6, a7, a8, a9⟩ ih
      have hA8 : aP sA.2.1 ≤ 8 := a6.2.2.2.1
      have eP : g.I 198 1761 = nI (aP sA.2.1) := by rw [a2 1 (by omega)]; exact a6.eP
      obtain ⟨f2, rfl⟩ : ∃ f2, f = f2 + 1 := ⟨f - 1, by omega⟩
      have eA : thn (if kd T z sA.1 = 32 then (if 1 ≤ nv T z sA.1 ∧ nv T z sA.1 ≤ 9 then (if aP sA.2.1 = 8 then (Sum.inl (fl T z sA.1 6) : PR) else pPots T z f2 (sA.1 + 1, ptM sA.2.1 (nv T z sA.1), sA.2.2)) else .inl (fl T z sA.1 4)) else .inr sA) (pSemi T z) = pThePots T z s := eA
      unfold F240_37
      (try dsimp only)
      by_cases u : kd T z sA.1 = 32
      · rw [if_neg (fun n => n ((RT_12 a1).1.mpr u))]
        rw [if_pos u] at eA
        have hv := nv_lt u
        have e15 : g.I 197 15 = nI (nv T z sA.1) := a1.2.2.2.2.1 u
        rw [e15]
        have fail : ∀ n : Nat, 1 ≤ n ∧ n ≤ 9 → pThePots T z s = .inl (fl T z sA.1 n) → W224 (nI n) g (fun v2 h3 => (v2 = 0 ∨ v2 = 1) ∧ C v2 h3) := fun n hn0 hn =>
          S224 (f := n) a1 a4 (fun g2 s2 f2' p2 => ⟨Or.inl rfl, k0 g2 _ hn (a8.trans (RF_ft s2 f2').w) p2⟩) hn0
        by_cases v1 : nv T z sA.1 < 1
        · rw [if_pos (show nI (nv T z sA.1) < 1 from nI_lt (b := 1) v1 (by omega))]
          rw [if_neg (by omega)] at eA
          exact fail 4 (by omega) eA.symm
        · rw [if_neg (show ¬ nI (nv T z sA.1) < 1 from nI_nlt (b := 1) (by omega) (by omega))]
          by_cases v9 : nv T z sA.1 ≤ 9
          · rw [if_pos (show nI (nv T z sA.1) ≤ 9 from nI_le (b := 9) v9 (by omega)), show ix 1761 = 1761 from rfl, eP]
            rw [if_pos ⟨by omega, v9⟩] at eA
            by_cases v8 : aP sA.2.1 = 8
            · rw [if_neg (fun n => n (by rw [v8]; rfl))]
              rw [if_pos v8] at eA
              exact fail 6 (by omega) eA.symm
            · rw [if_pos (show ¬ nI (aP sA.2.1) = 8 from fun n => v8 ((nI_eq (b := 8) (by omega) (by omega)).mp n)), show (1768 : Int32) = nI 1768 from rfl, nI_add, ix_n (by omega), I_nk (by omega), eP, nI_1]
              rw [if_neg v8] at eA
              refine ⟨inb_n (by omega), fun h4 e4 => ?_⟩
              subst e4
              have rm4 : RMs ((g.sI 198 (1768 + aP sA.2.1) (nI (nv T z sA.1))).sI 198 1761 (nI (aP sA.2.1 + 1))) (ptM sA.2.1 (nv T z sA.1)) := RMs_upd (k := 1) (RMs_upd (k := 8 + aP sA.2.1) a2 (by omega)) (by omega)
              refine S221n (RT_198 (RT_198 a1)) (fun g2 s2 f2' r2 => ih f2 _ (by omega) ⟨(sA.1 + 1, ptM sA.2.1 (nv T z sA.1), sA.2.2), eA, r2, RMs_tok rm4 s2, ?_, ?_, ?_, Wf_pot a6 (by omega) (by omega) v9, ?_, a8.trans (((RF_198 (by omega)).trans (RF_198 (by omega))).trans (RF_tok s2 f2')).w, Or.inl ?_⟩)
              · intro j hj
                have hj' : j < aN sA.2.1 := by
                  have := ptM_N (M := sA.2.1) (v := nv T z sA.1)
                  have hj2 : j < aN (ptM sA.2.1 (nv T z sA.1)) := hj
                  omega
                rw [s2.J (by decide)]
                exact a3 j hj'
              · rw [f2' 18 (by decide), I_ne (by decide), I_ne (by decide)]; exact a4
              · rw [f2' 19 (by decide), I_ne (by decide), I_ne (by decide)]; exact a5
              · show aP (ptM sA.2.1 (nv T z sA.1)) + f2 = 9
                rw [ptM_P (by omega)]; omega
              · show 1 ≤ aP (ptM sA.2.1 (nv T z sA.1))
                rw [ptM_P (by omega)]; omega
          · rw [if_neg (show ¬ nI (nv T z sA.1) ≤ 9 from nI_ge (a := 9) (by omega) (by omega))]
            rw [if_neg (by omega)] at eA
            exact fail 4 (by omega) eA.symm
      · rw [if_pos (fun n => u ((RT_12 a1).1.mp n))]
        rw [if_neg u] at eA
        exact k1 g sA eA.symm a8 ⟨a1, a2, a3, a4, a6, by rw [a5, if_neg (by omega)]⟩
    · rw [if_neg (fun n => w ((RT_12 r1).1.mp n))]
      exact S224 (f := 2) r1 z1 (fun g2 s2 f2 p2 => ⟨Or.inl rfl, k0 g2 _ (by unfold pThePots; rw [if_pos q, if_neg w]) (rf1.trans (RF_ft s2 f2).w) p2⟩)
  · rw [if_neg (fun n => n (by rw [r19, if_neg q]))]
    exact S224 (f := 5) rt r18 (fun g2 s2 f2 p2 => ⟨Or.inl rfl, k0 g2 _ (by unfold pThePots; rw [if_neg q]) (RF_ft s2 f2).w p2⟩)
theorem S241 {C : Int32 → TH → Prop} (c : RB h T z s) (k1 : ∀ g s', pPart T z s = .inr s' → RFw h g → RB g T z s' → C 1 g) (k0 : ∀ g e, pPart T z s = .inl e → RFw h g → RFt g e → C 0 g) : W241 h C := by
  unfold W241
  have bad : ∀ (g : TH) (e : Nat × Nat), pPart T z s = .inl e → RFw h g → RFt g e → B241_62 0 g C := by
    intro g e e1 rf p
    unfold B241_62
    rw [if_pos rfl]
    exact k0 g e e1 rf p
  have semi : ∀ (g : TH) (s1 : PS), pPart T z s = pSemi T z s1 → RFw h g → RB g T z s1 → B241_62 1 g C := by
    intro g s1 e1 rf c1
    unfold B241_62
    rw [if_neg (by decide)]
    refine S226 c1.1 c1.2.2.2.1 (fun q g2 s2 f2 r2 => ?_) (fun q g2 s2 f2 p2 => ?_)
    · rw [if_neg (by decide)]
      exact k1 g2 (s1.1 + 1, s1.2) (by rw [e1]; unfold pSemi; rw [if_pos q]) (rf.trans (RF_tok s2 f2).w) (RB_tok c1 s2 f2 r2)
    · rw [if_pos rfl]
      exact k0 g2 _ (by rw [e1]; unfold pSemi; rw [if_neg q]) (rf.trans (RF_ft s2 f2).w) p2
  have other : kd T z s.1 ≠ 0 → kd T z s.1 ≠ 1 → kd T z s.1 ≠ 2 → W224 2 h (fun v8 h9 => (v8 = 0 ∨ v8 = 1) ∧ C v8 h9) := fun q0 q1 q2 =>
    S224 (f := 2) c.1 c.2.2.2.1 (fun g2 s2 f2 p2 => ⟨Or.inl rfl, k0 g2 _ (by unfold pPart; rw [if_neg q0, if_neg q1, if_neg q2]) (RF_ft s2 f2).w p2⟩)
  refine S223 c.1 (fun u => ?_) (fun u => ?_)
  · by_cases q0 : kd T z s.1 = 0
    · rw [if_pos (by rw [q0]; rfl)]
      have eP : pPart T z s = pDish T z s := by unfold pPart; rw [if_pos q0]
      refine S237 c (fun g r e1 rf a1 a2 a3 a4 a5 a6 a7 a8 => ?_) (fun g e e1 rf p => bad g e (by rw [eP]; exact e1) rf.w p)
      unfold B241_62
      rw [if_neg (by decide)]
      refine S226 a1 a4 (fun q g2 s2 f2 r2 => ?_) (fun q g2 s2 f2 p2 => ?_)
      · rw [if_neg (by decide)]
        refine k1 g2 (r.1 + 1, upd r.2.1 0 (nI (aN s.2.1 + 1)), r.2.2) (by rw [eP, e1, thn_i (show pSemi T z r = .inr (r.1 + 1, r.2) by unfold pSemi; rw [if_pos q])]) (rf.w.trans (RF_tok s2 f2).w) ⟨r2, RMs_tok a2 s2, ?_, ?_, a5, ?_⟩
        · intro j hj
          have hj2 : j < aN (upd r.2.1 0 (nI (aN s.2.1 + 1))) := hj
          rw [a6] at hj2
          rw [s2.J (by decide)]
          exact a3 j hj2
        · rw [f2 18 (by decide)]; exact a4
        · rw [f2 19 (by decide), a8]
          show _ = if aP (upd r.2.1 0 (nI (aN s.2.1 + 1))) = 0 then (0 : Int32) else 1
          rw [a7]; exact c.2.2.2.2.2
      · rw [if_pos rfl]
        exact k0 g2 _ (by rw [eP, e1]; exact thn_l (by unfold pSemi; rw [if_neg q])) (rf.w.trans (RF_ft s2 f2).w) p2
    · rw [if_neg (show ¬ nI (kd T z s.1) = 0 from fun n => q0 ((nI_eq (b := 0) (by omega) (by omega)).mp n))]
      by_cases q1 : kd T z s.1 = 1
      · rw [if_pos (by rw [q1]; rfl)]
        have eP : pPart T z s = pPair T z s := by unfold pPart; rw [if_neg q0, if_pos q1]
        exact S239 c (fun g s1 e1 rf c1 => semi g s1 (by rw [eP]; exact e1) rf.w c1) (fun g e e1 rf p => bad g e (by rw [eP]; exact e1) rf.w p)
      · rw [if_neg (show ¬ nI (kd T z s.1) = 1 from fun n => q1 ((nI_eq (b := 1) (by omega) (by omega)).mp n))]
        by_cases q2 : kd T z s.1 = 2
        · rw [if_pos (by rw [q2]; rfl)]
          have eP : pPart T z s = pThePots T z s := by unfold pPart; rw [if_neg q0, if_neg q1, if_pos q2]
          exact S240 c (fun g s1 e1 rf c1 => semi g s1 (by rw [eP]; exact e1) rf c1) (fun g e e1 rf p => bad g e (by rw [eP]; exact e1) rf p)
        · rw [if_neg (show ¬ nI (kd T z s.1) = 2 from fun n => q2 ((nI_eq (b := 2) (by omega) (by omega)).mp n))]
          exact other q0 q1 q2
  · rw [if_neg (by decide), if_neg (by decide), if_neg (by decide)]
    exact other (by omega) (by omega) (by omega)
end RMP
