/-! THE REFERENCE READS A DISH: all of it -/
def RB (h : TH) (T : Nat → Nat) (z : Nat) (s : PS) : Prop := RT h T z s.1 ∧ RMs h s.2.1 ∧ NmR h 48 s.2.2 (aN s.2.1) ∧ h.I 197 18 = 0 ∧ Wf s.2.1 ∧ h.I 197 19 = (if aP s.2.1 = 0 then 0 else 1)
section RD2
variable {h : TH} {T : Nat → Nat} {z d : Nat} {M0 : Nat → Int32} {N1 : Nat → List Nat} {s : PS}
theorem S237f {C : Int32 → TH → Prop} {f : Nat} (hd : d < 12) (c : RD h T z M0 N1 d s) (hpc : pc (s.2.1 (16 + 8 * d + 4)) + f = 13) (k1 : ∀ g s', pNeeds T z d f s = .inr s' → RF h g → RD g T z M0 N1 d s' → B237_324 (nI (1776 + 8 * d)) g C) (k0 : ∀ g e, pNeeds T z d f s = .inl e → RF h g → RFt g e → C 0 g) : B237_257 (nI d) (nI (1776 + 8 * d)) h C := by
  unfold B237_257
  refine LFP.ix (fun (f' : Nat) (g : TH) => ∃ s1 : PS, pNeeds T z d f' s1 = pNeeds T z d f s ∧ RD g T z M0 N1 d s1 ∧ pc (s1.2.1 (16 + 8 * d + 4)) + f' = 13 ∧ RF h g) ?_ (k := f) ⟨s, rfl, c, hpc, RF.refl⟩
  rintro X f' g ⟨s1, e1, c1, p1, rf⟩ ih
  have hle := pc_le (s1.2.1 (16 + 8 * d + 4))
  obtain ⟨f2, rfl⟩ : ∃ f2, f' = f2 + 1 := ⟨f' - 1, by omega⟩
  have e1 : (if kd T z s1.1 = 30 then (if fnd s1.2.2 d (wd T z s1.1) < d then (if bt (s1.2.1 (16 + 8 * d + 4)) (fnd s1.2.2 d (wd T z s1.1)) = true then (Sum.inl (fl T z s1.1 5) : PR) else pNeeds T z d f2 (s1.1 + 1, upd s1.2.1 (16 + 8 * d + 4) (s1.2.1 (16 + 8 * d + 4) ||| ishl 1 (nI (fnd s1.2.2 d (wd T z s1.1)))), s1.2.2)) else .inl (fl T z s1.1 3)) else .inr s1) = pNeeds T z d f s := e1
  have eN : s1.2.2 = N1 := c1.2.2.2.2.2.2
  have hS : St d (s1.2.1 (16 + 8 * d + 4)) := c1.2.2.2.2.1.2.2.2.2.1
  have e4 : g.I 198 (1776 + 8 * d + 4) = s1.2.1 (16 + 8 * d + 4) := by rw [show 1776 + 8 * d + 4 = 1760 + (16 + 8 * d + 4) by omega]; exact c1.2.1 _ (by omega)
  unfold F237_257
  (try dsimp only)
  refine S229 c1.1 (fun q => ?_) (fun q => ?_)
  · rw [if_neg (by decide)]
    rw [if_pos q, eN] at e1
    refine S236 (b := 48) (N := N1) (n := d) c1.1 c1.2.2.2.1 (by omega) (by omega) (fun j hj => c1.2.2.1 j (by omega)) (fun _ u => ?_) (fun _ u g2 s2 f2' p2 => ?_) (fun w => absurd q w)
    · rw [if_pos (nI_ne1 (by omega)), show (4 : Int32) = nI 4 from rfl, nI_add, ix_n (by omega), e4]
      rw [if_pos u] at e1
      refine ⟨inb_n (by omega), ?_⟩
      by_cases v : bt (s1.2.1 (16 + 8 * d + 4)) (fnd N1 d (wd T z s1.1)) = true
      · rw [if_neg (fun n => n ((has_1 hS (by omega)).mpr v))]
        rw [if_pos v] at e1
        exact S224 (f := 5) c1.1 c1.2.2.2.1 (fun g2 s2 f2' p2 => ⟨Or.inl rfl, k0 g2 _ e1.symm (rf.trans (RF_ft s2 f2')) p2⟩)
      · rw [if_pos (fun n => v ((has_1 hS (by omega)).mp n))]
        rw [if_neg v] at e1
        refine ⟨inb_n (by omega), inb_n (by omega), ?_⟩
        have mN : MI M0 N1 d (s1.1 + 1, upd s1.2.1 (16 + 8 * d + 4) (s1.2.1 (16 + 8 * d + 4) ||| ishl 1 (nI (fnd N1 d (wd T z s1.1)))), N1) := by
          have hone : pNeeds T z d 1 s1 = .inr (s1.1 + 1, upd s1.2.1 (16 + 8 * d + 4) (s1.2.1 (16 + 8 * d + 4) ||| ishl 1 (nI (fnd N1 d (wd T z s1.1)))), N1) := by
            unfold pNeeds; rw [if_pos q, eN, if_pos u, if_neg v]; rfl
          exact (pNeeds_MI 1 s1 _ hone (by omega) c1.2.2.2.2).1
        refine S221n (RT_198 c1.1) (fun g2 s2 f2' r2 => ih f2 _ (by omega) ⟨(s1.1 + 1, upd s1.2.1 (16 + 8 * d + 4) (s1.2.1 (16 + 8 * d + 4) ||| ishl 1 (nI (fnd N1 d (wd T z s1.1)))), N1), e1, ⟨r2, RMs_tok (RMs_upd (k := 16 + 8 * d + 4) c1.2.1 (by omega)) s2, NmR_sm (h := g.sI 198 (1776 + 8 * d + 4) (s1.2.1 (16 + 8 * d + 4) ||| ishl 1 (nI (fnd N1 d (wd T z s1.1))))) (fun j hj => c1.2.2.1 j hj) (to78 s2), by rw [f2' 18 (by decide), I_ne (by decide)]; exact c1.2.2.2.1, mN⟩, ?_, rf.trans ((RF_198 (by omega)).trans (RF_tok s2 f2'))⟩)
        show pc (upd s1.2.1 (16 + 8 * d + 4) (s1.2.1 (16 + 8 * d + 4) ||| ishl 1 (nI (fnd N1 d (wd T z s1.1)))) (16 + 8 * d + 4)) + f2 = 13
        rw [pk_us, pc_add (by omega) (by simpa using v)]
        omega
    · rw [if_neg (fun n => n rfl)]
      rw [if_neg u] at e1
      exact k0 g2 _ e1.symm (rf.trans (RF_ft s2 f2')) p2
  · rw [if_pos rfl]
    rw [if_neg q] at e1
    exact k1 g s1 e1.symm rf c1
theorem S237a {C : Int32 → TH → Prop} (hd : d < 12) (hd0 : M0 0 = nI d) (c : RD h T z M0 N1 d s) (hz0 : s.2.1 (16 + 8 * d + 4) = 0) (k1 : ∀ g s', pBody T z d s = .inr s' → RF h g → RT g T z s'.1 → RMs g (upd s'.2.1 0 (nI (d + 1))) → NmR g 48 N1 (d + 1) → g.I 197 18 = 0 → MI M0 N1 d s' → C 1 g) (k0 : ∀ g e, pBody T z d s = .inl e → RF h g → RFt g e → C 0 g) : W227 3 h (fun v6 h7 => if v6 = 0 then (C 0 h7) else (W228 (nI (1776 + 8 * d)) 0 99 h7 (fun v8 h9 => if ¬ v8 = 0 then (B237_151 (nI d) (nI (1776 + 8 * d)) 4 h9 C) else (C 0 h9)))) := by
  refine S227 (w := 3) c.1 c.2.2.2.1 (by omega) (fun q g sm f rt => ?_) (fun q g sm f p => ?_)
  · rw [if_neg (by decide)]
    have cg : RD g T z M0 N1 d (s.1 + 1, s.2) := RD_tok c sm f rt rfl
    have eW : pWork T z d s = pAm T z d (s.1 + 1, s.2) := by unfold pWork; rw [if_pos q]
    refine S228n (f := 0) (lo := 0) (hi := 99) cg hd (by omega) (Or.inl ⟨rfl, rfl, rfl⟩) (fun g2 s2 e2 rf2 c2 => ?_) (fun g2 e e2 rf2 p2 => ?_)
    · rw [if_pos (by decide)]
      have eA : pWork T z d s = pOpts T z d 4 s2 := by rw [eW]; unfold pAm; rw [thn_i e2]; rfl
      have z2 : s2.2.1 (16 + 8 * d + 4) = 0 := by
        obtain ⟨_, _, _, rfl⟩ := pNum_in e2
        show upd s.2.1 (16 + 8 * d + 0) _ (16 + 8 * d + 4) = 0
        rw [pk_un (by omega)]; exact hz0
      unfold B237_151
      refine LFP.up 7 (fun (j : Nat) (st : Int32 × TH) => 4 ≤ j ∧ st.1 = nI j ∧ ∃ s1 : PS, pOpts T z d j s1 = pWork T z d s ∧ RD st.2 T z M0 N1 d s1 ∧ RF h st.2 ∧ s1.2.1 (16 + 8 * d + 4) = 0) ?_ ?_ (i := 4) (by omega) ⟨by omega, rfl, s2, eA.symm, c2, (RF_tok sm f).trans rf2, z2⟩
      · rintro X j ⟨x3, g3⟩ hj ⟨h4, e3, s3, eO, c3, rf3, z3⟩ ih
        (try dsimp only at e3 c3 rf3)
        subst e3
        unfold F237_151
        (try dsimp only)
        rw [if_neg (show ¬ (6 : Int32) < nI j from nI_nlt (a := 6) (by omega) (by omega))]
        rw [pOpts_s h4 hj] at eO
        have skip : kd T z s3.1 ≠ j → X (nI j + 1, g3) := by
          intro w
          rw [nI_1]
          refine ih _ ⟨by omega, rfl, s3, ?_, c3, rf3, z3⟩
          rw [← eO, thn_i (show pOpt T z j (16 + 8 * d + (j - 3)) (loJ j) (hiJ j) s3 = .inr s3 by unfold pOpt; rw [if_neg w])]
        refine S223 c3.1 (fun u => ?_) (fun u => ?_)
        · by_cases w : kd T z s3.1 = j
          · rw [if_pos (by rw [w])]
            refine S221n c3.1 (fun g4 s4 f4 r4 => ?_)
            have c4 : RD g4 T z M0 N1 d (s3.1 + 1, s3.2) := RD_tok c3 s4 f4 r4 rfl
            have eQ : pOpt T z j (16 + 8 * d + (j - 3)) (loJ j) (hiJ j) s3 = pNum T z (16 + 8 * d + (j - 3)) (loJ j) (hiJ j) (s3.1 + 1, s3.2) := by unfold pOpt; rw [if_pos w]
            have num : B237_213 (nI d) (nI (1776 + 8 * d)) (nI j) (nI (1776 + 8 * d + j - 3)) (nI (loJ j)) (nI (hiJ j)) g4 C X := by
              unfold B237_213
              refine S228n (f := j - 3) (lo := loJ j) (hi := hiJ j) c4 hd (by omega) (by unfold loJ hiJ; rcases (show j = 4 ∨ j = 5 ∨ j = 6 by omega) with rfl | rfl | rfl <;> simp) (fun g5 s5 e5 rf5 c5 => ?_) (fun g5 e e5 rf5 p5 => ?_)
              · rw [if_pos (by decide), nI_1]
                refine ih _ ⟨by omega, rfl, s5, ?_, c5, (rf3.trans (RF_tok s4 f4)).trans rf5, ?_⟩
                · rw [← eO, thn_i (eQ.trans e5)]
                · obtain ⟨_, _, _, rfl⟩ := pNum_in e5
                  show upd s3.2.1 (16 + 8 * d + (j - 3)) _ (16 + 8 * d + 4) = 0
                  rw [pk_un (by omega)]; exact z3
              · rw [if_neg (fun n => n rfl)]
                exact k0 g5 e (by unfold pBody; exact thn_l (by rw [← eO]; exact thn_l (eQ.trans e5))) ((rf3.trans (RF_tok s4 f4)).trans rf5) p5
            rw [nI_add, show (3 : Int32) = nI 3 from rfl, pk_sub (by omega)]
            rcases (show j = 4 ∨ j = 5 ∨ j = 6 by omega) with rfl | rfl | rfl
            · rw [if_pos (by decide)]
              unfold B237_191
              rw [if_neg (fun n => n rfl)]
              exact num
            · rw [if_pos (by decide)]
              unfold B237_191
              rw [if_pos (by decide), if_neg (fun n => n rfl)]
              exact num
            · rw [if_neg (fun n => n rfl)]
              unfold B237_191
              rw [if_pos (by decide), if_pos (by decide)]
              exact num
          · rw [if_neg (fun e => w ((nI_eq (by omega) (by omega)).mp e))]
            exact skip w
        · rw [if_neg (fun e => absurd e.symm (nI_ne1 (by omega)))]
          exact skip (by omega)
      · rintro X ⟨x3, g3⟩ ⟨h4, e3, s3, eO, c3, rf3, z3⟩
        (try dsimp only at e3 c3 rf3)
        subst e3
        unfold F237_151
        (try dsimp only)
        rw [if_pos (show (6 : Int32) < nI 7 by decide +kernel)]
        have eW2 : pWork T z d s = .inr s3 := eO.symm
        have eB : pBody T z d s = thn (pFrom T z d s3) (pKinds T z d) := by unfold pBody; exact thn_i eW2
        have kinds : ∀ (g4 : TH) (s4 : PS), pFrom T z d s3 = .inr s4 → RF g3 g4 → RD g4 T z M0 N1 d s4 → B237_324 (nI (1776 + 8 * d)) g4 C := fun g4 s4 e4 rf4 c4 =>
          S237k hd hd0 c4 (fun g5 s5 e5 rf5 a1 a2 a3 a4 a5 => k1 g5 s5 (by rw [eB, thn_i e4]; exact e5) ((rf3.trans rf4).trans rf5) a1 a2 a3 a4 a5) (fun g5 e e5 rf5 p5 => k0 g5 e (by rw [eB, thn_i e4]; exact e5) ((rf3.trans rf4).trans rf5) p5)
        have none7 : kd T z s3.1 ≠ 7 → B237_324 (nI (1776 + 8 * d)) g3 C := fun w => kinds g3 s3 (by unfold pFrom; rw [if_neg w]) RF.refl c3
        refine S223 c3.1 (fun u => ?_) (fun u => ?_)
        · by_cases w : kd T z s3.1 = 7
          · rw [if_neg (fun n => n (by rw [w]; rfl))]
            refine S221n c3.1 (fun g4 s4 f4 r4 => ?_)
            have c4 : RD g4 T z M0 N1 d (s3.1 + 1, s3.2) := RD_tok c3 s4 f4 r4 rfl
            refine S229 r4 (fun v => ?_) (fun v => ?_)
            · rw [if_pos (by decide)]
              have eF : pFrom T z d s3 = pNeeds T z d 13 (s3.1 + 1, s3.2) := by unfold pFrom; rw [if_pos w, if_pos v]
              exact S237f (f := 13) hd c4 (by show pc (s3.2.1 (16 + 8 * d + 4)) + 13 = 13; rw [z3, pc_0]) (fun g5 s5 e5 rf5 c5 => kinds g5 s5 (eF.trans e5) ((RF_tok s4 f4).trans rf5) c5) (fun g5 e e5 rf5 p5 => k0 g5 e (by rw [eB]; exact thn_l (eF.trans e5)) ((rf3.trans (RF_tok s4 f4)).trans rf5) p5)
            · rw [if_neg (by decide)]
              exact S224 (f := 2) r4 c4.2.2.2.1 (fun g5 s5 f5 p5 => ⟨Or.inl rfl, k0 g5 _ (by rw [eB]; exact thn_l (by unfold pFrom; rw [if_pos w, if_neg v])) ((rf3.trans (RF_tok s4 f4)).trans (RF_ft s5 f5)) p5⟩)
          · rw [if_pos (show ¬ nI (kd T z s3.1) = 7 from fun e => w ((nI_eq (b := 7) (by omega) (by omega)).mp e))]
            exact none7 w
        · rw [if_pos (by decide)]
          exact none7 (by omega)
    · rw [if_neg (fun n => n rfl)]
      exact k0 g2 e (by unfold pBody; exact thn_l (by rw [eW]; unfold pAm; exact thn_l e2)) ((RF_tok sm f).trans rf2) p2
  · rw [if_pos rfl]
    exact k0 g _ (by unfold pBody; exact thn_l (by unfold pWork; rw [if_neg q])) (RF_ft sm f) p
end RD2
