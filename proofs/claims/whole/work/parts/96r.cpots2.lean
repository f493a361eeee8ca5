/-! THE CLASS READS THE POTS -/
def ptM (M : Nat → Int32) (v : Nat) : Nat → Int32 := upd (upd M (8 + aP M) (nI v)) 1 (nI (aP M + 1))
section CPT
variable {h : TH} {T : Nat → Nat} {z m : Nat} {s : PS} {M : Nat → Int32} {v : Nat}
theorem ptM_o {k : Nat} (h1 : k ≠ 8 + aP M) (h2 : k ≠ 1) : ptM M v k = M k := by unfold ptM; rw [pk_un h2, pk_un h1]
theorem ptM_N : aN (ptM M v) = aN M := by
  show ix (ptM M v 0) = ix (M 0)
  rw [ptM_o (by omega) (by omega)]
theorem ptM_P (h8 : aP M < 8) : aP (ptM M v) = aP M + 1 := by
  show ix (ptM M v 1) = _
  unfold ptM
  rw [pk_us, ix_n (by omega)]
theorem Wf_pot (hw : Wf M) (h8 : aP M < 8) (h1 : 1 ≤ v) (h9 : v ≤ 9) : Wf (ptM M v) := by
  have h12 := hw.n12
  refine ⟨?_, by rw [ptM_N]; exact h12, ?_, by rw [ptM_P h8]; omega, fun k hk => ?_, fun e he => ?_⟩
  · rw [ptM_N, ptM_o (by omega) (by omega)]; exact hw.eN
  · rw [ptM_P h8]; exact pk_us
  · rw [ptM_P h8] at hk
    by_cases q : k = aP M
    · refine ⟨v, h1, h9, ?_⟩
      unfold ptM; rw [pk_un (by omega), q]; exact pk_us
    · rw [ptM_o (by omega) (by omega)]
      exact hw.2.2.2.2.1 k (by omega)
  · rw [ptM_N] at he ⊢
    have f : ∀ x f, ptM M v (16 + 8 * x + f) = M (16 + 8 * x + f) := fun x f => ptM_o (by omega) (by omega)
    have D := hw.D he
    unfold WfD aW aSz aKp aBu aNe aPo aOn aPa at D ⊢
    simp only [f]
    exact D
theorem S86 {C : Int32 → TH → Prop} (c : CB h T z m s) (q2 : kd T z s.1 = 2) (k1 : ∀ g s', pThePots T z s = .inr s' → Sm inM h g → CB g T z m s' → C 1 g) (k0 : ∀ g e, pThePots T z s = .inl e → Sm inM h g → CFt g e → C 0 g) : W86 h C := by
  have c' := c
  obtain ⟨ct, hw, hr, hn, o⟩ := c
  have h12 := hw.n12
  have hP8 : aP s.2.1 ≤ 8 := hw.2.2.2.1
  unfold W86
  rw [hr.p]
  by_cases q : aP s.2.1 = 0
  · rw [if_pos (show nI (aP s.2.1) ≤ 0 by rw [q]; decide)]
    refine S133 ct (by omega) (fun g1 s1 t1 f1 => ?_)
    have c1 := CB_tok c' s1 t1 (okF_9 o f1)
    rw [t1.2.2.2.2]
    by_cases w : kd T z (s.1 + 1) = 32
    · rw [if_pos ((ck_is (x := 32) (w := 32) (by omega) rfl).mpr w)]
      have e0 : pThePots T z s = thn (pPots T z 9 (s.1 + 1, s.2)) (pSemi T z) := by unfold pThePots; rw [if_pos q, if_pos w]
      unfold B86_48
      have semi : ∀ (g : TH) (s1 : PS), pThePots T z s = pSemi T z s1 → CB g T z m s1 → Sm inM h g → W137 33 g (fun v2 h3 => (v2 = 0 ∨ v2 = 1) ∧ C v2 h3) := by
        intro g s2 e2 c2 sm2
        refine S137 (w := 33) c2.1 (by omega) (by omega) (fun q33 g6 s6 t6 f6 => ⟨Or.inr rfl, ?_⟩) (fun q33 g6 s6 f6 p6 => ⟨Or.inl rfl, ?_⟩)
        · exact k1 g6 (s2.1 + 1, s2.2) (by rw [e2]; unfold pSemi; rw [if_pos q33]) (sm2.trans (mono9 s6)) (CB_tok c2 s6 t6 (okF_9 c2.2.2.2.2 f6))
        · exact k0 g6 _ (by rw [e2]; unfold pSemi; rw [if_neg q33]) (sm2.trans (mono9 s6)) p6
      refine LFP.up 9 (fun (x : Nat) (st : Int32 × TH) => st.1 = nI x ∧ ∃ s1 : PS, thn (pPots T z (9 - x) s1) (pSemi T z) = pThePots T z s ∧ CB st.2 T z m s1 ∧ Sm inM h st.2) ?_ ?_ (Nat.zero_le _) ⟨rfl, (s.1 + 1, s.2), e0.symm, c1, mono9 s1⟩
      · rintro X x ⟨x1, g⟩ hx ⟨e1, sA, eA, cA, smA⟩ ih
        (try dsimp only at e1 cA smA)
        subst e1
        unfold F86_48
        (try dsimp only)
        have cA' := cA
        obtain ⟨ctA, wA, rA, nA, oA⟩ := cA
        have hA8 : aP sA.2.1 ≤ 8 := wA.2.2.2.1
        rw [if_neg (show ¬ (8 : Int32) < nI x from nI_nlt (a := 8) (by omega) (by omega)), ctA.2.2.2.2]
        rw [show 9 - x = (8 - x) + 1 by omega] at eA
        unfold pPots at eA
        by_cases u : kd T z sA.1 = 32
        · rw [if_neg (fun n => n ((ck_is (x := 32) (w := 32) (by omega) rfl).mpr u)), rA.p]
          rw [if_pos u] at eA
          have hv := nv_lt u
          have go : ¬ (1 ≤ nv T z sA.1 ∧ nv T z sA.1 ≤ 9 ∧ aP sA.2.1 = 8) → B86_114 (nI x) g C X := by
            intro y
            unfold B86_114
            refine S138 (lo := 1) (hi := 9) ctA (by omega) (by omega) (fun w1 w2 w3 g2 s2 t2 f2 => ?_) (fun w1 w2 g2 s2 f2 p2 => ?_) (fun w1 g2 s2 f2 p2 => absurd u w1)
            · rw [if_pos (nI_ne1 (by omega))]
              have h8 : aP sA.2.1 < 8 := by omega
              rw [if_pos ⟨w2, w3⟩, if_neg (by omega)] at eA
              have ep : g2.I 16 2 = nI (aP sA.2.1) := by rw [s2.I (by decide)]; exact rA.p
              rw [ep, ix_n (by omega), I_ne (by decide), ep, nI_1, nI_1]
              refine ⟨inb_n h8, ih _ ⟨rfl, (sA.1 + 1, ptM sA.2.1 (nv T z sA.1), sA.2.2), ?_, ?_, ?_⟩⟩
              · rw [show 9 - (x + 1) = 8 - x by omega]; exact eA
              · have gI : ∀ a j, a ≠ 9 → a ≠ 16 → a ≠ 24 → ((g2.sI (16 + 8) (aP sA.2.1) (nI (nv T z sA.1))).sI 16 2 (nI (aP sA.2.1 + 1))).I a j = g.I a j := fun a j a1 a2 a3 => by rw [I_ne a2, I_ne a3, s2.I a1]
                have fo : ∀ y f, ptM sA.2.1 (nv T z sA.1) (16 + 8 * y + f) = sA.2.1 (16 + 8 * y + f) := fun y f => ptM_o (by omega) (by omega)
                refine ⟨t2.frame (fun j => by rw [I_ne (by decide), I_ne (by decide)]) (by funext j; rw [I_ne (by decide), I_ne (by decide)]) (by funext j; rw [I_ne (by decide), I_ne (by decide)]) rfl, Wf_pot wA h8 w2 w3, ⟨?_, ?_, ?_, ?_, fun e he => ?_, fun k hk => ?_⟩, fun j hj => ?_, ?_⟩
                · rw [I_nk (by decide), I_ne (by decide), s2.I (by decide), rA.n]; exact congrArg nI ptM_N.symm
                · rw [I_eq]; exact congrArg nI (ptM_P h8).symm
                · rw [I_nk (by decide), I_ne (by decide), s2.I (by decide), rA.po]
                  show _ = setOf (fun d => decide (aPo (ptM sA.2.1 (nv T z sA.1)) d = 1)) (aN (ptM sA.2.1 (nv T z sA.1)))
                  rw [ptM_N]
                  exact setOf_cg (fun j hj => by unfold aPo; rw [fo j 5])
                · rw [I_nk (by decide), I_ne (by decide), s2.I (by decide), rA.on]
                  show _ = setOf (fun d => decide (aOn (ptM sA.2.1 (nv T z sA.1)) d = 1)) (aN (ptM sA.2.1 (nv T z sA.1)))
                  rw [ptM_N]
                  exact setOf_cg (fun j hj => by unfold aOn; rw [fo j 6])
                · have he' : e < aN sA.2.1 := by
                    have := ptM_N (M := sA.2.1) (v := nv T z sA.1)
                    have he2 : e < aN (ptM sA.2.1 (nv T z sA.1)) := he
                    omega
                  rw [gI (16 + 2) e (by decide) (by decide) (by decide), gI (16 + 3) e (by decide) (by decide) (by decide), gI (16 + 4) e (by decide) (by decide) (by decide), gI (16 + 5) e (by decide) (by decide) (by decide), gI (16 + 6) e (by decide) (by decide) (by decide), gI (16 + 7) e (by decide) (by decide) (by decide)]
                  show _ = ptM sA.2.1 (nv T z sA.1) (16 + 8 * e + 0) ∧ _ = ptM sA.2.1 (nv T z sA.1) (16 + 8 * e + 1) ∧ _ = ptM sA.2.1 (nv T z sA.1) (16 + 8 * e + 2) ∧ _ = ptM sA.2.1 (nv T z sA.1) (16 + 8 * e + 3) ∧ _ = ptM sA.2.1 (nv T z sA.1) (16 + 8 * e + 4) ∧ _ = ptM sA.2.1 (nv T z sA.1) (16 + 8 * e + 7)
                  rw [fo e 0, fo e 1, fo e 2, fo e 3, fo e 4, fo e 7]
                  exact rA.row he'
                · have hk' : k < aP sA.2.1 + 1 := by
                    have := ptM_P (M := sA.2.1) (v := nv T z sA.1) h8
                    have hk2 : k < aP (ptM sA.2.1 (nv T z sA.1)) := hk
                    omega
                  rw [I_ne (show (16 + 8 : Nat) ≠ 16 by decide), I_at]
                  show _ = ptM sA.2.1 (nv T z sA.1) (8 + k)
                  by_cases y : k = aP sA.2.1
                  · rw [if_pos y, y]
                    unfold ptM; rw [pk_un (by omega)]; exact pk_us.symm
                  · rw [if_neg y, s2.I (show ¬ (16 + 8 : Nat) = 9 by decide), ptM_o (by omega) (by omega)]
                    exact rA.pot (by omega)
                · have hj' : j < aN sA.2.1 := by
                    have := ptM_N (M := sA.2.1) (v := nv T z sA.1)
                    have hj2 : j < aN (ptM sA.2.1 (nv T z sA.1)) := hj
                    omega
                  show g2.J (16 + 1) j = _ ∧ _
                  rw [s2.J (by decide)]
                  exact nA j hj'
                · exact ⟨by rw [I_ne (by decide), I_ne (by decide)]; exact (okF_9 oA f2).1, by rw [I_ne (by decide), I_ne (by decide)]; exact (okF_9 oA f2).2⟩
              · exact Sm.sI (S := inM) (Sm.sI (S := inM) (smA.trans (mono9 s2)) (Or.inr (by omega)) _) (Or.inr (by omega)) _
            · rw [if_neg (fun n => n rfl)]
              rw [if_neg w2] at eA
              exact k0 g2 _ (by rw [← eA]; rfl) (smA.trans (mono9 s2)) p2
          by_cases y : aP sA.2.1 < 8
          · rw [if_pos (show nI (aP sA.2.1) < 8 from nI_lt (b := 8) y (by omega))]
            exact go (by omega)
          · rw [if_neg (show ¬ nI (aP sA.2.1) < 8 from nI_nlt (b := 8) (by omega) (by omega))]
            have e14 : g.J 14 sA.1 = lN (nv T z sA.1) := (ctA.1.2.2.2 sA.1 ctA.2.1).2.2.2 u
            refine S134 ctA ?_
            rw [e14, show (1 : Int64) = lN 1 from rfl]
            by_cases y1 : nv T z sA.1 < 1
            · rw [if_pos (lgc_lt.mpr (show lN _ < lN 1 from (lN_lt (by omega) (by omega)).mpr y1))]
              exact go (by omega)
            · rw [if_neg (fun n => y1 ((lN_lt (b := 1) (by omega) (by omega)).mp (lgc_lt.mp n)))]
              refine S134 ctA ?_
              rw [e14, show (9 : Int64) = lN 9 from rfl]
              by_cases y9 : 9 < nv T z sA.1
              · rw [if_pos (lgc_gt.mpr (show lN 9 < lN _ from (lN_lt (by omega) (by omega)).mpr y9))]
                exact go (by omega)
              · rw [if_neg (fun n => y9 ((lN_lt (a := 9) (by omega) (by omega)).mp (lgc_gt.mp n)))]
                rw [if_pos ⟨by omega, by omega⟩, if_pos (by omega)] at eA
                exact S135 (f := 6) ctA (by omega) (fun g2 s2 f2 p2 => ⟨Or.inl rfl, k0 g2 _ (by rw [← eA]; rfl) (smA.trans (mono9 s2)) p2⟩)
        · rw [if_pos (show ¬ nI (ck (kd T z sA.1)) = 32 from fun e => u ((ck_is (x := 32) (w := 32) (by omega) rfl).mp e))]
          rw [if_neg u] at eA
          exact semi g sA eA.symm cA' smA
      · rintro X ⟨x1, g⟩ ⟨e1, sA, eA, cA, smA⟩
        (try dsimp only at e1 cA smA)
        subst e1
        unfold F86_48
        (try dsimp only)
        rw [if_pos (show (8 : Int32) < nI 9 by decide +kernel)]
        exact semi g sA eA.symm cA smA
    · rw [if_neg (show ¬ nI (ck (kd T z (s.1 + 1))) = 32 from fun e => w ((ck_is (x := 32) (w := 32) (by omega) rfl).mp e))]
      exact S136 t1 (fun g2 s2 f2 p2 => ⟨Or.inl rfl, k0 g2 _ (by unfold pThePots; rw [if_pos q, if_neg w]) (mono9 (s1.trans s2)) p2⟩)
  · rw [if_neg (show ¬ nI (aP s.2.1) ≤ 0 from nI_nle (by omega) (by omega))]
    exact S135 (f := 5) ct (by omega) (fun g2 s2 f2 p2 => ⟨Or.inl rfl, k0 g2 _ (by unfold pThePots; rw [if_neg q]) (mono9 s2) p2⟩)
end CPT
