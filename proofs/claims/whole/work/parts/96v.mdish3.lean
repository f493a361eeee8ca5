/-! THE REFERENCE READS A DISH: its NAME, its row -/
section RD3
variable {h : TH} {T : Nat → Nat} {z : Nat} {s : PS}
theorem S237 {C : Int32 → TH → Prop} (c : RB h T z s) (k1 : ∀ g r, pDish T z s = thn (pSemi T z r) (fun r => .inr (r.1, upd r.2.1 0 (nI (aN s.2.1 + 1)), r.2.2)) → RF h g → RT g T z r.1 → RMs g (upd r.2.1 0 (nI (aN s.2.1 + 1))) → NmR g 48 r.2.2 (aN s.2.1 + 1) → g.I 197 18 = 0 → Wf (upd r.2.1 0 (nI (aN s.2.1 + 1))) → aN (upd r.2.1 0 (nI (aN s.2.1 + 1))) = aN s.2.1 + 1 → aP (upd r.2.1 0 (nI (aN s.2.1 + 1))) = aP s.2.1 → g.I 197 19 = h.I 197 19 → C 1 g) (k0 : ∀ g e, pDish T z s = .inl e → RF h g → RFt g e → C 0 g) : W237 h C := by
  obtain ⟨rt, rm, rn, r18, hw, r19⟩ := c
  have h12 := hw.n12
  have e0 : h.I 198 1760 = nI (aN s.2.1) := by rw [rm 0 (by omega)]; exact hw.eN
  unfold W237
  rw [show ix 1760 = 1760 from rfl, e0]
  by_cases q : aN s.2.1 = 12
  · rw [if_neg (fun n => n (by rw [q]; rfl))]
    exact S224 (f := 6) rt r18 (fun g s1 f p => ⟨Or.inl rfl, k0 g _ (by unfold pDish; rw [if_pos q]) (RF_ft s1 f) p⟩)
  · rw [if_pos (show ¬ nI (aN s.2.1) = 12 from fun n => q ((nI_eq (b := 12) (by omega) (by omega)).mp n))]
    refine S221n rt (fun g1 s1 f1 r1 => ?_)
    have rm1 := RMs_tok rm s1
    have rn1 : NmR g1 48 s.2.2 (aN s.2.1) := NmR_sm rn (to78 s1)
    have z18 : g1.I 197 18 = 0 := by rw [f1 18 (by decide)]; exact r18
    refine S229 r1 (fun q30 => ?_) (fun q30 => ?_)
    · rw [if_pos (by decide)]
      refine S231 (b := 48) (N := s.2.2) r1 q30 h12 (by omega) rn1 (fun u => ?_) (fun u => ?_)
      · rw [if_neg (nI_ne1 (by omega))]
        exact S224 (f := 3) r1 z18 (fun g2 s2 f2 p2 => ⟨Or.inl rfl, k0 g2 _ (by unfold pDish; rw [if_neg q, if_pos q30, if_pos u]) ((RF_tok s1 f1).trans (RF_ft s2 f2)) p2⟩)
      · rw [if_pos rfl]
        refine S230 r1 q30 ?_
        rw [show (48 : Int32) = nI 48 from rfl, nI_add, ix_n (by omega), show (8 : Int32) = nI 8 from rfl, pk_mul, show (1776 : Int32) = nI 1776 from rfl, nI_add]
        refine ⟨inb_n (by omega), ?_⟩
        have rfJ : RF g1 (g1.sJ 199 (48 + aN s.2.1) (lN (cod 256 0 (wd T z (s.1 + 1))))) := ⟨Sm.sJ (S := inRm) Sm.refl (Or.inr (Or.inr rfl)) _, fun _ _ => rfl, fun k hk => by rw [J_at, if_neg (by omega)], fun _ _ => rfl⟩
        have nmJ : NmR (g1.sJ 199 (48 + aN s.2.1) (lN (cod 256 0 (wd T z (s.1 + 1))))) 48 (updN s.2.2 (aN s.2.1) (wd T z (s.1 + 1))) (aN s.2.1 + 1) := fun j hj => by
          rw [J_at]
          unfold updN
          by_cases w : j = aN s.2.1
          · rw [if_pos (by omega), if_pos w]; exact ⟨rfl, wd_ok q30⟩
          · rw [if_neg (by omega), if_neg w]; exact rn1 j (by omega)
        have rtJ : RT (g1.sJ 199 (48 + aN s.2.1) (lN (cod 256 0 (wd T z (s.1 + 1))))) T z (s.1 + 1) := r1.frame (fun _ _ _ => rfl) rfl rfl
        have rmJ : RMs (g1.sJ 199 (48 + aN s.2.1) (lN (cod 256 0 (wd T z (s.1 + 1))))) s.2.1 := fun k hk => rm1 k hk
        have zJ : (g1.sJ 199 (48 + aN s.2.1) (lN (cod 256 0 (wd T z (s.1 + 1))))).I 197 18 = 0 := z18
        have yJ : (g1.sJ 199 (48 + aN s.2.1) (lN (cod 256 0 (wd T z (s.1 + 1))))).I 197 19 = h.I 197 19 := f1 19 (by decide)
        generalize g1.sJ 199 (48 + aN s.2.1) (lN (cod 256 0 (wd T z (s.1 + 1)))) = H at rfJ nmJ rtJ rmJ zJ yJ ⊢
        refine S221n rtJ (fun g2 s2 f2 r2 => ?_)
        have rf2 : RF h g2 := (RF_tok s1 f1).trans (rfJ.trans (RF_tok s2 f2))
        have eD : pDish T z s = thn (pBody T z (aN s.2.1) (s.1 + 2, ini (aN s.2.1) s.2.1, updN s.2.2 (aN s.2.1) (wd T z (s.1 + 1)))) (fun r => thn (pSemi T z r) (fun r => .inr (r.1, upd r.2.1 0 (nI (aN s.2.1 + 1)), r.2.2))) := by
          unfold pDish; rw [if_neg q, if_pos q30, if_neg u]
        have nm2 : NmR g2 48 (updN s.2.2 (aN s.2.1) (wd T z (s.1 + 1))) (aN s.2.1 + 1) := NmR_sm nmJ (to78 s2)
        have rm2 : RMs g2 s.2.1 := RMs_tok rmJ s2
        have z2 : g2.I 197 18 = 0 := by rw [f2 18 (by decide)]; exact zJ
        have y2 : g2.I 197 19 = h.I 197 19 := by rw [f2 19 (by decide)]; exact yJ
        have dl : aN s.2.1 < 12 := by omega
        have hd0 : s.2.1 0 = nI (aN s.2.1) := hw.eN
        generalize hdd : aN s.2.1 = d at *
        unfold B237_86
        refine LFP.up 8 (fun (j : Nat) (st : Int32 × TH) => st.1 = nI j ∧ RF h st.2 ∧ RT st.2 T z (s.1 + 2) ∧ (∀ k, k < 440 → st.2.I 198 (1760 + k) = if 16 + 8 * d ≤ k ∧ k < 16 + 8 * d + j then ini d s.2.1 k else s.2.1 k) ∧ NmR st.2 48 (updN s.2.2 d (wd T z (s.1 + 1))) (d + 1) ∧ st.2.I 197 18 = 0 ∧ st.2.I 197 19 = h.I 197 19) ?_ ?_ (Nat.zero_le _) ⟨rfl, rf2, r2, fun k hk => by rw [if_neg (by omega)]; exact rm2 k hk, nm2, z2, y2⟩
        · rintro X j ⟨x3, g3⟩ hj ⟨e3, rf3, r3, m3, n3, z3, y3⟩ ih
          (try dsimp only at e3 rf3 r3 m3 n3 z3 y3)
          subst e3
          unfold F237_86
          (try dsimp only)
          rw [if_neg (show ¬ (8 : Int32) ≤ nI j from nI_ge (b := 8) hj (by omega)), nI_add, ix_n (by omega), nI_1]
          have step : ∀ v : Int32, v = ini d s.2.1 (16 + 8 * d + j) → X (nI (j + 1), g3.sI 198 (1776 + 8 * d + j) v) := by
            intro v hv
            refine ih _ ⟨rfl, rf3.trans (RF_198 (by omega)), RT_198 r3, fun k hk => ?_, fun i hi => n3 i hi, by rw [I_ne (by decide)]; exact z3, by rw [I_ne (by decide)]; exact y3⟩
            (try dsimp only)
            rw [I_at]
            by_cases w : k = 16 + 8 * d + j
            · rw [if_pos (by omega), if_pos (by omega), w, hv]
            · rw [if_neg (by omega), m3 k hk]
              by_cases w2 : 16 + 8 * d ≤ k ∧ k < 16 + 8 * d + j
              · rw [if_pos w2, if_pos (by omega)]
              · rw [if_neg w2, if_neg (by omega)]
          have iv : ini d s.2.1 (16 + 8 * d + j) = if j = 1 then 1 else if j = 7 then -1 else 0 := by
            unfold ini
            rw [if_pos (by omega)]
            by_cases w : j = 1
            · rw [if_pos (by omega), if_pos w]
            · rw [if_neg (by omega), if_neg w]
              by_cases w' : j = 7
              · rw [if_pos (by omega), if_pos w']
              · rw [if_neg (by omega), if_neg w']
          by_cases w : j = 1
          · rw [if_neg (fun n => n (by rw [w]; rfl))]
            exact ⟨inb_n (by omega), step _ (by rw [iv, if_pos w])⟩
          · rw [if_pos (show ¬ nI j = 1 from fun n => w ((nI_eq (b := 1) (by omega) (by omega)).mp n))]
            by_cases w' : j = 7
            · rw [if_neg (fun n => n (by rw [w']; rfl))]
              exact ⟨inb_n (by omega), step _ (by rw [iv, if_neg w, if_pos w'])⟩
            · rw [if_pos (show ¬ nI j = 7 from fun n => w' ((nI_eq (b := 7) (by omega) (by omega)).mp n))]
              exact ⟨inb_n (by omega), step _ (by rw [iv, if_neg w, if_neg w'])⟩
        · rintro X ⟨x3, g3⟩ ⟨e3, rf3, r3, m3, n3, z3, y3⟩
          (try dsimp only at e3 rf3 r3 m3 n3 z3 y3)
          subst e3
          unfold F237_86
          (try dsimp only)
          rw [if_pos (show (8 : Int32) ≤ nI 8 by decide +kernel)]
          have rmI : RMs g3 (ini d s.2.1) := fun k hk => by
            rw [m3 k hk]
            by_cases w2 : 16 + 8 * d ≤ k ∧ k < 16 + 8 * d + 8
            · rw [if_pos w2]
            · rw [if_neg w2]; unfold ini; rw [if_neg w2]
          have cI : RD g3 T z s.2.1 (updN s.2.2 d (wd T z (s.1 + 1))) d (s.1 + 2, ini d s.2.1, updN s.2.2 d (wd T z (s.1 + 1))) := ⟨r3, rmI, n3, z3, ini_MI⟩
          have i4 : ini d s.2.1 (16 + 8 * d + 4) = 0 := by unfold ini; rw [if_pos (by omega), if_neg (by omega), if_neg (by omega)]
          refine S237a dl hd0 cI i4 (fun g5 s5 e5 rf5 a1 a2 a3 a4 a5 => ?_) (fun g5 e e5 rf5 p5 => ?_)
          · obtain ⟨W1, W2, W3⟩ := Wf_add (M' := upd s5.2.1 0 (nI (d + 1))) hw (by omega) (by rw [pk_us, hdd]) (fun k a b => by rw [pk_un (by omega), a5.2.1 k (by omega)]) (by rw [hdd]; exact DF_0 a5.1)
            rw [hdd] at W2
            refine k1 g5 s5 (by rw [eD, thn_i e5]) (rf3.trans rf5) a1 a2 (by rw [show s5.2.2 = _ from a5.2.2]; exact a3) a4 W1 W2 W3 ?_
            exact (rf3.trans rf5).2.2.2 19 (by omega)
          · exact k0 g5 e (by rw [eD]; exact thn_l e5) (rf3.trans rf5) p5
    · rw [if_neg (by decide)]
      exact S224 (f := 2) r1 z18 (fun g2 s2 f2 p2 => ⟨Or.inl rfl, k0 g2 _ (by unfold pDish; rw [if_neg q, if_neg q30]) ((RF_tok s1 f1).trans (RF_ft s2 f2)) p2⟩)
end RD3
