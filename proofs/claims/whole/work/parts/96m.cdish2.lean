/-! THE CLASS READS A DISH: from, poured, once, the whole DISH -/
theorem ck_is {T : Nat → Nat} {z i w : Nat} {x : Int32} (hw : w < 36) (hx : nI (ck w) = x) : nI (ck (kd T z i)) = x ↔ kd T z i = w := by
  rw [← hx]; exact ck_eq hw
section PFR
variable {T : Nat → Nat} {z d : Nat} {M0 : Nat → Int32} {N1 : Nat → List Nat} {s s' : PS}
theorem pWork_fr (h : pWork T z d s = .inr s') (m : MI M0 N1 d s) : ∀ f, 4 ≤ f → s'.2.1 (16 + 8 * d + f) = s.2.1 (16 + 8 * d + f) := by
  intro f hf
  unfold pWork at h
  split at h
  · unfold pAm at h
    obtain ⟨s1, h1, h⟩ := thn_r h
    obtain ⟨s2, h2, h⟩ := thn_r h
    obtain ⟨s3, h3, h⟩ := thn_r h
    have m1 := pNum_MI h1 (MI_i m) (Or.inl ⟨rfl, rfl, rfl⟩)
    have m2 := pOpt_MI h2 m1.1 (Or.inr (Or.inl ⟨rfl, rfl, rfl⟩))
    have m3 := pOpt_MI h3 m2.1 (Or.inr (Or.inr (Or.inl ⟨rfl, rfl, rfl⟩)))
    have m4 := pOpt_MI h m3.1 (Or.inr (Or.inr (Or.inr ⟨rfl, rfl, rfl⟩)))
    rw [m4.2.2 _ (by omega), m3.2.2 _ (by omega), m2.2.2 _ (by omega), m1.2.2]
    exact pk_un (by omega)
  · cases h
theorem pNeeds_fr (f : Nat) : ∀ (s s' : PS), pNeeds T z d f s = .inr s' → ∀ k, k ≠ 16 + 8 * d + 4 → s'.2.1 k = s.2.1 k := by
  induction f with
  | zero =>
    intro s s' h k hk
    have h' : (Sum.inr s : PR) = .inr s' := h
    rw [← Sum.inr.inj h']
  | succ f ih =>
    intro s s' h k hk
    unfold pNeeds at h
    split at h
    · split at h
      · split at h
        · cases h
        · rw [ih _ s' h k hk]; exact pk_un hk
      · cases h
    · rw [← Sum.inr.inj h]
theorem pFrom_fr (h : pFrom T z d s = .inr s') : ∀ k, k ≠ 16 + 8 * d + 4 → s'.2.1 k = s.2.1 k := by
  unfold pFrom at h
  split at h
  · split at h
    · intro k hk; rw [pNeeds_fr 13 _ s' h k hk]
    · cases h
  · intro k _; rw [← Sum.inr.inj h]
end PFR
section CD2
variable {h : TH} {T : Nat → Nat} {z m d : Nat} {M0 : Nat → Int32} {N1 : Nat → List Nat} {s : PS}
theorem S81 {C : Int32 → TH → Prop} (hd : d = aN M0) (hd12 : d < 12) (c : CDs h T z m M0 N1 d s 4) (h4 : s.2.1 (16 + 8 * d + 4) = 0) (k1 : ∀ g s', pFrom T z d s = .inr s' → Sm inM h g → CDs g T z m M0 N1 d s' 5 → C 1 g) (k0 : ∀ g e, pFrom T z d s = .inl e → Sm inM h g → CFt g e → C 0 g) : W81 (nI d) h C := by
  unfold W81
  rw [ix_n (by omega)]
  refine ⟨inb_n hd12, ?_⟩
  have c1 : CDs (h.sI (16 + 6) d 0) T z m M0 N1 d s 5 := CDs_wr c hd (by omega) h4.symm
  have sm0 : Sm inM h (h.sI (16 + 6) d 0) := Sm.sI (S := inM) Sm.refl (Or.inr (by omega)) _
  generalize h.sI (16 + 6) d 0 = H at c1 sm0 ⊢
  rw [c1.1.2.2.2.2]
  by_cases q : kd T z s.1 = 7
  · rw [if_pos ((ck_is (x := 5) (w := 7) (by omega) rfl).mpr q)]
    refine S133 c1.1 (by omega) (fun g s1 t f => ?_)
    have cg : CDs g T z m M0 N1 d (s.1 + 1, s.2) 5 := CDs_tok c1 s1 t c1.2.1 (fun _ _ => rfl) (okF_9 c1.2.2.2.2.2 f)
    rw [t.2.2.2.2]
    by_cases w : kd T z (s.1 + 1) = 30
    · rw [if_pos ((ck_is (x := 30) (w := 30) (by omega) rfl).mpr w)]
      have eF : pFrom T z d s = pNeeds T z d 13 (s.1 + 1, s.2) := by unfold pFrom; rw [if_pos q, if_pos w]
      unfold B81_52
      refine LFP.up 13 (fun (x : Nat) (st : Int32 × TH) => st.1 = nI x ∧ ∃ s1 : PS, pNeeds T z d (13 - x) s1 = pFrom T z d s ∧ CDs st.2 T z m M0 N1 d s1 5 ∧ Sm inM h st.2) ?_ ?_ (Nat.zero_le _) ⟨rfl, (s.1 + 1, s.2), eF.symm, cg, sm0.trans (mono9 s1)⟩
      · rintro X x ⟨x2, g1⟩ hx ⟨e1, sA, eA, cA, smA⟩ ih
        (try dsimp only at e1 cA smA)
        subst e1
        unfold F81_52
        (try dsimp only)
        rw [if_neg (show ¬ (12 : Int32) < nI x from nI_nlt (a := 12) (by omega) (by omega)), cA.1.2.2.2.2, ix_n (by omega)]
        rw [show 13 - x = (12 - x) + 1 by omega] at eA
        unfold pNeeds at eA
        have eN : sA.2.2 = N1 := cA.2.1.2.2
        by_cases r : kd T z sA.1 = 30
        · rw [if_neg (fun n => n ((ck_is (x := 30) (w := 30) (by omega) rfl).mpr r))]
          rw [if_pos r, eN] at eA
          refine S134 cA.1 ?_
          have e14 := (cA.1.1.2.2.2 sA.1 cA.1.2.1).2.2.1 r
          rw [e14]
          have n12 : d ≤ 12 := by omega
          refine S59 (N := N1) (n := d) (by rw [cA.2.2.1.n, hd]) n12 (fun j hj => cA.2.2.2.1 j (by omega)) (wd_ok r) (fun u => ?_) (fun u => ?_)
          · rw [if_pos (nI_ne1 (by omega))]
            rw [if_pos u] at eA
            have e4 : g1.I (16 + 6) d = sA.2.1 (16 + 8 * d + 4) := cA.2.2.2.2.1 4 (by omega)
            refine ⟨inb_n hd12, ?_⟩
            rw [e4]
            by_cases v : bt (sA.2.1 (16 + 8 * d + 4)) (fnd N1 d (wd T z sA.1)) = true
            · rw [if_pos v] at eA
              rw [if_neg (fun n => absurd v (by rw [(bt_in (by omega)).mp n]; decide))]
              exact S135 (f := 5) cA.1 (by omega) (fun g2 s2 f2 p2 => ⟨Or.inl rfl, k0 g2 _ eA.symm (smA.trans (mono9 s2)) p2⟩)
            · rw [if_neg v] at eA
              rw [if_pos ((bt_in (by omega)).mpr (by simpa using v))]
              refine ⟨inb_n hd12, inb_n hd12, ?_⟩
              have mN : MI M0 N1 d (sA.1 + 1, upd sA.2.1 (16 + 8 * d + 4) (sA.2.1 (16 + 8 * d + 4) ||| ishl 1 (nI (fnd N1 d (wd T z sA.1)))), N1) := by
                have hone : pNeeds T z d 1 sA = .inr (sA.1 + 1, upd sA.2.1 (16 + 8 * d + 4) (sA.2.1 (16 + 8 * d + 4) ||| ishl 1 (nI (fnd N1 d (wd T z sA.1)))), N1) := by
                  unfold pNeeds; rw [if_pos r, eN, if_pos u, if_neg v]; rfl
                exact (pNeeds_MI 1 sA _ hone n12 cA.2.1).1
              have cB : CTT (g1.sI (16 + 6) d (sA.2.1 (16 + 8 * d + 4) ||| ishl 1 (nI (fnd N1 d (wd T z sA.1))))) T z m sA.1 := cA.1.frame (fun j => I_ne (by omega)) (by funext j; rw [I_ne (by omega)]) (by funext j; rw [I_ne (by omega)]) rfl
              refine S133 cB (by omega) (fun g2 s2 t2 f2 => ?_)
              rw [nI_1]
              refine ih _ ⟨rfl, (sA.1 + 1, upd sA.2.1 (16 + 8 * d + 4) (sA.2.1 (16 + 8 * d + 4) ||| ishl 1 (nI (fnd N1 d (wd T z sA.1)))), N1), ?_, ?_, ?_⟩
              · rw [show 13 - (x + 1) = 12 - x by omega]; exact eA
              · refine ⟨t2, mN, CMr_pt cA.2.2.1 (fun j _ _ => by rw [s2.I (by decide), I_ne (by omega)]) (fun a a1 a2 e he => by rw [s2.I (by omega), I_sI, if_neg (by omega)]) (fun k _ => by rw [s2.I (by decide), I_ne (by omega)]), fun j hj => by rw [s2.J (by decide)]; exact cA.2.2.2.1 j hj, fun f hf => ?_, okF_9 ⟨by rw [I_ne (by omega)]; exact cA.2.2.2.2.2.1, by rw [I_ne (by omega)]; exact cA.2.2.2.2.2.2⟩ f2⟩
                rw [s2.I (by omega), I_sI]
                by_cases y : f = 4
                · rw [if_pos (by omega), y]; exact pk_us.symm
                · rw [if_neg (by omega), cA.2.2.2.2.1 f hf]; exact (pk_un (by omega)).symm
              · exact smA.trans ((Sm.sI (S := inM) Sm.refl (Or.inr (by omega)) _).trans (mono9 s2))
          · rw [if_neg (fun n => n rfl)]
            rw [if_neg u] at eA
            exact S135 (f := 3) cA.1 (by omega) (fun g2 s2 f2 p2 => ⟨Or.inl rfl, k0 g2 _ eA.symm (smA.trans (mono9 s2)) p2⟩)
        · rw [if_pos (show ¬ nI (ck (kd T z sA.1)) = 30 from fun e => r ((ck_is (x := 30) (w := 30) (by omega) rfl).mp e))]
          rw [if_neg r] at eA
          exact k1 g1 sA eA.symm smA cA
      · rintro X ⟨x2, g1⟩ ⟨e1, sA, eA, cA, smA⟩
        (try dsimp only at e1 cA smA)
        subst e1
        unfold F81_52
        (try dsimp only)
        rw [if_pos (show (12 : Int32) < nI 13 by decide +kernel)]
        exact k1 g1 sA eA.symm smA cA
    · rw [if_neg (show ¬ nI (ck (kd T z (s.1 + 1))) = 30 from fun e => w ((ck_is (x := 30) (w := 30) (by omega) rfl).mp e))]
      exact S136 t (fun g2 s2 f2 p2 => ⟨Or.inl rfl, k0 g2 _ (by unfold pFrom; rw [if_pos q, if_neg w]) (sm0.trans (mono9 (s1.trans s2))) p2⟩)
  · rw [if_neg (show ¬ nI (ck (kd T z s.1)) = 5 from fun e => q ((ck_is (x := 5) (w := 7) (by omega) rfl).mp e))]
    exact k1 H s (by unfold pFrom; rw [if_neg q]) sm0 c1
end CD2
