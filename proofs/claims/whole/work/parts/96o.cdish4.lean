/-! THE CLASS READS A DISH: all of it -/
section CD4
variable {h : TH} {T : Nat → Nat} {z m d : Nat} {s : PS}
theorem DF_0 {M : Nat → Int32} {v : Int32} (x : DF M d) : DF (upd M 0 v) d := by
  have e : ∀ f, upd M 0 v (16 + 8 * d + f) = M (16 + 8 * d + f) := fun f => pk_un (by omega)
  unfold DF aW aSz aKp aBu aNe aPo aOn aPa at x ⊢
  rw [e 0, e 1, e 2, e 3, e 4, e 5, e 6, e 7]
  exact x
theorem pS_add {M0 M' : Nat → Int32} (h1 : aN M' = aN M0 + 1) (h2 : ∀ e, e < aN M0 → aPo M' e = aPo M0 e) : pS M' = bitIf (aPo M' (aN M0)) (pS M0) (aN M0) := by
  have e : pS M' = setOf (fun d => decide (aPo M' d = 1)) (aN M0 + 1) := by unfold pS; rw [h1]
  have e2 : setOf (fun d => decide (aPo M' d = 1)) (aN M0) = pS M0 := setOf_cg (fun j hj => by rw [h2 j hj])
  rw [e]
  unfold setOf bitIf
  rw [e2]
  by_cases w : aPo M' (aN M0) = 1
  · rw [if_pos w, if_pos (by simp [w])]
  · rw [if_neg w, if_neg (by simp [w])]
theorem oS_add {M0 M' : Nat → Int32} (h1 : aN M' = aN M0 + 1) (h2 : ∀ e, e < aN M0 → aOn M' e = aOn M0 e) : oS M' = bitIf (aOn M' (aN M0)) (oS M0) (aN M0) := by
  have e : oS M' = setOf (fun d => decide (aOn M' d = 1)) (aN M0 + 1) := by unfold oS; rw [h1]
  have e2 : setOf (fun d => decide (aOn M' d = 1)) (aN M0) = oS M0 := setOf_cg (fun j hj => by rw [h2 j hj])
  rw [e]
  unfold setOf bitIf
  rw [e2]
  by_cases w : aOn M' (aN M0) = 1
  · rw [if_pos w, if_pos (by simp [w])]
  · rw [if_neg w, if_neg (by simp [w])]
theorem S77 {C : Int32 → TH → Prop} (c : CB h T z m s) (q0 : kd T z s.1 = 0) (k1 : ∀ g s', pDish T z s = .inr s' → Sm inM h g → CB g T z m s' → C 1 g) (k0 : ∀ g e, pDish T z s = .inl e → Sm inM h g → CFt g e → C 0 g) : W77 h C := by
  obtain ⟨ct, hw, hr, hn, o⟩ := c
  have h12 := hw.n12
  unfold W77
  rw [hr.n]
  generalize hd : aN s.2.1 = d at *
  by_cases q : d = 12
  · rw [if_neg (show ¬ nI d < 12 from nI_nlt (b := 12) (by omega) (by omega))]
    exact S135 (f := 6) ct (by omega) (fun g s1 f p => ⟨Or.inl rfl, k0 g _ (by unfold pDish; rw [if_pos (by omega)]) (mono9 s1) p⟩)
  · have hd12 : d < 12 := by omega
    rw [if_pos (show nI d < 12 from nI_lt (b := 12) hd12 (by omega))]
    refine S133 ct (by omega) (fun g1 s1 t1 f1 => ?_)
    have e1 : g1.I 16 1 = nI d := by rw [s1.I (by decide), hr.n, hd]
    rw [e1]
    refine S78 (N := s.2.2) hd12 t1 e1 (fun j hj => by rw [s1.J (by decide)]; exact hn j hj) (fun q30 u g2 s2 t2 n2 f2 e17 => ?_) (fun q30 u g2 s2 p2 => ?_) (fun q30 g2 s2 p2 => ?_)
    · rw [if_neg (by decide)]
      have eD : pDish T z s = thn (pBody T z d (s.1 + 2, ini d s.2.1, updN s.2.2 d (wd T z (s.1 + 1)))) (fun r => thn (pSemi T z r) (fun r => .inr (r.1, upd r.2.1 0 (nI (d + 1)), r.2.2))) := by
        unfold pDish; rw [hd, if_neg q, if_pos q30, if_neg u]
      have smA : Sm inM h g2 := (mono9 s1).trans (s2.mono (fun a ha => ha.elim Or.inl (fun w => Or.inr (by omega))))
      have cI : CDs g2 T z m s.2.1 (updN s.2.2 d (wd T z (s.1 + 1))) d (s.1 + 2, ini d s.2.1, updN s.2.2 d (wd T z (s.1 + 1))) 0 :=
        ⟨t2, ini_MI, CMr_pt hr (fun j _ _ => by rw [s2.I (by decide), s1.I (by decide)]) (fun a _ _ e _ => by rw [s2.I (by omega), s1.I (by omega)]) (fun k _ => by rw [s2.I (by decide), s1.I (by decide)]), n2, fun f hf => absurd hf (Nat.not_lt_zero _), okF_9 (okF_9 o f1) f2⟩
      have iv : ∀ f, f < 8 → ini d s.2.1 (16 + 8 * d + f) = if f = 1 then 1 else if f = 7 then -1 else 0 := by
        intro f hf
        unfold ini
        rw [if_pos (by omega)]
        by_cases w : f = 1
        · rw [if_pos (by omega), if_pos w]
        · rw [if_neg (by omega), if_neg w]
          by_cases w' : f = 7
          · rw [if_pos (by omega), if_pos w']
          · rw [if_neg (by omega), if_neg w']
      generalize hS : ((s.1 + 2, ini d s.2.1, updN s.2.2 d (wd T z (s.1 + 1))) : PS) = sI at *
      have iv' : ∀ f, f < 8 → sI.2.1 (16 + 8 * d + f) = if f = 1 then 1 else if f = 7 then -1 else 0 := by rw [← hS]; exact iv
      refine S79 hd.symm hd12 cI ⟨iv' 1 (by omega), iv' 2 (by omega), iv' 3 (by omega)⟩ (fun g3 s3 e3 sm3 c3 _ => ?_) (fun g3 e e3 sm3 p3 => ?_)
      · rw [if_neg (by decide)]
        have w4 := pWork_fr e3 cI.2.1
        refine S81 hd.symm hd12 c3 (by rw [w4 4 (by omega)]; exact iv' 4 (by omega)) (fun g4 s4 e4 sm4 c4 => ?_) (fun g4 e e4 sm4 p4 => ?_)
        · rw [if_neg (by decide)]
          have w5 := pFrom_fr e4
          have z5 : s4.2.1 (16 + 8 * d + 5) = 0 := by rw [w5 _ (by omega), w4 5 (by omega)]; exact iv' 5 (by omega)
          have z6 : s4.2.1 (16 + 8 * d + 6) = 0 := by rw [w5 _ (by omega), w4 6 (by omega)]; exact iv' 6 (by omega)
          refine S82 hd12 (CDk_of c4 z5 z6) z5 z6 (fun g5 s5 e5 sm5 c5 => ?_) (fun g5 e e5 sm5 p5 => ?_)
          · rw [if_neg (by decide)]
            have eB : pBody T z d sI = .inr s5 := by unfold pBody; rw [thn_i e3, thn_i e4]; exact e5
            refine S137 (w := 33) c5.1 (by omega) (by omega) (fun q33 g6 s6 t6 f6 => ?_) (fun q33 g6 s6 f6 p6 => ?_)
            · rw [if_pos (by decide), ix_n (by omega)]
              refine ⟨inb_n hd12, ?_⟩
              obtain ⟨_, mi, ⟨r1, r2, r3, r4⟩, nn, fl5, oo, b3, b4⟩ := c5
              have eS : pSemi T z s5 = .inr (s5.1 + 1, s5.2) := by unfold pSemi; rw [if_pos q33]
              have eR : pDish T z s = .inr (s5.1 + 1, upd s5.2.1 0 (nI (d + 1)), s5.2.2) := by rw [eD, thn_i eB, thn_i eS]
              obtain ⟨W1, W2, W3⟩ := Wf_add (M' := upd s5.2.1 0 (nI (d + 1))) hw (by omega) (by rw [pk_us, hd]) (fun k a b => by rw [pk_un (by omega), mi.2.1 k (by omega)]) (by rw [hd]; exact DF_0 mi.1)
              have b6 : (g6.sI (16 + 7) d (-1)).I 16 1 = nI d := by rw [I_ne (by decide), s6.I (by decide), r1, hd]
              rw [b6, nI_1]
              have smF : Sm inM h (((g6.sI (16 + 7) d (-1))).sI 16 1 (nI (d + 1))) := Sm.sI (S := inM) (Sm.sI (S := inM) (((((smA.trans sm3).trans sm4).trans sm5).trans (mono9 s6))) (Or.inr (by omega)) _) (Or.inr (by omega)) _
              have rowE : ∀ e, e < d → ∀ f, f < 8 → upd s5.2.1 0 (nI (d + 1)) (16 + 8 * e + f) = s.2.1 (16 + 8 * e + f) := fun e he f hf => by rw [pk_un (by omega)]; exact mi.2.1 _ (by omega)
              have rowD : ∀ f, upd s5.2.1 0 (nI (d + 1)) (16 + 8 * d + f) = s5.2.1 (16 + 8 * d + f) := fun f => pk_un (by omega)
              have g7 : ∀ a j, a ≠ 9 → a ≠ 16 → a ≠ 23 → (((g6.sI (16 + 7) d (-1))).sI 16 1 (nI (d + 1))).I a j = g5.I a j := fun a j a1 a2 a3 => by rw [I_ne a2, I_ne a3, s6.I a1]
              refine k1 _ _ eR smF ⟨t6.frame (fun j => by rw [I_ne (by decide), I_ne (by decide)]) (by funext j; rw [I_ne (by decide), I_ne (by decide)]) (by funext j; rw [I_ne (by decide), I_ne (by decide)]) rfl, W1, ⟨?_, ?_, ?_, ?_, fun e he => ?_, fun k hk => ?_⟩, fun j hj => ?_, ?_⟩
              · rw [I_eq, W2, hd]
              · rw [I_nk (by decide), I_ne (by decide), s6.I (by decide), r2, W3]
              · rw [I_nk (by decide), I_ne (by decide), s6.I (by decide), b3]
                rw [pS_add W2 (fun e he => rowE e (by omega) 5 (by omega)), hd, show aPo (upd s5.2.1 0 (nI (d + 1))) d = s5.2.1 (16 + 8 * d + 5) from rowD 5]
              · rw [I_nk (by decide), I_ne (by decide), s6.I (by decide), b4]
                rw [oS_add W2 (fun e he => rowE e (by omega) 6 (by omega)), hd, show aOn (upd s5.2.1 0 (nI (d + 1))) d = s5.2.1 (16 + 8 * d + 6) from rowD 6]
              · rw [W2, hd] at he
                rw [g7 (16 + 2) e (by decide) (by decide) (by decide), g7 (16 + 3) e (by decide) (by decide) (by decide), g7 (16 + 4) e (by decide) (by decide) (by decide), g7 (16 + 5) e (by decide) (by decide) (by decide), g7 (16 + 6) e (by decide) (by decide) (by decide), I_ne (show (16 + 7 : Nat) ≠ 16 by decide), I_at]
                unfold aW aSz aKp aBu aNe aPa
                by_cases w : e = d
                · subst w
                  rw [if_pos rfl]
                  (try dsimp only)
                  rw [rowD 0, rowD 1, rowD 2, rowD 3, rowD 4, rowD 7]
                  exact ⟨fl5 0 (by omega), fl5 1 (by omega), fl5 2 (by omega), fl5 3 (by omega), fl5 4 (by omega), mi.1.2.2.2.2.2.2.2.2.symm⟩
                · rw [if_neg w, s6.I (show ¬ (16 + 7 : Nat) = 9 by decide)]
                  (try dsimp only)
                  have he' : e < d := by omega
                  rw [rowE e he' 0 (by omega), rowE e he' 1 (by omega), rowE e he' 2 (by omega), rowE e he' 3 (by omega), rowE e he' 4 (by omega), rowE e he' 7 (by omega)]
                  exact r3 e (by omega)
              · rw [W3] at hk
                rw [g7 (16 + 8) k (by decide) (by decide) (by decide), r4 k hk]
                have hP8 : aP s.2.1 ≤ 8 := hw.2.2.2.1
                show _ = upd s5.2.1 0 (nI (d + 1)) (8 + k)
                rw [pk_un (by omega), mi.2.1 _ (by omega)]
              · have hj' : j < aN (upd s5.2.1 0 (nI (d + 1))) := hj
                rw [W2, hd] at hj'
                have eN : s5.2.2 = updN s.2.2 d (wd T z (s.1 + 1)) := mi.2.2
                rw [eN]
                have := nn j hj'
                show g6.J (16 + 1) j = _ ∧ _
                rw [s6.J (by decide)]
                exact this
              · exact ⟨by rw [I_ne (by decide), I_ne (by decide)]; exact (okF_9 oo f6).1, by rw [I_ne (by decide), I_ne (by decide)]; exact (okF_9 oo f6).2⟩
            · rw [if_neg (fun n => n rfl)]
              exact k0 g6 _ (by rw [eD, thn_i eB]; exact thn_l (by unfold pSemi; rw [if_neg q33])) ((((smA.trans sm3).trans sm4).trans sm5).trans (mono9 s6)) p6
          · rw [if_pos rfl]
            exact k0 g5 e (by rw [eD]; exact thn_l (by unfold pBody; rw [thn_i e3, thn_i e4]; exact e5)) (((smA.trans sm3).trans sm4).trans sm5) p5
        · rw [if_pos rfl]
          exact k0 g4 e (by rw [eD]; exact thn_l (by unfold pBody; rw [thn_i e3]; exact thn_l e4)) ((smA.trans sm3).trans sm4) p4
      · rw [if_pos rfl]
        exact k0 g3 e (by rw [eD]; exact thn_l (by unfold pBody; exact thn_l e3)) (smA.trans sm3) p3
    · rw [if_pos rfl]
      exact k0 g2 _ (by unfold pDish; rw [hd, if_neg q, if_pos q30, if_pos u]) (mono9 (s1.trans s2)) p2
    · rw [if_pos rfl]
      exact k0 g2 _ (by unfold pDish; rw [hd, if_neg q, if_neg q30]) (mono9 (s1.trans s2)) p2
end CD4
