/-! make, pourOver, wash, trust, show, empty -/
section HND
variable {h g h2 : TH} {L z c i c' : Nat} {xs : Nat → Int32} {G G' : Int32 → Nat → Int32} {T : Nat → Prop} {D : Int32 → TH → Prop} {x y : Int32} {M : Nat → Int32} {N : Nat → List Nat} {cn k s : Nat} {S U W S2 U2 W2 : Int32} {A A2 : Nat → Nat}
/-- the level that is open now is another, and the tape, what was cooked, the stamps may be -/
theorem Rst.cur (r : Rst L xs h z G c i) (q : Gr T h g) (hT : ∀ a, T a → spare a ∨ a = 0 ∨ a = 9 ∨ a = 10 ∨ a = 15 ∨ a = 203 ∨ (43 + 24 * i ≤ a ∧ a < 67 + 24 * i) ∨ a = 197 ∨ a = 198 ∨ a = 199 ∨ a = 193 ∨ a = 194 ∨ a = 221 ∨ (204 ≤ a ∧ a ≤ 220)) (hn : g.n ≤ h.n + 16 ∧ g.sl ≤ h.sl + 50000) (hz : z < 1000) (tp : Tpe g) (ck : Ckd g) (f10 : g.I 0 10 = h.I 0 10) (f55 : g.I 197 55 = h.I 197 55) (f198 : ∀ k, 440 ≤ k → k < 1760 → g.I 198 k = h.I 198 k) (f199 : ∀ k, 12 ≤ k → k < 48 → g.J 199 k = h.J 199 k) (hG : ∀ s, s ≤ c → G' (nI s) = G (nI s)) (hc : c ≤ c' ∧ c' ≤ z + 1 ∧ g.I 15 2 = nI c') (l : Lev g i (g.I 198) (g.J 199) G' c' (z + 1)) : Rst L xs g (z + 1) G' c' i := by
  obtain ⟨r1, r2, r3, r4, r5, r6, r7, l1, l2, l3, l4, l5⟩ := r
  have q1 := q.1
  unfold Rm at r5
  have F : ∀ a, a = 7 ∨ a = 8 ∨ a = 200 ∨ a = 201 ∨ a = 202 ∨ (3 ≤ a ∧ a < 7) ∨ a = 1000000 → g.I a = h.I a ∧ g.J a = h.J a := fun a ha => by
    have := q.2.2 a (by omega) (fun w => by have := hT a w; unfold spare at this; omega)
    exact ⟨this.1, this.2.1⟩
  have kn : ∀ a, a < 222 ∨ 1000000 ≤ a → g.K a = h.K a ∧ g.N a = h.N a := fun a ha => q.2.1 a (by omega)
  refine ⟨tp, ck, r3.frame (F 7 (by omega)).1 (F 8 (by omega)).1 (F 200 (by omega)).1 (F 201 (by omega)).1 (fun e he => ⟨(F _ (by omega)).2, kn _ (by omega)⟩) (F 202 (by omega)).2, by rw [(kn 34 (by omega)).1, (kn 34 (by omega)).2]; exact r4, by unfold Rm; omega, by unfold Sc; rw [(kn 1000000 (by omega)).2, (F 1000000 (by omega)).1]; exact r6, ⟨hc.2.2, hc.2.1⟩, l1, by rw [f10]; exact l2, by rw [f55]; exact l3, l, fun e he => ?_⟩
  refine Lev.stamp (Lev.fr (l5 e he) (fun a a1 a2 a3 a4 a5 => ?_) ?_ (fun e2 he2 => ?_) (fun k hk => f198 _ (by omega) (by omega)) (fun k hk => f199 _ (by omega) (by omega)) (by omega)) hG hc.1
  · exact (q.2.2 a (by omega) (fun w => by have := hT a w; unfold spare at this; omega)).1
  · exact (q.2.2 _ (by omega) (fun w => by have := hT _ w; unfold spare at this; omega)).2.1
  · rw [(q.2.2 (58 + 24 * e) (by omega) (fun w => by have := hT _ w; unfold spare at this; omega)).1]
theorem sb_st (h12 : aN M ≤ 12) (hs : sb U2 S2) {old : Int32} : sb U2 (stS M S2 U2 old A) := by
  intro d hd q
  have w := gon_U (M := M) (S := S2) (U := U2) (old := old) (A := A) h12
  unfold stS
  rw [bt_and, hs d hd q]
  rw [← w, bt_and] at q
  simp only [Bool.and_eq_true] at q
  rw [q.2]; rfl
theorem St_st (h12 : aN M ≤ 12) (hs : St (aN M) S2) {old : Int32} : St (aN M) (stS M S2 U2 old A) := St_and _ hs (by omega)
/-- after an act by hand on both sides -/
theorem Inv.hand2 {k2 : Nat} (hk2 : k2 ≤ z + 1) (hI : Inv L xs h z) (hz : z < 1000) (l : LevG h i (h.I 198) (h.J 199) G c z M N cn S U W k A s) (r : Rst L xs h z G c i) (se : Se h G c) (hg : HG h h2 (65 + 24 * i)) (hC : HCs h2 (65 + 24 * i) M S2 U2 W2 k2 A2) (rh : RH h2 g) (hR : HMs g M S2 U2 W2 k2 A2) (f2 : g.I 197 2 = 0) (sS : St (aN M) S2) (sU : St (aN M) U2) (hU : sb U2 S2) : Inv L xs g (z + 1) := by
  have st := hI.1
  have hn := hI.nn
  have hi : i < 4 := r.2.2.2.2.2.2.2.1
  have w12 := l.1.n12
  obtain ⟨p1, p2, p3⟩ := hg
  obtain ⟨q1, q2, q3⟩ := rh
  have p : Sm (fun a => a = 0 ∨ a = 65 + 24 * i ∨ a = 66 + 24 * i ∨ a = 197 ∨ a = 198 ∨ a = 206) h g := (p1.mono (fun a ha => by omega)).trans (q1.mono (fun a ha => by omega))
  have g0 : g.I 0 = h2.I 0 := q1.I (by omega)
  have e65 : g.I (65 + 24 * i) = h2.I (65 + 24 * i) := q1.I (by omega)
  have e66 : g.I (65 + 24 * i + 1) = h2.I (65 + 24 * i + 1) := q1.I (by omega)
  have e197 : ∀ j, j ≠ 2 → j ≠ 25 → g.I 197 j = h.I 197 j := fun j h1 h2 => by rw [q2 j h1 h2, p1.I (by omega)]
  have e198 : ∀ j, (j < 2 ∨ 5 < j) → (j < 112 ∨ 124 ≤ j) → g.I 198 j = h.I 198 j := fun j h1 h2 => by rw [q3 j h1 h2, p1.I (by omega)]
  have J : ∀ a, ¬ (a = 65 + 24 * i ∨ a = 66 + 24 * i ∨ a = 198 ∨ a = 206) → g.J a = h.J a := fun a ha => p.2.2.2.2.2.2 a (by omega)
  obtain ⟨r1, r2, rr⟩ := id r
  refine ⟨⟨?_, by rw [J 0 (by omega), J 197 (by omega)]; exact st.2.1, by rw [J 0 (by omega), J 197 (by omega)]; exact st.2.2⟩, G, c, i, ?_, se.gr p.gr hn.1 (fun a ha => by unfold outS; omega) ⟨e197 30 (by omega) (by omega), p.I (by omega), p.I (by omega), p.I (by omega)⟩⟩
  · rw [g0, p2, f2]
  · refine r.cur p.gr (fun a ha => by unfold spare; omega) ⟨by rw [p.n]; omega, by rw [p.sl]; omega⟩ hz (r1.fr (fun j hj => by rw [p.I (by omega)]) (p.I (by omega)) (J 11 (by omega)) (fun j hj => e197 j (by omega) (by omega)) (p.I (by omega))) (r2.fr (by rw [g0]; exact p3 19 (by omega)) (e197 52 (by omega) (by omega)) (p.I (by omega)) (p.I (by omega)) (p.I (by omega))) (by rw [g0]; exact p3 10 (by omega)) (e197 55 (by omega) (by omega)) (fun k h1 h2 => e198 k (by omega) (by omega)) (fun k _ _ => by rw [J 199 (by omega)]) (fun _ _ => rfl) ⟨Nat.le_refl _, by have := rr.2.2.2.2.1.2; omega, by rw [p.I (by omega)]; exact rr.2.2.2.2.1.1⟩ ?_
    obtain ⟨l1, l2, l3, l4, l5, l6, ⟨l7, l8, l9⟩, l10, l11⟩ := l
    refine ⟨M, N, cn, S2, U2, W2, k2, A2, s, l1, l2.frame (fun a a1 a2 => p.I (by omega)), fun e he => ?_, ?_, fun k hk => (e198 k (by omega) (by omega)).trans (l5 k hk), fun e he => by rw [J 199 (by omega)]; exact l6 e he, ⟨HCs_copy w12 hC (by rw [e65]) (by rw [e65]) (by rw [e65]) (by rw [e65]) (by rw [e65]; exact hC.2.2.2.2.1) (fun e he => by rw [e66]), by omega, sS, sU, hU, hC.2.2.2.2.2.abd⟩, ⟨hR.1, hR.2.1, hR.2.2.1, hR.2.2.2.1, hR.2.2.2.2⟩, ?_⟩
    · rw [J _ (by omega)]; exact l3 e he
    · rw [p.I (by omega)]; exact l4
    · rw [p.I (a := 58 + 24 * i) (by omega), e198 6 (by omega) (by omega)]
      exact l11.imp id (fun ⟨w, w6, wr⟩ => ⟨⟨by rw [p.I (by omega)]; exact w.1, by rw [p.I (by omega)]; exact w.2.1, w.2.2.1, CPl_fr w.2.2.2 (fun a a1 a2 => p.I (by omega))⟩, w6, fun k k1 k2 => (e198 k (by omega) (by omega)).trans (wr k k1 k2)⟩)
theorem Inv.hand (hI : Inv L xs h z) (hz : z < 1000) (l : LevG h i (h.I 198) (h.J 199) G c z M N cn S U W k A s) (r : Rst L xs h z G c i) (se : Se h G c) (hg : HG h h2 (65 + 24 * i)) (hC : HCs h2 (65 + 24 * i) M S2 U2 W2 (k + 1) A2) (rh : RH h2 g) (hR : HMs g M S2 U2 W2 (k + 1) A2) (f2 : g.I 197 2 = 0) (sS : St (aN M) S2) (sU : St (aN M) U2) (hU : sb U2 S2) : Inv L xs g (z + 1) := hI.hand2 (by have := l.2.2.2.2.2.2.1.2.1; omega) hz l r se hg hC rh hR f2 sS sU hU
/-- the reference has looked whether it fits, and refuses -/
theorem Inv.no (hI : Inv L xs h z) (hz : z < 1000) {s : Int32} (ra : RAo (h.sI 0 0 s) g) (e : g.I 198 = (h.sI 0 0 s).I 198) : Inv L xs (g.sI 197 2 s) (z + 1) := by
  obtain ⟨q1, q2, q3⟩ := ra
  have k1 : Kept h (h.sI 0 0 s) := Kept.cls (S := fun a => a = 0) (Sm.gr (sm1 _ _ _ _)) hI.nn.1 (fun a ha => Or.inr ha) (fun j hj => by rw [I_nk (by omega)]) (by have := hI.nn; omega)
  have q : Sm (fun a => a = 197 ∨ a = 198 ∨ a = 206) (h.sI 0 0 s) (g.sI 197 2 s) := Sm.sI q1 (Or.inl rfl) s
  have k2 : Kept (h.sI 0 0 s) (g.sI 197 2 s) := Kept.ref q (fun a ha => by unfold spare; omega) (fun j hj => by rw [I_nk (by omega), q2 j (by omega)]) (fun k hk => by rw [I_sI, if_neg (by omega), e])
  have p : Sm (fun a => a = 0 ∨ a = 197 ∨ a = 198 ∨ a = 206) h (g.sI 197 2 s) := (Sm.sI Sm.refl (Or.inl rfl) s).trans (q.mono (fun a ha => by omega))
  have st := hI.1
  refine hI.mk hz (k1.trans k2) ⟨by rw [p.n]; omega, by rw [p.n]; omega, by rw [p.sl]; omega⟩ ⟨?_, by rw [p.J0, p.J197]; exact st.2.1, by rw [p.J0, p.J197]; exact st.2.2⟩ (fun G c se => se.gr p.gr hI.nn.1 (fun a ha => by unfold outS; omega) ⟨(k1.trans k2).2.2.2.2.2.1 30 (by omega), p.I (by omega), p.I (by omega), p.I (by omega)⟩)
  rw [I_eq, q.I (by omega), I_eq]
theorem Inv.lev (hI : Inv L xs h z) : ∃ G c i M N cn S U W k A s, Rst L xs h z G c i ∧ Se h G c ∧ LevG h i (h.I 198) (h.J 199) G c z M N cn S U W k A s ∧ Cur h i M cn S U W k A := by
  have hn := hI.nn
  obtain ⟨-, G, c, i, r, se⟩ := hI
  obtain ⟨-, -, -, -, rm, -, -, hi, cur, mk, ⟨M, N, cn, S, U, W, k, A, s, l⟩, lv⟩ := id r
  obtain ⟨l1, l2, l3, l4, l5, l6, ⟨l7, l8, l9, l10, l11, l12⟩, l13, l14⟩ := id l
  unfold Rm at rm
  refine ⟨G, c, i, M, N, cn, S, U, W, k, A, s, r, se, l, hi, cur, l1, l2, fun k hk => l5 k hk, l7, ⟨l13.1, l13.2.1, l13.2.2.1, l13.2.2.2.1, l13.2.2.2.2⟩, by omega, l9, l10, l11, l12, ?_, hn⟩
  rcases l14 with ⟨q, q6⟩ | ⟨q, q6, q7⟩
  · exact Or.inl ⟨q, q6⟩
  · exact Or.inr ⟨q, q6, q7⟩
theorem HG.keep (hi : i < 4) (hg : HG h h2 (65 + 24 * i)) (hM : MA h M) (hR : HMs h M S U W k A) (sc : Sc L xs h) : MA h2 M ∧ HMs h2 M S U W k A ∧ Sc L xs h2 := by
  have e : h2.I 198 = h.I 198 := hg.1.I (by omega)
  refine ⟨fun k hk => by rw [e]; exact hM k hk, ?_, ?_⟩
  · unfold HMs agS at hR ⊢; rw [e]; exact hR
  · unfold Sc at sc ⊢; rw [hg.1.N, hg.1.I (by omega)]; exact sc
theorem d_one {n d d' : Nat} {y : Int32} (hn : n ≤ 12) (hd : d < n) (hd' : d' < n) (e : y = nI d) (e' : y = nI d') : d' = d := (nI_eq (by omega) (by omega)).mp (e'.symm.trans e)
theorem sb_nob {d : Nat} (hU : sb U S) : sb (nob U d) (nob S d) := by
  intro e he q
  unfold nob at q ⊢
  rw [bt_and] at q ⊢
  simp only [Bool.and_eq_true] at q ⊢
  exact ⟨hU e he q.1, q.2⟩
theorem Q167 (hI : Inv L xs h z) (hz : z < 1000) (k : Jn L xs z (W277 x) D) : W167 x h D := by
  obtain ⟨G, c, i, M, N, cn, S, U, W, kk, A, s, r, se, l, hi, cur, hw, hc, hM, hC, hR, hk, sS, sU, hU, ab, -⟩ := hI.lev
  have h12 := hw.n12
  refine S167 hw hi cur hc (by omega) hC sS sU (fun e => ?_) (fun d hd ex q => ?_) (fun d hd ex q g hg hC2 => ?_)
  · exact k.st hI hz (fun Y hY => S277 hw (hM.s0 _) (hR.s0 _) sS sU hU ab (fun _ => hY) (fun d hd ex => (dno hd h12 (ex ▸ e)).elim) (fun d hd ex => (dno hd h12 (ex ▸ e)).elim))
  · exact k _ _ (hI.sc0 7) (fun Y hY => S277 hw (hM.s0 _) (hR.s0 _) sS sU hU ab (fun e => (dno hd h12 (ex ▸ e)).elim) (fun d' hd' ex' _ g ra e => hY _ (hI.no hz ra e)) (fun d' hd' ex' q' => (q (d_one h12 hd hd' ex ex' ▸ q')).elim))
  · obtain ⟨hM2, hR2, sc2⟩ := hg.keep hi hM hR hI.sc
    refine k _ _ sc2 (fun Y hY => S277 hw hM2 hR2 sS sU hU ab (fun e => (dno hd h12 (ex ▸ e)).elim) (fun d' hd' ex' q' => (q' (d_one h12 hd hd' ex ex' ▸ q)).elim) (fun d' hd' ex' q' g2 rh hR3 f2 => ?_))
    have ed := d_one h12 hd hd' ex ex'
    subst ed
    refine hY _ (hI.hand hz l r se hg hC2 rh hR3 f2 (St_st h12 (St_mk hw hd sS)) (St_and _ sU (by omega)) (sb_st h12 (fun e he w => ?_)))
    rw [← U_mk hw hd hU, bt_and] at w
    simp only [Bool.and_eq_true] at w
    exact w.2
theorem Q168 (hI : Inv L xs h z) (hz : z < 1000) (k : Jn L xs z (W278 x y) D) : W168 x y h D := by
  obtain ⟨G, c, i, M, N, cn, S, U, W, kk, A, s, r, se, l, hi, cur, hw, hc, hM, hC, hR, hk, sS, sU, hU, ab, -⟩ := hI.lev
  have h12 := hw.n12
  have dn : ∀ d o, d < aN M → x = nI d → o < aN M → y = nI o → ¬ ((x < 0 ∨ nI (aN M) ≤ x) ∨ (y < 0 ∨ nI (aN M) ≤ y)) := fun d o hd ex ho ey e => e.elim (fun e => dno hd h12 (ex ▸ e)) (fun e => dno ho h12 (ey ▸ e))
  refine S168 hw hi cur hc (by omega) hC sS sU (fun e => ?_) (fun d o hd ex ho ey q => ?_) (fun d o hd ex ho ey q g hg hC2 => ?_)
  · exact k.st hI hz (fun Y hY => S278 hw (hM.s0 _) (hR.s0 _) sS sU hU ab (fun _ => hY) (fun d o hd ex ho ey => (dn d o hd ex ho ey e).elim) (fun d o hd ex ho ey => (dn d o hd ex ho ey e).elim))
  · exact k _ _ (hI.sc0 7) (fun Y hY => S278 hw (hM.s0 _) (hR.s0 _) sS sU hU ab (fun e => (dn d o hd ex ho ey e).elim) (fun d' o' hd' ex' ho' ey' _ g ra e => hY _ (hI.no hz ra e)) (fun d' o' hd' ex' ho' ey' q' => (q (d_one h12 hd hd' ex ex' ▸ d_one h12 ho ho' ey ey' ▸ q')).elim))
  · obtain ⟨hM2, hR2, sc2⟩ := hg.keep hi hM hR hI.sc
    refine k _ _ sc2 (fun Y hY => S278 hw hM2 hR2 sS sU hU ab (fun e => (dn d o hd ex ho ey e).elim) (fun d' o' hd' ex' ho' ey' q' => (q' (by rw [d_one h12 hd hd' ex ex', d_one h12 ho ho' ey ey']; exact q)).elim) (fun d' o' hd' ex' ho' ey' q' g2 rh hR3 f2 => ?_))
    have ed := d_one h12 hd hd' ex ex'
    have eo := d_one h12 ho ho' ey ey'
    subst ed eo
    refine hY _ (hI.hand hz l r se hg hC2 rh hR3 f2 (St_st h12 (St_po h12 hd sS)) (St_and _ sU (by omega)) (sb_st h12 (fun e he w => ?_)))
    rw [← U_po hd h12 hU q (by omega), bt_and] at w
    simp only [Bool.and_eq_true] at w
    exact w.2
theorem Q169 (hI : Inv L xs h z) (hz : z < 1000) (k : Jn L xs z (W279 x) D) : W169 x h D := by
  obtain ⟨G, c, i, M, N, cn, S, U, W, kk, A, s, r, se, l, hi, cur, hw, hc, hM, hC, hR, hk, sS, sU, hU, ab, -⟩ := hI.lev
  have h12 := hw.n12
  refine S169 hw hi cur hc (by omega) hC sS sU (fun e => ?_) (fun d hd ex q => ?_) (fun d hd ex q g hg hC2 => ?_)
  · exact k.st hI hz (fun Y hY => S279 hw (hM.s0 _) (hR.s0 _) sS sU ab (fun _ => hY) (fun d hd ex => (dno hd h12 (ex ▸ e)).elim) (fun d hd ex => (dno hd h12 (ex ▸ e)).elim))
  · refine k.st hI hz (fun Y hY => S279 hw (hM.s0 _) (hR.s0 _) sS sU ab (fun e => (dno hd h12 (ex ▸ e)).elim) (fun d' hd' ex' _ => hY) (fun d' hd' ex' q' => ?_))
    rw [d_one h12 hd hd' ex ex', q] at q'; exact absurd q' (by decide)
  · obtain ⟨hM2, hR2, sc2⟩ := hg.keep hi hM hR hI.sc
    refine k _ _ sc2 (fun Y hY => S279 hw hM2 hR2 sS sU ab (fun e => (dno hd h12 (ex ▸ e)).elim) (fun d' hd' ex' q' => ?_) (fun d' hd' ex' q' g2 rh hR3 f2 => ?_))
    · rw [d_one h12 hd hd' ex ex', q] at q'; exact absurd q' (by decide)
    have ed := d_one h12 hd hd' ex ex'
    subst ed
    exact hY _ (hI.hand hz l r se hg hC2 rh hR3 f2 (St_st h12 (St_and _ sS (by omega))) (St_and _ sU (by omega)) (sb_st h12 (sb_nob hU)))
theorem Q170 (hI : Inv L xs h z) (hz : z < 1000) (k : Jn L xs z (W280 x) D) : W170 x h D := by
  obtain ⟨G, c, i, M, N, cn, S, U, W, kk, A, s, r, se, l, hi, cur, hw, hc, hM, hC, hR, hk, sS, sU, hU, ab, -⟩ := hI.lev
  have h12 := hw.n12
  refine S170 hw hi cur hc (by omega) hC sS sU (fun e => ?_) (fun d hd ex q => ?_) (fun d hd ex qa qb g hg hC2 => ?_)
  · exact k.st hI hz (fun Y hY => S280 hw (hM.s0 _) (hR.s0 _) sS sU ab (fun _ => hY) (fun d hd ex => (dno hd h12 (ex ▸ e)).elim) (fun d hd ex => (dno hd h12 (ex ▸ e)).elim))
  · exact k _ _ (hI.sc0 7) (fun Y hY => S280 hw (hM.s0 _) (hR.s0 _) sS sU ab (fun e => (dno hd h12 (ex ▸ e)).elim) (fun d' hd' ex' _ g ra e => hY _ (hI.no hz ra e)) (fun d' hd' ex' q1 q2 => (q (d_one h12 hd hd' ex ex' ▸ ⟨q1, q2⟩)).elim))
  · obtain ⟨hM2, hR2, sc2⟩ := hg.keep hi hM hR hI.sc
    refine k _ _ sc2 (fun Y hY => S280 hw hM2 hR2 sS sU ab (fun e => (dno hd h12 (ex ▸ e)).elim) (fun d' hd' ex' q' => (q' (by rw [d_one h12 hd hd' ex ex']; exact ⟨qa, qb⟩)).elim) (fun d' hd' ex' q1 q2 g2 rh hR3 f2 => ?_))
    have ed := d_one h12 hd hd' ex ex'
    subst ed
    exact hY _ (hI.hand hz l r se hg hC2 rh hR3 f2 (St_st h12 (St_or sS (St_bit hd (by omega)) (by omega))) (St_or sU (St_bit hd (by omega)) (by omega)) (sb_st h12 (sb_or (sb_trans hU (sb_or_l _ _)) (sb_or_r _ _))))
theorem Q171 (hI : Inv L xs h z) (hz : z < 1000) (k : Jn L xs z (W281 x) D) : W171 x h D := by
  obtain ⟨G, c, i, M, N, cn, S, U, W, kk, A, s, r, se, l, hi, cur, hw, hc, hM, hC, hR, hk, sS, sU, hU, ab, -⟩ := hI.lev
  have h12 := hw.n12
  refine S171 hw hi cur hc (by omega) hC sS sU (fun e => ?_) (fun d hd ex q => ?_) (fun d hd ex qa qb g hg hC2 => ?_)
  · exact k.st hI hz (fun Y hY => S281 hw (hM.s0 _) (hR.s0 _) sS sU ab (fun _ => hY) (fun d hd ex => (dno hd h12 (ex ▸ e)).elim) (fun d hd ex => (dno hd h12 (ex ▸ e)).elim))
  · exact k.st hI hz (fun Y hY => S281 hw (hM.s0 _) (hR.s0 _) sS sU ab (fun e => (dno hd h12 (ex ▸ e)).elim) (fun d' hd' ex' _ => hY) (fun d' hd' ex' q1 q2 => (q (d_one h12 hd hd' ex ex' ▸ ⟨q1, q2⟩)).elim))
  · obtain ⟨hM2, hR2, sc2⟩ := hg.keep hi hM hR hI.sc
    refine k _ _ sc2 (fun Y hY => S281 hw hM2 hR2 sS sU ab (fun e => (dno hd h12 (ex ▸ e)).elim) (fun d' hd' ex' q' => (q' (by rw [d_one h12 hd hd' ex ex']; exact ⟨qa, qb⟩)).elim) (fun d' hd' ex' q1 q2 g2 rh hR3 f2 => ?_))
    have ed := d_one h12 hd hd' ex ex'
    subst ed
    exact hY _ (hI.hand hz l r se hg hC2 rh hR3 f2 (St_st h12 (St_and _ sS (by omega))) (St_and _ sU (by omega)) (sb_st h12 (sb_nob hU)))
end HND
