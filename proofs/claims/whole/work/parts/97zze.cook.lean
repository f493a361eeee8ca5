/-! empty, cook, cooked, judged, odds, fault -/
section CKS
variable {h g h2 g2 : TH} {L z c i t : Nat} {xs : Nat → Int32} {G : Int32 → Nat → Int32} {T S : Nat → Prop} {D : Int32 → TH → Prop} {x y : Int32} {M : Nat → Int32}
theorem S283 {C : Int32 → TH → Prop} (k : ∀ g, Sm (fun a => a = 198) h g → (∀ j, 2 ≤ j → j ≤ 5 → g.I 198 j = 0) → (∀ j, (j < 2 ∨ 5 < j) → g.I 198 j = h.I 198 j) → C 1 (g.sI 197 2 0)) : W283 h C := by
  unfold W283 B283_2
  refine LFP.up 6 (fun (j : Nat) (q : Int32 × TH) => q.1 = nI j ∧ 2 ≤ j ∧ Sm (fun a => a = 198) h q.2 ∧ (∀ e, 2 ≤ e → e < j → q.2.I 198 e = 0) ∧ ∀ e, (e < 2 ∨ 5 < e) → q.2.I 198 e = h.I 198 e) ?_ ?_ (show 2 ≤ 6 by omega) ⟨rfl, Nat.le_refl _, Sm.refl, fun e h1 h2 => by omega, fun _ _ => rfl⟩
  · rintro X j ⟨x1, g⟩ hj ⟨e1, j2, e2, e3, e4⟩ ih
    dsimp only at e1 e2 e3 e4
    subst e1
    unfold F283_2
    dsimp only
    rw [if_neg (show ¬ (5 : Int32) < nI j from fun w => by have := (nI_ltI (a := 5) (b := j) (by omega) (by omega)).mp w; omega), ix_n (by omega)]
    refine ⟨inb_n (by omega), ih _ ⟨nI_1 j, by omega, Sm.sI (S := fun a => a = 198) e2 rfl 0, fun e h1 h2 => ?_, fun e he => ?_⟩⟩
    · by_cases ee : e = j
      · subst ee; exact I_eq
      · show (g.sI 198 j 0).I 198 e = 0
        rw [I_nk ee]; exact e3 e h1 (by omega)
    · show (g.sI 198 j 0).I 198 e = _
      rw [I_nk (by omega)]; exact e4 e he
  · rintro X ⟨x1, g⟩ ⟨e1, -, e2, e3, e4⟩
    dsimp only at e1 e2 e3 e4
    subst e1
    unfold F283_2 W204
    dsimp only
    rw [if_pos (show (5 : Int32) < nI 6 by decide), if_neg (by decide)]
    exact ⟨Or.inr rfl, k g e2 (fun j h1 h2 => e3 j h1 (by omega)) e4⟩
theorem Q173 (hI : Inv L xs h z) (hz : z < 1000) (k : Jn L xs z W283 D) : W173 h D := by
  obtain ⟨G, c, i, M, N, cn, S, U, W, kk, A, s, r, se, l, hi, cur, hw, hc, hM, hC, hR, hk, sS, sU, hU, ab, -⟩ := hI.lev
  have h12 := hw.n12
  have hn := hI.nn
  have cur' : ix (h.I 0 10) = i := by rw [cur, ix_n (by omega)]
  have hin : inb (h.I 0 10) 4 := by rw [cur]; exact inb_n hi
  unfold W173 W196
  dsimp only
  rw [cur']
  refine ⟨hin, S14 (fun g p p1 p2 p3 => ⟨Or.inr rfl, ?_⟩)⟩
  have hg : HG h (g.sI 0 0 0) (65 + 24 * i) := ⟨Sm.sI (S := fun a => a = 0 ∨ a = 65 + 24 * i ∨ a = 65 + 24 * i + 1) (p.mono (fun a ha => Or.inr (Or.inl ha))) (Or.inl rfl) 0, I_eq, fun j hj => by rw [I_nk hj, p.I (by omega)]⟩
  have n0 : ∀ d, d < aN M → bt 0 d = true → False := fun d _ q => by rw [bt_0] at q; exact absurd q (by decide)
  have hC2 : HCs (g.sI 0 0 0) (65 + 24 * i) M 0 0 0 0 (fun _ => 0) := by
    have f : ∀ j, j < 12 → j ≠ 2 → j ≠ 6 → (g.sI 0 0 0).I (65 + 24 * i) j = 0 := fun j h1 h2 h3 => by rw [I_sI, if_neg (by omega)]; exact p1 j h1 h2 h3
    exact ⟨f 0 (by omega) (by omega) (by omega), f 1 (by omega) (by omega) (by omega), f 3 (by omega) (by omega) (by omega), f 4 (by omega) (by omega) (by omega), f 10 (by omega) (by omega) (by omega), fun d hd q => (n0 d hd q).elim⟩
  obtain ⟨hM2, hR2, sc2⟩ := hg.keep hi hM hR hI.sc
  refine k _ _ sc2 (fun Y hY => S283 (fun g2 u1 u2 u3 => hY _ ?_))
  refine hI.hand2 (k2 := 0) (by omega) hz l r se hg hC2 (g := g2.sI 197 2 0) ⟨Sm.sI (S := fun a => a = 197 ∨ a = 198 ∨ a = 206) (u1.mono (fun a ha => Or.inr (Or.inl ha))) (Or.inl rfl) 0, fun j j1 j2 => by rw [I_nk j1, u1.I (by omega)], fun j j1 j2 => by rw [I_sI, if_neg (by omega), u3 j j1]⟩ ⟨?_, ?_, ?_, ?_, fun d hd q => (n0 d hd q).elim⟩ I_eq (St_0 _) (St_0 _) (sb_zero _)
  · rw [I_sI, if_neg (by omega), u2 2 (by omega) (by omega)]
  · rw [I_sI, if_neg (by omega), u2 3 (by omega) (by omega)]
  · rw [I_sI, if_neg (by omega), u2 4 (by omega) (by omega)]
  · rw [I_sI, if_neg (by omega), u2 5 (by omega) (by omega)]; rfl
/-- plans are run over on both sides -/
theorem Inv.ck (hI : Inv L xs h z) (hz : z < 1000) (r : Rst L xs h z G c i) (se : Se h G c) (p : Gr T h g) (hT : ∀ a, T a → a = 0 ∨ a = 58 + 24 * i ∨ a = 63 + 24 * i ∨ a = 64 + 24 * i ∨ (193 ≤ a ∧ a ≤ 198) ∨ a = 206 ∨ a = 219 ∨ a = 220 ∨ a = 221) (f58 : ∀ j, j < 2 → g.I (58 + 24 * i) j = h.I (58 + 24 * i) j) (f0 : g.I 0 10 = h.I 0 10) (f197 : ∀ j, (j = 10 ∨ j = 16 ∨ j = 17 ∨ j = 30 ∨ j = 55) → g.I 197 j = h.I 197 j) (f198 : ∀ j, g.I 198 j = h.I 198 j) (ck : Ckd g) (st : Stt g) (hN : g.n = h.n ∧ g.sl = h.sl) : Inv L xs g (z + 1) := by
  have hn := hI.nn
  obtain ⟨r1, r2, r3, r4, r5, r6, r7, y1, y2, y3, y4, y5⟩ := id r
  have F : ∀ a, a < 222 → ¬ (a = 0 ∨ a = 58 + 24 * i ∨ a = 63 + 24 * i ∨ a = 64 + 24 * i ∨ (193 ≤ a ∧ a ≤ 198) ∨ a = 206 ∨ a = 219 ∨ a = 220 ∨ a = 221) → g.I a = h.I a ∧ g.J a = h.J a := fun a h1 h2 => by
    have := p.2.2 a (by omega) (fun w => h2 (hT a w))
    exact ⟨this.1, this.2.1⟩
  have sp : ∀ a, (a = 9 ∨ a = 10 ∨ a = 11 ∨ a = 15 ∨ a = 203 ∨ a = 199 ∨ a = 209 ∨ a = 210 ∨ a = 211) → g.I a = h.I a ∧ g.J a = h.J a := fun a ha => F a (by omega) (by omega)
  refine ⟨st, G, c, i, r.cur p (fun a ha => by have := hT a ha; unfold spare; omega) ⟨by omega, by omega⟩ hz (r1.fr (fun j hj => by rw [(sp 9 (by omega)).1]) (sp 10 (by omega)).1 (sp 11 (by omega)).2 (fun j hj => f197 j (by omega)) (sp 203 (by omega)).1) ck f0 (f197 55 (by omega)) (fun k _ _ => f198 k) (fun k _ _ => by rw [(sp 199 (by omega)).2]) (fun _ _ => rfl) ⟨Nat.le_refl _, by omega, by rw [(sp 15 (by omega)).1]; exact r7.1⟩ (y4.fr (fun a a1 a2 a3 a4 a5 => (F a (by omega) (by omega)).1) (F _ (by omega) (by omega)).2 f58 (fun k hk => f198 k) (fun k hk => by rw [(sp 199 (by omega)).2]) (by omega)), se.gr p hn.1 (fun a ha => by have := hT a ha; unfold outS; omega) ⟨f197 30 (by omega), (sp 209 (by omega)).1, (sp 210 (by omega)).1, (sp 211 (by omega)).1⟩⟩
theorem MP.eq {h g : TH} (m : MP h M) (e : ∀ j, g.I 198 j = h.I 198 j) : MP g M := ⟨by rw [e]; exact m.1, fun k h1 h2 => by rw [e]; exact m.2 k h1 h2⟩
theorem plan_no {cn : Nat} (pi : PI M (aN M) cn []) (e : M 6 = -1) : False := by
  have n60 := pi.n60
  rw [pi.1] at e
  exact nI_ne1 (by omega) e
/-- where a plan stands: on both sides or on neither -/
theorem Cur.plan {cn k : Nat} {S U W : Int32} {A : Nat → Nat} (cu : Cur h i M cn S U W k A) : (h.I (58 + 24 * i) 0 = 0 ∧ h.I 198 6 = -1) ∨ (¬ h.I (58 + 24 * i) 0 = 0 ∧ ¬ h.I 198 6 = -1 ∧ PlC h i M cn ∧ MP h M ∧ PI M (aN M) cn []) := by
  obtain ⟨-, -, -, -, -, -, -, -, -, -, -, -, pl, -⟩ := cu
  refine pl.imp id (fun w => ⟨by rw [w.1.1]; decide, fun e => plan_no w.1.2.2.1 (w.2.1.symm.trans e), w.1, w.2, w.1.2.2.1⟩)
theorem Q186 (hI : Inv L xs h z) (hz : z < 1000) (k : Jn L xs z (W319 x) D) : W186 x h D := by
  obtain ⟨G, c, i, M, N, cn, S, U, W, kk, A, s0, r, se, l, cu⟩ := hI.lev
  have pl := cu.plan
  obtain ⟨hi, cur, hw, hc, hM, -⟩ := id cu
  have hn := hI.nn
  have l99 : (9999 : Int32) = nI 9999 := rfl
  have bad : (x < -1 ∨ ¬ x ≤ 9999) → ∀ {h : TH} {Y : Int32 → TH → Prop}, Y (-1) (h.sI 197 2 1) → W319 x h Y := fun e {h} {Y} hY => by
    unfold W319
    by_cases e1 : x = -1
    · rw [e1] at e; exact absurd e (by decide)
    rw [if_neg e1]
    refine S215 0 9999 (by omega) (by omega) rfl rfl (fun p ep _ p2 => ?_) (fun _ => ?_)
    · rcases e with e | e
      · rw [ep] at e; exact absurd (Int32.lt_trans e (by decide)) (nI_pos (by omega))
      · rw [ep, l99, nI_leI (by omega) (by omega)] at e; omega
    · rw [if_neg (fun n => n rfl)]; exact hY
  by_cases R : x < -1 ∨ ¬ x ≤ 9999
  · have : W186 x h D := by
      unfold W186 W194
      have w : D (-1) (h.sI 0 0 1) := k.st hI hz (fun Y hY => bad R hY)
      by_cases q : x < -1
      · rw [if_pos q]; exact w
      · rw [if_neg q, if_neg (R.resolve_left q)]; exact w
    exact this
  have pl1 : h.I (58 + 24 * i) 0 = 0 ∨ PlC h i M cn := pl.imp (fun w => w.1) (fun w => w.2.2.1)
  refine S186 hw hi cur hc pl1 (fun e => (R e).elim) (fun e => ?_) (fun p g s hs p1 p2 p3 p4 p5 p6 => ?_)
  · rcases pl with w | w
    · refine k.st hI hz (fun Y hY => S319 (cn := cn) hw (hM.s0 _) (Or.inl w.2) (fun e => (R e).elim) (fun _ => hY) (fun mp pi g s hs rc e1 e2 e3 => ?_))
      exact (plan_no pi (mp.1.symm.trans w.2)).elim
    · exact (w.1 e).elim
  · rcases pl with w | ⟨w1, w2, w3, w4, w5⟩
    · exact absurd (p.1.symm.trans w.1) (by decide)
    have e198 : g.I 198 = h.I 198 := p1.I (by unfold inCk; omega)
    have hMg : MA g M := fun k hk => by rw [e198]; exact hM k hk
    refine k _ _ (hI.sc.gr p1.gr (by unfold inCk; omega)) (fun Y hY => S319 hw hMg (Or.inr ⟨w4.eq (fun j => by rw [e198]), w5⟩) (fun e => (R e).elim) (fun e => (w2 (by rw [← e198]; exact e)).elim) (fun mp pi g2 s2 hs2 rc u1 u2 u3 => ?_))
    obtain ⟨F, hF⟩ := hs
    obtain ⟨F2, hF2⟩ := hs2
    have es := prun_one hF2 hF
    subst es
    obtain ⟨c1, c2, c3⟩ := rc
    have sm : Sm (fun a => (a = 0 ∨ inCk i 193 a) ∨ (a = 197 ∨ a = 198 ∨ a = 206 ∨ a = 219 ∨ a = 220 ∨ a = 221)) h g2 := (p1.mono (fun a ha => Or.inl ha)).trans (c1.mono (fun a ha => Or.inr ha))
    have st := hI.1
    refine hY _ (hI.ck hz r se sm.gr (fun a ha => by unfold inCk at ha; omega) (fun j hj => by rw [c1.I (by omega), p2 j (by omega) (by omega)]) (by rw [c1.I (by omega), p6 10 (by omega) (by omega)]) (fun j hj => by rw [c2 j (by omega) (by omega) (by omega) (by omega) (by omega) (by omega), p1.I (by unfold inCk; omega)]) (fun j => by rw [c3, e198]) ?_ ⟨?_, by rw [sm.J0, sm.J197]; exact st.2.1, by rw [sm.J0, sm.J197]; exact st.2.2⟩ ⟨sm.n, sm.sl⟩)
    · right
      refine ⟨by rw [c1.I (by omega), p4]; decide, by rw [u2]; decide, M, drF x, s2, ?_, u1⟩
      unfold CKc sncS at p3 ⊢
      rw [c1.I (a := 193) (by omega), c1.I (a := 193 + 1) (by omega)]; exact p3
    · rw [c1.I (by omega), p5, u3]
theorem Q187 (hI : Inv L xs h z) (hz : z < 1000) (k : Jn L xs z (W320 x) D) : W187 x h D := by
  obtain ⟨-, G, c, i, ⟨-, ck, -⟩, -⟩ := id hI
  by_cases q : x < 0
  · unfold W187
    rw [if_pos q]
    refine k.st hI hz (fun Y hY => ?_)
    unfold W320; rw [if_pos q]; exact hY
  by_cases q2 : x ≤ 6
  · have R : ¬ (x < 0 ∨ ¬ x ≤ 6) := fun e => e.elim q (fun e => e q2)
    rcases ck with ⟨c1, c2⟩ | ⟨c1, c2, M, dr, s, c3, c4⟩
    · refine S187 (M := fun _ => 0) (s := ck0 0) (dr := 0) (fun e => (R e).elim) (fun _ => ?_) (fun n => (n c1).elim) (fun n => (n c1).elim)
      exact k.st hI hz (fun Y hY => S320 (fun e => (R e).elim) (fun _ => hY) (fun n => (n c2).elim))
    · refine S187 (fun e => (R e).elim) (fun e => (c1 e).elim) (fun _ => c3) (fun _ j hj ex => ?_)
      refine k.st hI hz (fun Y hY => S320 (fun e => (R e).elim) (fun e => (c2 e).elim) (fun _ j' hj' ex' => ?_))
      have ej : j' = j := (nI_eq (by omega) (by omega)).mp (ex'.symm.trans ex)
      subst ej
      rw [show (h.sI 0 0 0).I 221 j' = _ from c4 j' hj]; exact hY
  · unfold W187
    rw [if_neg q, if_neg q2]
    refine k.st hI hz (fun Y hY => ?_)
    unfold W320; rw [if_neg q, if_neg q2]; exact hY
theorem Q188 (hI : Inv L xs h z) (hz : z < 1000) (k : Jn L xs z W321 D) : W188 h D := by
  obtain ⟨G, c, i, M, N, cn, S, U, W, kk, A, s0, r, se, l, cu⟩ := hI.lev
  have pl := cu.plan
  obtain ⟨hi, cur, hw, hc, hM, -⟩ := id cu
  have hn := hI.nn
  have pl1 : h.I (58 + 24 * i) 0 = 0 ∨ PlC h i M cn := pl.imp (fun w => w.1) (fun w => w.2.2.1)
  refine S188 hw hi cur hc pl1 (fun e => ?_) (fun p g s hs p1 p2 p3 => ?_)
  · rcases pl with w | w
    · refine k.st hI hz (fun Y hY => S321 (cn := cn) hw (hM.s0 _) (Or.inl w.2) (fun _ => hY) (fun mp pi g s hs rc e1 => ?_))
      exact (plan_no pi (mp.1.symm.trans w.2)).elim
    · exact (w.1 e).elim
  · rcases pl with w | ⟨w1, w2, w3, w4, w5⟩
    · exact absurd (p.1.symm.trans w.1) (by decide)
    have key : ∀ v st : Int32, (∀ {h : TH} {Y : Int32 → TH → Prop}, Y v (h.sI 197 2 st) → W288 (ckF s) h Y) → D v (g.sI 0 0 st) := fun v st hv => by
      have p1' : Sm (fun a => a = 0 ∨ inCk i 195 a) h (g.sI 0 0 st) := Sm.sI (S := fun a => a = 0 ∨ inCk i 195 a) (p1.mono (fun a ha => Or.inr ha)) (Or.inl rfl) st
      have e198 : (g.sI 0 0 st).I 198 = h.I 198 := p1'.I (by unfold inCk; omega)
      have hMg : MA (g.sI 0 0 st) M := fun k hk => by rw [e198]; exact hM k hk
      refine k _ _ (hI.sc.gr p1'.gr (by unfold inCk; omega)) (fun Y hY => S321 hw hMg (Or.inr ⟨w4.eq (fun j => by rw [e198]), w5⟩) (fun e => (w2 (by rw [← e198]; exact e)).elim) (fun mp pi g2 s2 hs2 rc rn => ?_))
      obtain ⟨F, hF⟩ := hs
      obtain ⟨F2, hF2⟩ := hs2
      have es := prun_one hF2 hF
      subst es
      refine hv (hY _ ?_)
      obtain ⟨c1, c2, c3⟩ := rc
      have sm : Sm (fun a => (a = 0 ∨ inCk i 195 a) ∨ (a = 197 ∨ a = 198 ∨ a = 206 ∨ a = 219 ∨ a = 220)) h (g2.sI 197 2 st) := Sm.sI (S := fun a => (a = 0 ∨ inCk i 195 a) ∨ (a = 197 ∨ a = 198 ∨ a = 206 ∨ a = 219 ∨ a = 220)) ((p1'.mono (fun a ha => Or.inl ha)).trans (c1.mono (fun a ha => Or.inr ha))) (Or.inr (Or.inl rfl)) st
      have stt := hI.1
      have f197 : ∀ j, j ≠ 2 → j ≠ 25 → (j < 40 ∨ 48 < j) → j ≠ 53 → j ≠ 54 → (g2.sI 197 2 st).I 197 j = h.I 197 j := fun j h1 h2 h3 h4 h5 => by rw [I_nk h1, c2 j h2 h3 h4 h5, p1'.I (by unfold inCk; omega)]
      have f0 : ∀ j, j ≠ 0 → (g2.sI 197 2 st).I 0 j = h.I 0 j := fun j hj => by rw [I_sI, if_neg (by omega), c1.I (by omega), I_nk hj, p1.I (by unfold inCk; omega)]
      refine hI.ck hz r se sm.gr (fun a ha => by unfold inCk at ha; omega) (fun j hj => by rw [I_sI, if_neg (by omega), c1.I (by omega), I_sI, if_neg (by omega), p2 j (by omega) (by omega)]) (f0 10 (by omega)) (fun j hj => f197 j (by omega) (by omega) (by omega) (by omega) (by omega)) (fun j => by rw [I_sI, if_neg (by omega), c3, e198]) ?_ ⟨?_, by rw [sm.J0, sm.J197]; exact stt.2.1, by rw [sm.J0, sm.J197]; exact stt.2.2⟩ ⟨sm.n, sm.sl⟩
      · exact r.2.1.fr (f0 19 (by omega)) (f197 52 (by omega) (by omega) (by omega) (by omega) (by omega)) (sm.I (by unfold inCk; omega)) (sm.I (by unfold inCk; omega)) (sm.I (by unfold inCk; omega))
      · rw [I_eq, I_sI, if_neg (by omega), c1.I (by omega), I_eq]
    unfold W195 W193 W194
    by_cases q : ckF s = -1
    · rw [if_neg (fun n => n q)]
      refine key _ _ (fun {h} {Y} hY => ?_)
      unfold W288 W205; rw [if_neg (fun n => n q)]; exact hY
    · rw [if_pos q]
      refine key _ _ (fun {h} {Y} hY => ?_)
      unfold W288 W206; rw [if_pos q]; exact hY
theorem Q189 {w : Int32} (hI : Inv L xs h z) (hz : z < 1000) (k : Jn L xs z (W322 x y w) D) : W189 x y w h D := by
  obtain ⟨G, c, i, M, N, cn, S, U, W, kk, A, s0, r, se, l, cu⟩ := hI.lev
  have pl := cu.plan
  obtain ⟨hi, cur, hw, hc, hM, -⟩ := id cu
  have hn := hI.nn
  have h12 := hw.n12
  have cur' : ix (h.I 0 10) = i := by rw [cur, ix_n (by omega)]
  have hin : inb (h.I 0 10) 4 := by rw [cur]; exact inb_n hi
  unfold W189 B189_41 W192 W197
  dsimp only
  rw [cur']
  refine ⟨hin, S56 hw hc.1 (fun hg => ?_) (fun e => ?_)⟩
  · rw [if_neg (by decide)]
    have ref : ∀ {h : TH} {Y : Int32 → TH → Prop}, MA h M → (W215 (y.toInt64) (0 : Int64) (9999 : Int64) h (fun v4 => if v4 = 0 then (W204 1 h (fun v5 h6 => (v5 = 0 ∨ v5 = 1) ∧ Y v5 h6)) else (W215 (w.toInt64) (1 : Int64) (30 : Int64) h (fun v7 => if v7 = 0 then (W204 1 h (fun v8 h9 => (v8 = 0 ∨ v8 = 1) ∧ Y v8 h9)) else (if ((y + w) - 1) ≤ 9999 then (if ¬ (h.I 198 (ix 6)) = (-1) then (B322_73 x y w 0 0 h Y) else (W204 6 h (fun v10 h11 => (v10 = 0 ∨ v10 = 1) ∧ Y v10 h11))) else (W204 1 h (fun v12 h13 => (v12 = 0 ∨ v12 = 1) ∧ Y v12 h13))))))) → W322 x y w h Y := fun {h} {Y} hM v => by
      unfold W322
      refine S249 hw hM (fun _ => ?_) (fun e => (hg.no h12 e).elim)
      rw [if_neg (by decide)]; exact v
    have r4 : ∀ {s : Int32} {h : TH} {Y : Int32 → TH → Prop}, ¬ s = 0 → Y 0 (h.sI 197 2 s) → W204 s h (fun v5 h6 => (v5 = 0 ∨ v5 = 1) ∧ Y v5 h6) := fun {s} {h} {Y} hs hY => by
      unfold W204; rw [if_pos hs]; exact ⟨Or.inl rfl, hY⟩
    have bad1 : (y < nI 0 ∨ nI 9999 < y) → ((0 : Int32) = 0 ∨ (0 : Int32) = 1) ∧ D 0 (h.sI 0 0 1) := fun q => ⟨Or.inl rfl, k.st hI hz (fun Y hY => ref (hM.s0 _) (by
      refine S215 0 9999 (by omega) (by omega) rfl rfl (fun p e p1 p2 => ?_) (fun _ => ?_)
      · rw [e, nI_ltI (by omega) (by omega), nI_ltI (by omega) (by omega)] at q; omega
      · rw [if_pos rfl]; exact r4 (by decide) hY))⟩
    by_cases y0 : y < 0
    · rw [if_pos y0]; exact bad1 (Or.inl y0)
    rw [if_neg y0]
    obtain ⟨sd, hsd, ey⟩ := nI_of y0
    subst ey
    have bad2 : (w < nI 1 ∨ nI 30 < w) → ((0 : Int32) = 0 ∨ (0 : Int32) = 1) ∧ D 0 (h.sI 0 0 1) := fun q => ⟨Or.inl rfl, k.st hI hz (fun Y hY => ref (hM.s0 _) (by
      refine S215 0 9999 (by omega) (by omega) rfl rfl (fun p e p1 p2 => ?_) (fun _ => ?_)
      · rw [if_neg (by decide)]
        refine S215 1 30 (by omega) (by omega) rfl rfl (fun p e p1 p2 => ?_) (fun _ => ?_)
        · rw [e, nI_ltI (by omega) (by omega), nI_ltI (by omega) (by omega)] at q; omega
        · rw [if_pos rfl]; exact r4 (by decide) hY
      · rw [if_pos rfl]; exact r4 (by decide) hY))⟩
    by_cases w1 : w < 1
    · rw [if_pos w1]; exact bad2 (Or.inl w1)
    rw [if_neg w1]
    by_cases w30 : 30 < w
    · rw [if_pos w30]; exact bad2 (Or.inr w30)
    rw [if_neg w30]
    obtain ⟨m, hm, ew⟩ := nI_of2 (x := w) (n := 30) (M := 30) rfl (fun v => w1 (Int32.lt_trans v (by decide))) (Int32.not_lt.mp w30)
    have hm1 : 1 ≤ m := Nat.pos_of_ne_zero (fun e => w1 (by rw [ew, e]; decide))
    subst ew
    have e1 : (9999 : Int32) - nI m + 1 = nI (9999 - m + 1) := by
      rw [show (9999 : Int32) = nI 9999 from rfl, pk_sub (by omega), nI_1]
    have e2 : nI sd + nI m - 1 = nI (sd + m - 1) := by
      rw [nI_add, show (1 : Int32) = nI 1 from rfl, pk_sub (by omega)]
    rw [e1]
    by_cases big : 10000 - m < sd
    · rw [if_pos ((nI_ltI (by omega) hsd).mpr (by omega))]
      by_cases b2 : 9999 < sd
      · exact bad1 (Or.inr ((nI_ltI (by omega) hsd).mpr b2))
      · refine ⟨Or.inl rfl, k.st hI hz (fun Y hY => ref (hM.s0 _) ?_)⟩
        refine S215 0 9999 (by omega) (by omega) rfl rfl (fun p e p1 p2 => ?_) (fun q => ?_)
        · rw [if_neg (by decide)]
          refine S215 1 30 (by omega) (by omega) rfl rfl (fun p e p1 p2 => ?_) (fun q => ?_)
          · rw [if_neg (by decide), e2, if_neg (show ¬ nI (sd + m - 1) ≤ 9999 from fun v => by have := (nI_leI (b := 9999) (by omega) (by omega)).mp v; omega)]
            exact r4 (by decide) hY
          · rw [nI_ltI (by omega) (by omega), nI_ltI (by omega) (by omega)] at q; omega
        · rw [nI_ltI (by omega) (by omega), nI_ltI (by omega) (by omega)] at q; omega
    · rw [if_neg (fun v => big (by have := (nI_ltI (by omega) hsd).mp v; omega))]
      refine ⟨hin, ?_⟩
      have ok : ∀ {h : TH} {Y : Int32 → TH → Prop}, MA h M → (if ¬ (h.I 198 (ix 6)) = (-1) then (B322_73 x (nI sd) (nI m) 0 0 h Y) else (W204 6 h (fun v10 h11 => (v10 = 0 ∨ v10 = 1) ∧ Y v10 h11))) → W322 x (nI sd) (nI m) h Y := fun {h} {Y} hMh v => ref hMh (by
        refine S215 0 9999 (by omega) (by omega) rfl rfl (fun p e p1 p2 => ?_) (fun q => ?_)
        · rw [if_neg (by decide)]
          refine S215 1 30 (by omega) (by omega) rfl rfl (fun p e p1 p2 => ?_) (fun q => ?_)
          · rw [if_neg (by decide), e2, if_pos (show nI (sd + m - 1) ≤ 9999 from (nI_leI (b := 9999) (by omega) (by omega)).mpr (by omega))]; exact v
          · rw [nI_ltI (by omega) (by omega), nI_ltI (by omega) (by omega)] at q; omega
        · rw [nI_ltI (by omega) (by omega), nI_ltI (by omega) (by omega)] at q; omega)
      rcases pl with q | ⟨q1, q2, q3, q4, q5⟩
      · rw [if_neg (fun n => n q.1)]
        refine ⟨Or.inl rfl, k.st hI hz (fun Y hY => ok (hM.s0 _) ?_)⟩
        rw [if_neg (fun n => n (show (h.sI 0 0 6).I 198 (ix 6) = -1 from q.2))]; exact r4 (by decide) hY
      · rw [if_pos q1]
        refine S189l hw hi cur hc q3 hm1 hm (by omega) (fun g cn1 od p1 p2 => ?_)
        have e198 : g.I 198 = h.I 198 := p1.I (by unfold inCk; omega)
        generalize eA : lN (cn1 / Nat.gcd cn1 m) = A1
        generalize eB : lN (m / Nat.gcd cn1 m) = B1
        have hMc : MA (((g.sJ 0 1 A1).sJ 0 2 B1).sI 0 0 0) M := fun k hk => by
          show g.I 198 k = _
          rw [e198]; exact hM k hk
        have hsc := hI.sc.gr p1.gr (by unfold inCk; omega)
        refine k _ _ hsc (fun Y hY => ok hMc ?_)
        rw [if_pos (show ¬ (((g.sJ 0 1 A1).sJ 0 2 B1).sI 0 0 0).I 198 (ix 6) = -1 from fun e => q2 (by rw [← e198]; exact e))]
        refine S322l hw hMc q5 (q4.eq (fun j => by show g.I 198 j = _; rw [e198])) hm1 hm (by omega) (fun g2 cn2 od2 rc => hY _ ?_)
        rw [odd_one od2 od, eA, eB]
        obtain ⟨c1, c2, c3⟩ := rc
        have q : Gr (fun a => (a = 0 ∨ inCk i 195 a) ∨ (a = 197 ∨ a = 198 ∨ a = 206 ∨ a = 219 ∨ a = 220)) h (((g2.sJ 197 3 A1).sJ 197 4 B1).sI 197 2 0) := by
          have v1 : Gr (fun a => (a = 0 ∨ inCk i 195 a) ∨ (a = 197 ∨ a = 198 ∨ a = 206 ∨ a = 219 ∨ a = 220)) g (((g.sJ 0 1 A1).sJ 0 2 B1).sI 0 0 0) := Gr.trans (Gr.trans ((gr_sJ _ _ _ _).mono (fun a ha => Or.inl (Or.inl ha))) ((gr_sJ _ _ _ _).mono (fun a ha => Or.inl (Or.inl ha)))) ((sm1 _ _ _ _).gr.mono (fun a ha => Or.inl (Or.inl ha)))
          have v2 : Gr (fun a => (a = 0 ∨ inCk i 195 a) ∨ (a = 197 ∨ a = 198 ∨ a = 206 ∨ a = 219 ∨ a = 220)) g2 (((g2.sJ 197 3 A1).sJ 197 4 B1).sI 197 2 0) := Gr.trans (Gr.trans ((gr_sJ _ _ _ _).mono (fun a ha => Or.inr (Or.inl ha))) ((gr_sJ _ _ _ _).mono (fun a ha => Or.inr (Or.inl ha)))) ((sm1 _ _ _ _).gr.mono (fun a ha => Or.inr (Or.inl ha)))
          exact Gr.trans (Gr.trans (Gr.trans (p1.gr.mono (fun a ha => Or.inl (Or.inr ha))) v1) (c1.gr.mono (fun a ha => Or.inr ha))) v2
        have e0 : ∀ j, g2.J 0 j = if j = 2 then B1 else if j = 1 then A1 else g.J 0 j := fun j => by
          rw [c1.J0, J_sI, J_sJ, J_sJ]
          by_cases j2 : j = 2
          · rw [if_pos ⟨rfl, j2⟩, if_pos j2]
          · rw [if_neg (fun w => j2 w.2), if_neg j2]
            by_cases j1 : j = 1
            · rw [if_pos ⟨rfl, j1⟩, if_pos j1]
            · rw [if_neg (fun w => j1 w.2), if_neg j1]
        have fI : ∀ a j, (a = 197 → j ≠ 2) → (((g2.sJ 197 3 A1).sJ 197 4 B1).sI 197 2 0).I a j = g2.I a j := fun a j hj => by rw [I_sI, if_neg (fun w => hj w.1 w.2)]; rfl
        have f197 : ∀ j, j ≠ 2 → j ≠ 25 → (j < 40 ∨ 48 < j) → j ≠ 53 → j ≠ 54 → (((g2.sJ 197 3 A1).sJ 197 4 B1).sI 197 2 0).I 197 j = h.I 197 j := fun j h1 h2 h3 h4 h5 => by
          rw [fI 197 j (fun _ => h1), c2 j h2 h3 h4 h5]; show g.I 197 j = _; rw [p1.I (by unfold inCk; omega)]
        have f0 : ∀ j, j ≠ 0 → (((g2.sJ 197 3 A1).sJ 197 4 B1).sI 197 2 0).I 0 j = h.I 0 j := fun j hj => by
          rw [fI 0 j (by omega), c1.I (by omega), I_nk hj]; show g.I 0 j = _; rw [p1.I (by unfold inCk; omega)]
        have fa : ∀ a, ¬ ((a = 0 ∨ inCk i 195 a) ∨ (a = 197 ∨ a = 198 ∨ a = 206 ∨ a = 219 ∨ a = 220)) → a < 222 → (((g2.sJ 197 3 A1).sJ 197 4 B1).sI 197 2 0).I a = h.I a := fun a h1 h2 => q.i (by omega) h1
        refine hI.ck hz r se q (fun a ha => by unfold inCk at ha; omega) (fun j hj => ?_) (f0 10 (by omega)) (fun j hj => f197 j (by omega) (by omega) (by omega) (by omega) (by omega)) (fun j => ?_) ?_ ⟨?_, ?_, ?_⟩ ⟨?_, ?_⟩
        · rw [fI _ j (by omega), c1.I (by omega), I_sI, if_neg (by omega)]; exact p2 j (by omega) (by omega)
        · rw [fI _ j (by omega), c3]; show g.I 198 j = _; rw [e198]
        · exact r.2.1.fr (f0 19 (by omega)) (f197 52 (by omega) (by omega) (by omega) (by omega) (by omega)) (fa 193 (by unfold inCk; omega) (by omega)) (fa 194 (by unfold inCk; omega) (by omega)) (fa 221 (by unfold inCk; omega) (by omega))
        · rw [I_eq, fI 0 0 (by omega), c1.I (by omega), I_eq]
        · rw [J_sI, J_sJ, if_neg (by omega), J_sJ, if_neg (by omega), e0, if_neg (by omega), if_pos rfl, J_sJ, if_neg (by omega), J_sJ, if_pos ⟨rfl, rfl⟩]
        · rw [J_sI, J_sJ, if_neg (by omega), J_sJ, if_neg (by omega), e0, if_pos rfl, J_sJ, if_pos ⟨rfl, rfl⟩]
        · exact c1.n.trans p1.n
        · exact c1.sl.trans p1.sl
  · rw [if_pos rfl]
    refine ⟨Or.inl rfl, k.st hI hz (fun Y hY => ?_)⟩
    unfold W322
    refine S249 hw (hM.s0 _) (fun hg => (hg.no h12 e).elim) (fun _ => ?_)
    unfold W204
    rw [if_pos rfl, if_pos (by decide)]; exact ⟨Or.inl rfl, hY⟩
end CKS
