/-! spared, again, first, firstAt -/
section LS2
variable {h g h2 g2 : TH} {L z c i t : Nat} {xs : Nat → Int32} {G : Int32 → Nat → Int32} {T S : Nat → Prop} {D : Int32 → TH → Prop} {x y : Int32} {M : Nat → Int32}
theorem Kept.gr (p : Gr S h g) (hn : 222 ≤ h.n) (hb : h.n ≤ 1000000) (hS : ∀ a, S a → spare a ∨ a = 0 ∨ a = 197) (f0 : ∀ j, (j = 10 ∨ j = 19) → g.I 0 j = h.I 0 j) (f197 : ∀ j, (j = 10 ∨ j = 16 ∨ j = 17 ∨ j = 30 ∨ j = 52 ∨ j = 55) → g.I 197 j = h.I 197 j) : Kept h g := by
  have w : ∀ a, ¬ spare a → a ≠ 0 → a ≠ 197 → (a < h.n ∨ 1000000 ≤ a) ∧ ¬ S a := fun a a1 a2 a3 => ⟨by unfold spare at a1; omega, fun q => (hS a q).elim a1 (fun q => q.elim a2 a3)⟩
  refine ⟨fun a a1 a2 _ _ _ _ _ a3 _ => (p.2.2 a (w a a1 a2 a3).1 (w a a1 a2 a3).2).1, fun a a1 a2 a3 _ _ => (p.2.2 a (w a a1 a2 a3).1 (w a a1 a2 a3).2).2.1, fun a ha => p.2.1 a (by omega), f0, fun j hj => ?_, f197, fun j hj => ?_, fun j hj => ?_, fun j e hj he => ?_⟩
  · have := w 9 (by unfold spare; omega) (by omega) (by omega)
    rw [(p.2.2 _ this.1 this.2).1]
  · have := w 198 (by unfold spare; omega) (by omega) (by omega)
    rw [(p.2.2 _ this.1 this.2).1]
  · have := w 199 (by unfold spare; omega) (by omega) (by omega)
    rw [(p.2.2 _ this.1 this.2).2.1]
  · have := w (58 + 24 * j) (by unfold spare; omega) (by omega) (by omega)
    rw [(p.2.2 _ this.1 this.2).1]
theorem Pst.kept (hI : Inv L xs h z) (se : Se h G c) (ht : six t) (p : Pst h g t) : Kept h g := by
  have hn := hI.nn
  exact Kept.gr p.1 hn.1 (by omega) (fun a ha => Or.inl (sO_sp se (by omega) ht ha)) (fun j hj => by rw [(Pst.out se p ht hn.1 (by omega) (a := 0) (by omega) (by unfold spare; omega)).1]) (fun j hj => by rw [(Pst.out se p ht hn.1 (by omega) (a := 197) (by omega) (by unfold spare; omega)).1])
/-- searches of the class, then status and tops, then the reference -/
theorem Inv.sk3 (hI : Inv L xs h z) (hz : z < 1000) (r : Rst L xs h z G c i) (k1 : Kept h g) (se1 : Se g G c) (hn : h.n ≤ g.n ∧ g.n ≤ h.n + 16 ∧ g.sl ≤ h.sl + 50000) (q : Gr S g g2) (hS : ∀ a, S a → a = 0 ∨ a = 197 ∨ (spare a ∧ outS a)) (f0 : ∀ j, (j = 10 ∨ j = 19) → g2.I 0 j = g.I 0 j) (f197 : ∀ j, (j = 10 ∨ j = 16 ∨ j = 17 ∨ j = 30 ∨ j = 52 ∨ j = 55) → g2.I 197 j = g.I 197 j) (n2 : g2.n = g.n ∧ g2.sl = g.sl) (st : Stt g2) : Inv L xs g2 (z + 1) := by
  have hn0 := hI.nn
  have k2 : Kept g g2 := Kept.gr q (by omega) (by omega) (fun a ha => by rcases hS a ha with w | w | w; exact Or.inr (Or.inl w); exact Or.inr (Or.inr w); exact Or.inl w.1) f0 f197
  have n9 : ∀ a, a = 209 ∨ a = 210 ∨ a = 211 → g2.I a = g.I a := fun a ha => q.i (by omega) (fun w => by have := hS a w; unfold spare outS at this; omega)
  refine ⟨st, G, c, i, r.fr (k1.trans k2) ⟨by omega, by omega, by omega⟩ hz, se1.gr q (by omega) (fun a ha => ?_) ⟨f197 30 (by omega), n9 209 (by omega), n9 210 (by omega), n9 211 (by omega)⟩⟩
  rcases hS a ha with w | w | w
  · unfold outS; omega
  · unfold outS; omega
  · exact w.2
theorem Pst.at (hI : Inv L xs h z) (se : Se h G c) (ht : six t) (p : Pst h g t) (hi : i < 4) (hc : CM h (43 + 24 * i) M) (hM : MA h M) : g.I 0 = h.I 0 ∧ g.I (43 + 24 * i) = h.I (43 + 24 * i) ∧ CM g (43 + 24 * i) M ∧ MA g M ∧ (g.J 0 = h.J 0 ∧ g.J 197 = h.J 197) ∧ (g.N 1000000 = h.N 1000000 ∧ g.I 1000000 = h.I 1000000) ∧ g.I 197 = h.I 197 := by
  have hn := hI.nn
  have e : ∀ a, a < 222 ∨ a = 1000000 → ¬ spare a → g.I a = h.I a ∧ g.J a = h.J a := fun a h1 h2 => Pst.out se p ht hn.1 (by omega) (by omega) h2
  refine ⟨(e 0 (by omega) (by unfold spare; omega)).1, (e _ (by omega) (by unfold spare; omega)).1, hc.frame (fun a a1 a2 => (e a (by omega) (by unfold spare; omega)).1), fun k hk => by rw [(e 198 (by omega) (by unfold spare; omega)).1]; exact hM k hk, ⟨(e 0 (by omega) (by unfold spare; omega)).2, (e 197 (by omega) (by unfold spare; omega)).2⟩, ⟨(p.1.2.1 1000000 (by omega)).2, (e 1000000 (by omega) (by unfold spare; omega)).1⟩, (e 197 (by omega) (by unfold spare; omega)).1⟩
theorem rv_some {M : Nat → Int32} {big : Nat → Nat} {cw cc : Nat} {goal : Int32} (hr : Sought M big cw goal (some cc)) : cc / 4096 ≤ 405505 ∧ cc ≤ 1660948480 := by
  have := hr.2
  omega
theorem Q184 (hI : Inv L xs h z) (hz : z < 1000) (k : Jn L xs z (W310 x y) D) : W184 x y h D := by
  obtain ⟨G, c, i, M, s, r, se, hi, cur, hw, hc, hM, hs, sc, s1, eG⟩ := hI.sr
  have hn := hI.nn
  have h12 := hw.n12
  have cur' : ix (h.I 0 10) = i := by rw [cur, ix_n (by omega)]
  have hin : inb (h.I 0 10) 4 := by rw [cur]; exact inb_n hi
  have s9 : six 139 := Or.inl rfl
  have s2 : six 152 := Or.inr (Or.inl rfl)
  unfold W184 W192
  dsimp only
  rw [cur']
  refine ⟨hin, S56 hw hc.1 (fun hg => ?_) (fun e => ?_)⟩
  · rw [if_neg (by decide)]
    have bad : (y < nI 1 ∨ nI 9 < y) → D (-1) (h.sI 0 0 1) := fun q => by
      refine k.st hI hz (fun Y hY => ?_)
      unfold W310
      refine S249 hw (hM.s0 _) (fun _ => ?_) (fun e => (hg.no h12 e).elim)
      rw [if_neg (by decide)]
      refine S215 1 9 (by omega) (by omega) rfl rfl (fun p e p1 p2 => ?_) (fun _ => ?_)
      · rw [e, nI_ltI (by omega) (by omega), nI_ltI (by omega) (by omega)] at q; omega
      · rw [if_neg (fun n => n rfl)]; exact hY
    by_cases q : y < 1
    · rw [if_pos q]; exact bad (Or.inl q)
    rw [if_neg q]
    by_cases q2 : y ≤ 9
    · rw [if_pos q2]
      obtain ⟨p, hp, ep⟩ := nI_of2 (x := y) (n := 9) (M := 9) rfl (fun w => q (Int32.lt_trans w (by decide))) q2
      have hp1 : 1 ≤ p := Nat.pos_of_ne_zero (fun e => q (by rw [ep, e]; decide))
      refine ⟨hin, S31 hw hc (is3_i hi) se.2.1 (by rw [hs]; exact eG) (by rw [hs]; exact nI_ne1 (by omega)) 0 (by omega) rfl hn.1 (by omega) (fun g L' b5 b6 b7 b8 b9 k1 V od w σ p1 p2 p3 p4 p5 p6 p7 => ?_)⟩
      refine seek_work (G := fun s' => if s' = nI s then M else fun _ => 100) hw hg (by omega) (by omega) (by rw [hs, if_pos rfl]) p1 p2 p3 p4 p5 p6 p7 (fun g' r' q1 q2 q3 q4 => ?_)
      rw [bigOf_k] at q4
      obtain ⟨o1, o2, o3, o4, o5⟩ := least_own se hn.1 (by omega) (Or.inl rfl) ⟨by omega, fun _ => rfl⟩ q1 q2 q3 eG sc
      obtain ⟨a1, a2, a3, a4, a5, a6, a7⟩ := Pst.at hI se s9 o1 hi hc hM
      have o1n := o1.1.1
      show (if ¬ rv r' = -1 then _ else _)
      have ref : ∀ {st : Int32} {gg : TH} {Y : Int32 → TH → Prop}, MA (gg.sI 0 0 st) M → W263 0 (-1) (gg.sI 0 0 st) (fun h5 => W287 x h5 (fun v6 h7 => if ¬ v6 = (-1) then (W263 y (-1) h7 (fun h8 => W287 x h8 (fun v9 h10 => W206 (v6 - v9) h10 (fun v11 h12 => Y v11 h12)))) else (W205 6 h7 (fun v13 h14 => Y v13 h14)))) → W310 x y (gg.sI 0 0 st) Y := fun {st} {gg} {Y} hMg w => by
        unfold W310
        refine S249 hw hMg (fun _ => ?_) (fun e => (hg.no h12 e).elim)
        rw [if_neg (by decide)]
        refine S215 1 9 (by omega) (by omega) rfl rfl (fun p' e' _ _ => ?_) (fun q => ?_)
        · rw [if_pos (by decide)]; exact w
        · rw [ep, nI_ltI (by omega) (by omega), nI_ltI (by omega) (by omega)] at q; omega
      cases r' with
      | none =>
        rw [if_neg (fun n => n rfl)]
        obtain ⟨t1, t2, t3⟩ := hI.sks (s := 6) se s9 o1
        refine k _ _ t1 (fun Y hY => ref (t2 M hM) (ref_work hw (t2 M hM) hg q4 (Or.inl ⟨0, by omega, rfl, rfl, rfl⟩) (fun g2 u1 u2 => ?_)))
        rw [if_neg (fun n => n rfl)]
        refine hY _ (hI.sk hz r se s9 o1 o2 o3 ⟨by omega, by omega⟩ (Sm.sI u1 (Or.inl (Or.inl rfl)) _) (fun a ha => inFit_sp ha) (fun j hj => ?_) I_eq)
        rw [I_nk (by omega), u2 j (by omega), I_sI, if_neg (by omega)]
      | some cc =>
        have hcc := rv_some q4
        rw [if_pos (show ¬ rv (some cc) = -1 from nI_ne1 (by omega))]
        have se1 := se.pst s9 ⟨o1.1.mono (fun a ha => Or.inl ha), o1.2⟩ hn.1 o2 o3
        rw [a1, cur']
        refine ⟨hin, S31 hw a3 (is3_i hi) se1.2.2.1 (by rw [a2, hs]; exact eG) (by rw [a2, hs]; exact nI_ne1 (by omega)) p hp ep (by omega) (by omega) (fun gb L2 c5 c6 c7 c8 c9 k2 V2 od2 w2 σ2 v1 v2 v3 v4 v5 v6 v7 => ?_)⟩
        refine seek_work (G := fun s' => if s' = nI s then M else fun _ => 100) hw hg (by omega) (by omega) (by rw [a2, hs, if_pos rfl]) v1 v2 v3 v4 v5 v6 v7 (fun gc rc w1 w2 w3 w4 => ?_)
        rw [bigOf_k] at w4
        obtain ⟨e1, e2, e3, e4, e5⟩ := least_own se1 (by omega) (by omega) (Or.inr (Or.inl rfl)) ⟨by omega, fun _ => rfl⟩ w1 w2 w3 eG sc
        have se2 := se1.pst s2 ⟨e1.1.mono (fun a ha => Or.inl ha), e1.2⟩ (by omega) e2 e3
        have out2 : ∀ a, a < 222 ∨ a = 1000000 → ¬ spare a → gc.I a = g'.I a ∧ gc.J a = g'.J a := fun a h1 h2 => Pst.out se1 e1 s2 (by omega) (by omega) (by omega) h2
        have kb : Kept g' gc := Kept.gr e1.1 (by omega) (by omega) (fun a ha => Or.inl (sO_sp se1 (by omega) s2 ha)) (fun j hj => by rw [(out2 0 (by omega) (by unfold spare; omega)).1]) (fun j hj => by rw [(out2 197 (by omega) (by unfold spare; omega)).1])
        have kk := (o1.kept hI se s9).trans kb
        have hMc : MA (gc.sI 0 0 0) M := fun k hk => by rw [I_sI, if_neg (by omega), (out2 198 (by omega) (by unfold spare; omega)).1]; exact a4 k hk
        have e1n := e1.1.1
        show W193 (rv (some cc) - rv rc) gc _
        refine k _ _ ?_ (fun Y hY => ref hMc (ref_work hw hMc hg q4 (Or.inl ⟨0, by omega, rfl, rfl, rfl⟩) (fun g2 u1 u2 => ?_)))
        · have hsc := hI.sc
          refine ⟨((e1.1.2.1 1000000 (by omega)).2.trans a6.1).trans hsc.1, ?_⟩
          rw [show (gc.sI 0 0 0).I 1000000 = gc.I 1000000 from funext (fun j => by rw [I_sI, if_neg (by omega)]), (out2 1000000 (by omega) (by unfold spare; omega)).1, a6.2]; exact hsc.2
        · rw [if_pos (show ¬ rv (some cc) = -1 from nI_ne1 (by omega))]
          have hM2 : MA g2 M := hMc.sm u1 (by unfold inFit i208; omega)
          refine ref_work hw hM2 hg w4 (Or.inl ⟨p, hp, ep, rfl, rfl⟩) (fun g3 x1 x2 => hY _ ?_)
          have sm : Sm (fun a => a = 0 ∨ inFit a ∨ i208 a) gc (g3.sI 197 2 0) := Sm.sI (S := fun a => a = 0 ∨ inFit a ∨ i208 a) (((Sm.sI (S := fun a => a = 0 ∨ inFit a ∨ i208 a) Sm.refl (Or.inl rfl) 0).trans (u1.mono (fun a ha => Or.inr ha))).trans (x1.mono (fun a ha => Or.inr ha))) (Or.inr (Or.inl (Or.inl rfl))) 0
          have st := hI.1
          refine hI.sk3 hz r kk se2 ⟨by omega, by omega, by omega⟩ sm.gr (fun a ha => ha.imp id inFit_sp) (fun j hj => ?_) (fun j hj => ?_) ⟨sm.n, sm.sl⟩ ⟨?_, ?_, ?_⟩
          · rw [I_sI, if_neg (by omega), x1.I (by unfold inFit i208; omega), u1.I (by unfold inFit i208; omega), I_nk (by omega)]
          · rw [I_nk (by omega), x2 j (by omega), u2 j (by omega), I_sI, if_neg (by omega)]
          · rw [I_eq, I_sI, if_neg (by omega), x1.I (by unfold inFit i208; omega), u1.I (by unfold inFit i208; omega), I_eq]
          · rw [sm.J0, sm.J197, (out2 0 (by omega) (by unfold spare; omega)).2, (out2 197 (by omega) (by unfold spare; omega)).2, a5.1, a5.2]; exact st.2.1
          · rw [sm.J0, sm.J197, (out2 0 (by omega) (by unfold spare; omega)).2, (out2 197 (by omega) (by unfold spare; omega)).2, a5.1, a5.2]; exact st.2.2
    · rw [if_neg q2]; exact bad (Or.inr (Int32.not_le.mp q2))
  · rw [if_pos rfl]
    refine k.st hI hz (fun Y hY => ?_)
    unfold W310
    refine S249 hw (hM.s0 _) (fun hg => (hg.no h12 e).elim) (fun _ => ?_)
    rw [if_pos rfl]; exact hY
theorem gr_sJ (h : TH) (a k : Nat) (v : Int64) : Gr (fun b => b = a) h (h.sJ a k v) := ⟨Nat.le_refl _, fun _ _ => ⟨rfl, rfl⟩, fun b _ hb => ⟨rfl, funext (fun j => by rw [J_sJ, if_neg (fun w => hb w.1)]), rfl⟩⟩
theorem Q185 (hI : Inv L xs h z) (hz : z < 1000) (k : Jn L xs z (W311 x) D) : W185 x h D := by
  obtain ⟨G, c, i, M, s, r, se, hi, cur, hw, hc, hM, hs, sc, s1, eG⟩ := hI.sr
  have hn := hI.nn
  have h12 := hw.n12
  have cur' : ix (h.I 0 10) = i := by rw [cur, ix_n (by omega)]
  have hin : inb (h.I 0 10) 4 := by rw [cur]; exact inb_n hi
  have s9 : six 139 := Or.inl rfl
  unfold W185 W192 W196 W197
  dsimp only
  rw [cur']
  refine ⟨hin, S56 hw hc.1 (fun hg => ?_) (fun e => ?_)⟩
  · rw [if_pos (by decide)]
    refine ⟨hin, S68 hw hc.1 hc.2.1 hg (fun ca hca => ?_)⟩
    have on := onc_le (Sc := ca) hw (aN M) (Nat.le_refl _)
    refine ⟨hin, S31 hw hc (is3_i hi) se.2.1 (by rw [hs]; exact eG) (by rw [hs]; exact nI_ne1 (by omega)) 0 (by omega) rfl hn.1 (by omega) (fun g L' b5 b6 b7 b8 b9 k1 V od w σ p1 p2 p3 p4 p5 p6 p7 => ?_)⟩
    refine seek_work (G := fun s' => if s' = nI s then M else fun _ => 100) hw hg (by omega) (by omega) (by rw [hs, if_pos rfl]) p1 p2 p3 p4 p5 p6 p7 (fun g' r' q1 q2 q3 q4 => ?_)
    rw [bigOf_k] at q4
    obtain ⟨o1, o2, o3, o4, o5⟩ := least_own se hn.1 (by omega) (Or.inl rfl) ⟨by omega, fun _ => rfl⟩ q1 q2 q3 eG sc
    obtain ⟨a1, a2, a3, a4, a5, a6, a7⟩ := Pst.at hI se s9 o1 hi hc hM
    have se1 := se.pst s9 ⟨o1.1.mono (fun a ha => Or.inl ha), o1.2⟩ hn.1 o2 o3
    have o1n := o1.1.1
    have hsc := hI.sc
    show (if rv r' = -1 then _ else _)
    generalize hb : onc M ca (aN M) = b at on ⊢
    have no : (r' = none ∨ b = 0) → ((0 : Int32) = 0 ∨ (0 : Int32) = 1) ∧ D 0 (g'.sI 0 0 6) := fun w0 => by
      refine ⟨Or.inl rfl, ?_⟩
      obtain ⟨t1, t2, t3⟩ := hI.sks (s := 6) se s9 o1
      refine k _ _ t1 (fun Y hY => S311 hw (t2 M hM) (fun n => (n hg).elim) (fun ca' _ hca' => ?_))
      rw [Clo_one hca' hca, hb]
      refine ref_work hw (t2 M hM) hg q4 (Or.inl ⟨0, by omega, rfl, rfl, rfl⟩) (fun g2 u1 u2 => ?_)
      have fin : Y 0 (g2.sI 197 2 6) := by
        refine hY _ (hI.sk hz r se s9 o1 o2 o3 ⟨by omega, by omega⟩ (Sm.sI u1 (Or.inl (Or.inl rfl)) _) (fun a ha => inFit_sp ha) (fun j hj => ?_) I_eq)
        rw [I_nk (by omega), u2 j (by omega), I_sI, if_neg (by omega)]
      unfold W204
      cases r' with
      | none => rw [if_pos (show rv none = -1 from rfl), if_pos (by decide)]; exact ⟨Or.inl rfl, fin⟩
      | some cc =>
        have hcc := rv_some q4
        rcases w0 with w0 | w0
        · exact absurd w0 (by simp)
        · rw [if_neg (show ¬ rv (some cc) = -1 from nI_ne1 (by omega)), w0, if_neg (fun n => n rfl), if_pos (by decide)]; exact ⟨Or.inl rfl, fin⟩
    cases r' with
    | none => rw [if_pos (show rv none = -1 from rfl)]; exact no (Or.inl rfl)
    | some cc =>
      have hcc := rv_some q4
      rw [if_neg (show ¬ rv (some cc) = -1 from nI_ne1 (by omega))]
      by_cases b0 : b = 0
      · rw [b0, if_neg (fun n => n rfl)]; exact no (Or.inr b0)
      · have nb : ¬ nI b = 0 := fun w => b0 ((nI_eq (b := 0) (by omega) (by omega)).mp w)
        rw [if_pos nb]
        refine S199 (by omega) (by omega) (by omega) ⟨Or.inr rfl, ?_⟩
        have hMc : MA (((g'.sJ 0 1 (lN (cc / 4096 / Nat.gcd (cc / 4096) b))).sJ 0 2 (lN (b / Nat.gcd (cc / 4096) b))).sI 0 0 0) M := fun k hk => a4 k hk
        refine k _ _ ⟨a6.1.trans hsc.1, ?_⟩ (fun Y hY => S311 hw hMc (fun n => (n hg).elim) (fun ca' _ hca' => ?_))
        · exact Eq.trans (funext (fun j => rfl)) (a6.2.trans hsc.2)
        rw [Clo_one hca' hca, hb]
        refine ref_work hw hMc hg q4 (Or.inl ⟨0, by omega, rfl, rfl, rfl⟩) (fun g2 u1 u2 => ?_)
        rw [if_neg (show ¬ rv (some cc) = -1 from nI_ne1 (by omega)), if_pos nb, show rv (some cc) = nI (cc / 4096) from rfl, nI_l (by omega), nI_l (by omega)]
        refine S207 (by omega) (by omega) (by omega) ⟨Or.inr rfl, hY _ ?_⟩
        generalize lN (cc / 4096 / Nat.gcd (cc / 4096) b) = A at *
        generalize lN (b / Nat.gcd (cc / 4096) b) = B at *
        have e0 : ∀ j, g2.J 0 j = if j = 2 then B else if j = 1 then A else g'.J 0 j := fun j => by
          rw [u1.J0, J_sI, J_sJ, J_sJ]
          by_cases j2 : j = 2
          · rw [if_pos ⟨rfl, j2⟩, if_pos j2]
          · rw [if_neg (fun w => j2 w.2), if_neg j2]
            by_cases j1 : j = 1
            · rw [if_pos ⟨rfl, j1⟩, if_pos j1]
            · rw [if_neg (fun w => j1 w.2), if_neg j1]
        have q : Gr (fun a => a = 0 ∨ inFit a ∨ i208 a) g' (((g2.sJ 197 3 A).sJ 197 4 B).sI 197 2 0) := by
          have w1 : Gr (fun a => a = 0 ∨ inFit a ∨ i208 a) g' (((g'.sJ 0 1 A).sJ 0 2 B).sI 0 0 0) := Gr.trans (Gr.trans ((gr_sJ _ _ _ _).mono (fun a ha => Or.inl ha)) ((gr_sJ _ _ _ _).mono (fun a ha => Or.inl ha))) ((sm1 _ _ _ _).gr.mono (fun a ha => Or.inl ha))
          have w2 : Gr (fun a => a = 0 ∨ inFit a ∨ i208 a) g2 (((g2.sJ 197 3 A).sJ 197 4 B).sI 197 2 0) := Gr.trans (Gr.trans ((gr_sJ _ _ _ _).mono (fun a ha => Or.inr (Or.inl (Or.inl ha)))) ((gr_sJ _ _ _ _).mono (fun a ha => Or.inr (Or.inl (Or.inl ha))))) ((sm1 _ _ _ _).gr.mono (fun a ha => Or.inr (Or.inl (Or.inl ha))))
          exact Gr.trans (Gr.trans w1 (u1.gr.mono (fun a ha => Or.inr ha))) w2
        have un := u1.n
        have us := u1.sl
        refine hI.sk3 hz r (o1.kept hI se s9) se1 ⟨o1n, by omega, by omega⟩ q (fun a ha => ha.imp id inFit_sp) (fun j hj => ?_) (fun j hj => ?_) ⟨un, us⟩ ⟨?_, ?_, ?_⟩
        · rw [I_sI, if_neg (by omega), I_sJ, I_sJ, u1.I (by unfold inFit i208; omega), I_nk (by omega)]; rfl
        · rw [I_nk (by omega), I_sJ, I_sJ, u2 j (by omega), I_sI, if_neg (by omega)]; rfl
        · rw [I_eq, I_sI, if_neg (by omega), I_sJ, I_sJ, u1.I (by unfold inFit i208; omega), I_eq]
        · rw [J_sI, J_sJ, if_neg (by omega), J_sJ, if_neg (by omega), e0, if_neg (by omega), if_pos rfl, J_sJ, if_neg (by omega), J_sJ, if_pos ⟨rfl, rfl⟩]
        · rw [J_sI, J_sJ, if_neg (by omega), J_sJ, if_neg (by omega), e0, if_pos rfl, J_sJ, if_pos ⟨rfl, rfl⟩]
  · rw [if_neg (fun n => n rfl)]
    refine ⟨Or.inl rfl, k.st hI hz (fun Y hY => S311 hw (hM.s0 _) (fun _ => hY) (fun ca hg _ => (hg.no h12 e).elim))⟩
end LS2
