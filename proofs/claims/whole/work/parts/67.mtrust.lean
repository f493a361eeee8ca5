def ctKeep (h g : TH) : Prop := Sm (fun a => in212 a ∨ a = 214) h g ∧ ∀ j, j ≠ 33 → j ≠ 35 → g.I 197 j = h.I 197 j
section TU
variable {h0 h g : TH} {M : Nat → Int32} {Sc goal m t : Int32} {F k P d : Nat} {q fw : Nat → Nat}
theorem vn_inj {m' t' : Int32} (hn : aN M ≤ 12) (hf : Fw h Sc fw k) (hi : FI M Sc P m t) (hi' : FI M Sc P m' t') (e : vn fw k m t = vn fw k m' t') : m = m' ∧ t = t' := by
  have key := vv_inj (fun i => dR_lt m t (fw i)) (fun i => dR_lt m' t' (fw i)) k 0 e
  have bits : ∀ d, d < aN M → bt m d = bt m' d ∧ bt t d = bt t' d := by
    intro d hd
    by_cases hs : bt Sc d = true
    · obtain ⟨i, i1, i2⟩ := hf.2.2.2 d (by omega) hs
      have kq := key i i1
      rw [Nat.zero_add, i2] at kq
      unfold dR at kq
      have a1 := hi.2.2.1 d (by omega)
      have a2 := hi'.2.2.1 d (by omega)
      revert kq a1 a2
      cases bt m d <;> cases bt m' d <;> cases bt t d <;> cases bt t' d <;> simp
    · have z : ∀ s, sb s Sc → bt s d = false := by
        intro s q
        cases e : bt s d
        · rfl
        · exact absurd (q d (by omega) e) hs
      rw [z m hi.2.2.2.1, z m' hi'.2.2.2.1, z t hi.2.2.2.2.1, z t' hi'.2.2.2.2.1]
      exact ⟨rfl, rfl⟩
  exact ⟨St_ext hi.1 hi'.1 (fun d hd => (bits d hd).1), St_ext hi.2.1 hi'.2.1 (fun d hd => (bits d hd).2)⟩
theorem S302 {C : Int32 → TH → Prop} (hw : Wf M) (hc : clo M Sc) (hSc : St (aN M) Sc) (hM : MA h M) (hf : Fw h Sc fw k) (hP : P ≤ 12) (kt : ∀ g, cKeep h g → FGo M Sc true goal P → C 1 g) (kf : ∀ g, cKeep h g → ¬ FGo M Sc true goal P → C 0 g) : W302 goal (nI P) h C := by
  have h12 := hw.n12
  unfold W302 B302_2
  refine LFP.up 6561 (fun j z => z.1 = nI j ∧ Sm (fun a => a = 212) h z.2 ∧ ∀ u, u < j → z.2.I 212 u = 0) ?_ ?_ (Nat.zero_le _) ⟨rfl, Sm.refl, fun u hu => absurd hu (Nat.not_lt_zero _)⟩
  · rintro Y j ⟨x2, g⟩ hj ⟨e1, e2, e3⟩ ih
    (try dsimp only at e1 e2 e3)
    subst e1
    unfold F302_2
    (try dsimp only)
    rw [if_neg (show ¬ (6561 : Int32) ≤ nI j from nI_ge (b := 6561) hj (by omega)), ix_n (by omega)]
    refine ⟨inb_n (by omega), ih _ ⟨nI_1 j, Sm.sI (S := fun a => a = 212) e2 rfl _, fun u hu => ?_⟩⟩
    (try dsimp only)
    rw [I_at]
    by_cases e : u = j
    · rw [if_pos e]; rfl
    · rw [if_neg e]; exact e3 u (by omega)
  · rintro Y ⟨x2, g⟩ ⟨e1, e2, e3⟩
    (try dsimp only at e1 e2 e3)
    subst e1
    unfold F302_2
    (try dsimp only)
    rw [if_pos (show (6561 : Int32) ≤ nI 6561 from nI_le (Nat.le_refl _) (by omega))]
    have kp : cKeep h (g.sI 197 33 0) := ⟨(e2.mono (fun a z => by unfold in212; omega)).sI (by unfold in212; omega) _, fun j hj => by rw [I_nk hj, e2.I (by omega)]⟩
    have cq : Cq (g.sI 197 33 0) 6561 (fun _ => 0) 0 := ⟨I_eq, fun i hi => absurd hi (Nat.not_lt_zero _), fun i j _ hj => absurd hj (Nat.not_lt_zero _), fun u hu => ⟨fun ⟨i, hi, _⟩ => absurd hi (Nat.not_lt_zero _), fun _ => by rw [I_ne (by omega)]; exact e3 u hu⟩⟩
    have v0 : vn fw k 0 0 = 0 := by
      have : ∀ c i, vv (fun i => dR 0 0 (fw i)) i c = 0 := by
        intro c
        induction c with
        | zero => intro i; rfl
        | succ c ih =>
          intro i
          show dR 0 0 (fw i) + 3 * vv (fun i => dR 0 0 (fw i)) (i + 1) c = 0
          rw [ih (i + 1)]
          unfold dR
          rw [bt_0]
          rfl
      exact this k 0
    refine S295 (Nat.le_refl _) cq (u := 0) rfl (by omega) (fun g0 q0 F0 k1 k2 k3 k4 k5 => ?_)
    have c0 : CT h M Sc P fw k g0 q0 F0 := ⟨kp.trans k1, k2, fun i hi => ⟨0, 0, Rs.zero, by rw [v0]; exact k5 i (Nat.zero_le _) hi⟩⟩
    rw [← v0] at k4
    have endd : ∀ g1 q1 F1, CT h M Sc P fw k g1 q1 F1 → inQ q1 F1 (vn fw k 0 0) → (∀ i, i < F1 → ∀ m t, Rs M Sc true P m t → q1 i = vn fw k m t → ¬ (t = 0 ∧ sb goal m)) → (∀ i, i < F1 → ∀ m t, Rs M Sc true P m t → q1 i = vn fw k m t → ∀ m' t', Fs M Sc true P m t m' t' → inQ q1 F1 (vn fw k m' t')) → ¬ FGo M Sc true goal P := by
      rintro g1 q1 F1 e2 e4 e5 e6 ⟨m, z1, z2⟩
      have := z1 (fun m t => Rs M Sc true P m t ∧ inQ q1 F1 (vn fw k m t)) ⟨Rs.zero, e4⟩ (fun a b a' b' ⟨w1, i, w2, w3⟩ w4 => ⟨w1.step w4, e6 i w2 a b w1 w3 a' b' w4⟩)
      obtain ⟨w1, i, w2, w3⟩ := this
      exact e5 i w2 m 0 w1 w3 ⟨rfl, z2⟩
    unfold B302_34
    refine LFP.up 6561 (fun j z => z.1 = nI j ∧ ∃ q F, CT h M Sc P fw k z.2 q F ∧ j ≤ F ∧ inQ q F (vn fw k 0 0) ∧ (∀ i, i < j → ∀ m t, Rs M Sc true P m t → q i = vn fw k m t → ¬ (t = 0 ∧ sb goal m)) ∧ ∀ i, i < j → ∀ m t, Rs M Sc true P m t → q i = vn fw k m t → ∀ m' t', Fs M Sc true P m t m' t' → inQ q F (vn fw k m' t')) ?_ ?_ (Nat.zero_le _) ⟨rfl, q0, F0, c0, Nat.zero_le _, k4, fun i hi => absurd hi (Nat.not_lt_zero _), fun i hi => absurd hi (Nat.not_lt_zero _)⟩
    · rintro Y j ⟨x2, g1⟩ hj ⟨e1, q1, F1, e2, e3, e4, e5, e6⟩ ih
      (try dsimp only at e1 e2 e3 e4 e5 e6)
      subst e1
      have hF := e2.2.1.le
      unfold F302_34
      (try dsimp only)
      rw [e2.2.1.1]
      by_cases hjF : j < F1
      · obtain ⟨m, t, r1, r2⟩ := e2.2.2 j hjF
        have hi := r1.inv hw hc
        have hf1 := hf.keep e2.1
        have one : ∀ m' t', Rs M Sc true P m' t' → q1 j = vn fw k m' t' → m' = m ∧ t' = t := fun m' t' z1 z2 => vn_inj h12 hf1 (z1.inv hw hc) hi (by rw [← z2, r2])
        rw [if_neg (nI_ge hjF (by omega)), ix_n (by omega), (e2.2.1.2.1 j hjF).1, r2]
        refine ⟨inb_n (by omega), ?_⟩
        refine S300 hf1 ⟨hi.2.2.2.1, St_mono hi.1 h12⟩ ⟨hi.2.2.2.2.1, St_mono hi.2.1 h12⟩ hi.2.2.1 rfl (Or.inl ⟨rfl, rfl⟩) ?_
        refine ⟨inb_n (by omega), ?_⟩
        refine S300 hf1 ⟨hi.2.2.2.1, St_mono hi.1 h12⟩ ⟨hi.2.2.2.2.1, St_mono hi.2.1 h12⟩ hi.2.2.1 rfl (Or.inr ⟨rfl, rfl⟩) ?_
        have go : ¬ (t = 0 ∧ sb goal m) → B302_84 goal (nI P) (nI j) m t g1 C Y := by
          intro eg
          unfold B302_84
          refine S301 hw hc hSc hM hf e2 r1 hP (fun g2 q2 F2 l1 l2 l3 => ?_)
          refine ih _ ⟨nI_1 j, q2, F2, l1, by have := l2.1; omega, l2.inq e4, fun i hi m' t' z1 z2 => ?_, fun i hi m' t' z1 z2 m'' t'' z3 => ?_⟩
          · rw [l2.2 i (by omega)] at z2
            rcases Nat.lt_or_ge i j with y | y
            · exact e5 i y m' t' z1 z2
            · have : i = j := by omega
              rw [this] at z2
              rw [(one m' t' z1 z2).1, (one m' t' z1 z2).2]; exact eg
          · rw [l2.2 i (by omega)] at z2
            rcases Nat.lt_or_ge i j with y | y
            · exact l2.inq (e6 i y m' t' z1 z2 m'' t'' z3)
            · have : i = j := by omega
              rw [this] at z2
              rw [(one m' t' z1 z2).1, (one m' t' z1 z2).2] at z3
              exact l3 m'' t'' z3
        by_cases et : t = 0
        · rw [if_neg (fun z => z et)]
          by_cases eg : goal &&& (m ^^^ (-1)) = 0
          · rw [if_neg (fun z => z eg)]
            rw [et] at r1
            exact kt g1 e2.1 ⟨m, r1, bt_sub.mp eg⟩
          · rw [if_pos eg]
            exact go (fun z => eg (bt_sub.mpr z.2))
        · rw [if_pos et]
          exact go (fun z => et z.1)
      · rw [if_pos (nI_le (by omega) (by omega))]
        have : j = F1 := by omega
        subst this
        exact kf g1 e2.1 (endd g1 q1 j e2 e4 e5 e6)
    · rintro Y ⟨x2, g1⟩ ⟨e1, q1, F1, e2, e3, e4, e5, e6⟩
      (try dsimp only at e1 e2 e3 e4 e5 e6)
      subst e1
      have hF := e2.2.1.le
      unfold F302_34
      (try dsimp only)
      rw [e2.2.1.1, if_pos (nI_le (by omega) (by omega))]
      have : 6561 = F1 := by omega
      subst this
      exact kf g1 e2.1 (endd g1 q1 6561 e2 e4 e5 e6)
/-- the DISHES that count, listed -/
theorem S303f {C : Int32 → TH → Prop} (hw : Wf M) (hSc : St (aN M) Sc) (h8 : pc Sc ≤ 8) (hM : MA h M) (h35 : h.I 197 35 = 0) (kk : ∀ g fw k, ctKeep h g → Fw g Sc fw k → B303_91 goal 0 g C) : B303_42 goal Sc 0 h C := by
  have h12 := hw.n12
  unfold B303_42
  refine LFP.up (aN M) (fun j z => z.1 = nI j ∧ ctKeep h z.2 ∧ ∃ fw, z.2.I 197 35 = nI (fb_ct (bt Sc) j) ∧ (∀ i, i < fb_ct (bt Sc) j → z.2.I 214 i = nI (fw i) ∧ fw i < j ∧ bt Sc (fw i) = true) ∧ ∀ d, d < j → bt Sc d = true → ∃ i, i < fb_ct (bt Sc) j ∧ fw i = d) ?_ ?_ (Nat.zero_le _) ⟨rfl, ⟨Sm.refl, fun _ _ _ => rfl⟩, fun _ => 0, h35, fun i hi => absurd hi (Nat.not_lt_zero _), fun d hd => absurd hd (Nat.not_lt_zero _)⟩
  · rintro Y j ⟨x3, g⟩ hj ⟨e1, e2, fw, e3, e4, e5⟩ ih
    (try dsimp only at e1 e2 e3 e4 e5)
    subst e1
    have hM1 : MA g M := hM.sm e2.1 (by unfold in212; omega)
    have eN : g.I 198 (ix 0) = nI (aN M) := by rw [ix_0, hM1 0 (by omega)]; exact hw.eN
    have es := fb_ct_succ (bt Sc) j
    have l8 : fb_ct (bt Sc) (j + 1) ≤ 8 := Nat.le_trans (fb_ct_mono (bt Sc) (show j + 1 ≤ 12 by omega)) h8
    unfold F303_42
    (try dsimp only)
    rw [eN, if_neg (nI_ge hj (by omega))]
    refine S250 j rfl hSc (by omega) (by omega) (fun b => ?_) (fun b => ?_)
    · rw [b, if_pos rfl] at es
      rw [if_pos (by decide), e3, ix_n (by omega), I_ne (by omega), e3, nI_1 (fb_ct (bt Sc) j)]
      refine ⟨inb_n (by omega), ih _ ⟨nI_1 j, ?_, fun i => if i = fb_ct (bt Sc) j then j else fw i, ?_, fun i hi => ?_, fun d hd hs => ?_⟩⟩
      · refine ⟨(e2.1.sI (Or.inr rfl) _).sI (Or.inl (Or.inl rfl)) _, fun i j1 j2 => ?_⟩
        (try dsimp only)
        rw [I_nk j2, I_ne (by omega)]; exact e2.2 i j1 j2
      · (try dsimp only)
        rw [I_eq, es]
      · (try dsimp only)
        rw [I_ne (by omega), I_at]
        by_cases e : i = fb_ct (bt Sc) j
        · rw [if_pos e, if_pos e]; exact ⟨rfl, by omega, b⟩
        · rw [if_neg e, if_neg e]
          obtain ⟨w1, w2, w3⟩ := e4 i (by omega)
          exact ⟨w1, by omega, w3⟩
      · rcases Nat.lt_or_ge d j with y | y
        · obtain ⟨i, i1, i2⟩ := e5 d y hs
          exact ⟨i, by omega, by (try dsimp only); rw [if_neg (by omega)]; exact i2⟩
        · exact ⟨fb_ct (bt Sc) j, by omega, by (try dsimp only); rw [if_pos rfl]; omega⟩
    · have es' : fb_ct (bt Sc) (j + 1) = fb_ct (bt Sc) j := by rw [es, b]; rfl
      rw [if_neg (fun z => z rfl)]
      refine ih _ ⟨nI_1 j, e2, fw, by rw [es']; exact e3, fun i hi => ?_, fun d hd hs => ?_⟩
      · obtain ⟨w1, w2, w3⟩ := e4 i (by omega)
        exact ⟨w1, by omega, w3⟩
      · rcases Nat.lt_or_ge d j with y | y
        · rw [es']; exact e5 d y hs
        · have : d = j := by omega
          rw [this, b] at hs; exact absurd hs (by decide)
  · rintro Y ⟨x3, g⟩ ⟨e1, e2, fw, e3, e4, e5⟩
    (try dsimp only at e1 e2 e3 e4 e5)
    subst e1
    have hM1 : MA g M := hM.sm e2.1 (by unfold in212; omega)
    have eN : g.I 198 (ix 0) = nI (aN M) := by rw [ix_0, hM1 0 (by omega)]; exact hw.eN
    unfold F303_42
    (try dsimp only)
    rw [eN, if_pos (nI_le (Nat.le_refl _) (by omega))]
    refine kk g fw (fb_ct (bt Sc) (aN M)) e2 ⟨?_, e3, fun i hi => ?_, fun d hd hs => e5 d (St_d h12 hSc (by omega) hs) hs⟩
    · exact Nat.le_trans (fb_ct_mono (bt Sc) h12) h8
    · obtain ⟨w1, w2, w3⟩ := e4 i hi
      exact ⟨w1, by omega, w3⟩
theorem S303 {C : Int32 → TH → Prop} (hw : Wf M) (hM : MA h M) (kno : ¬ St (aN M) goal → C (-1) (h.sI 197 2 1)) (k4 : ∀ Sc, St (aN M) goal → Clo M goal Sc → 8 < pc Sc → C (-1) (h.sI 197 2 4)) (kk : ∀ g Sc r, ctKeep h g → St (aN M) goal → Clo M goal Sc → pc Sc ≤ 8 → Few (fun P => FGo M Sc true goal P) r → C (match r with | none => (-1) | some p => nI p) (g.sI 197 2 (match r with | none => 6 | some _ => 0))) : W303 goal h C := by
  have h12 := hw.n12
  unfold W303
  refine S249 hw hM (fun hg => ?_) (fun hg => ?_)
  · rw [if_pos (by decide)]
    refine S265 hw hM hg (fun Sc hcl => ?_)
    refine S234 (St_mono hcl.1 h12) ?_
    by_cases e8 : pc Sc ≤ 8
    · rw [if_pos (show nI (pc Sc) ≤ 8 from nI_le (b := 8) e8 (by omega))]
      have hM0 : MA (h.sI 197 35 0) M := hM.sm (Sm.sI (S := fun a => a = 197) Sm.refl rfl _) (by omega)
      refine S303f hw hcl.1 e8 hM0 I_eq (fun g fw k w1 w2 => ?_)
      have kp : ctKeep h g := ⟨(Sm.refl.sI (Or.inl (Or.inl rfl)) _).trans w1.1, fun j j1 j2 => (w1.2 j j1 j2).trans (I_nk j2)⟩
      have hMg : MA g M := hM.sm kp.1 (by unfold in212; omega)
      unfold B303_91
      refine LFP.up 13 (fun j z => z.1 = nI j ∧ cKeep g z.2 ∧ ∀ p, p < j → ¬ FGo M Sc true goal p) ?_ ?_ (Nat.zero_le _) ⟨rfl, cKeep.refl, fun p hp => absurd hp (Nat.not_lt_zero _)⟩
      · rintro Y p ⟨x2, g1⟩ hp ⟨e1, e2, e3⟩ ih
        (try dsimp only at e1 e2 e3)
        subst e1
        have lift : ∀ g2, cKeep g1 g2 → ctKeep h g2 := fun g2 z => ⟨kp.1.trans ((e2.trans z).1.mono (fun a y => Or.inl y)), fun j j1 j2 => ((e2.trans z).2 j j1).trans (kp.2 j j1 j2)⟩
        unfold F303_91
        (try dsimp only)
        rw [if_neg (show ¬ (12 : Int32) < nI p from nI_nlt (a := 12) (by omega) (by omega))]
        refine S302 hw hcl.2.2.1 hcl.1 (hMg.sm e2.1 (by unfold in212; omega)) (w2.keep e2) (by omega) (fun g3 l1 l2 => ?_) (fun g3 l1 l2 => ?_)
        · rw [if_neg (by decide)]
          exact kk g3 Sc (some p) (lift g3 l1) hg hcl e8 ⟨by omega, l2, e3⟩
        · rw [if_pos rfl]
          refine ih _ ⟨nI_1 p, e2.trans l1, fun k hk => ?_⟩
          rcases Nat.lt_or_ge k p with y | y
          · exact e3 k y
          · have : k = p := by omega
            rw [this]; exact l2
      · rintro Y ⟨x2, g1⟩ ⟨e1, e2, e3⟩
        (try dsimp only at e1 e2 e3)
        subst e1
        unfold F303_91
        (try dsimp only)
        rw [if_pos (by decide)]
        exact kk g1 Sc none ⟨kp.1.trans (e2.1.mono (fun a y => Or.inl y)), fun j j1 j2 => (e2.2 j j1).trans (kp.2 j j1 j2)⟩ hg hcl e8 (fun p hp => e3 p (by omega))
    · rw [if_neg (show ¬ nI (pc Sc) ≤ 8 from nI_ge (a := 8) (by omega) (by have := pc_le Sc; omega))]
      exact k4 Sc hg hcl (by omega)
  · rw [if_neg (fun z => z rfl)]
    exact kno (fun z => hg.elim z.rng.1 z.rng.2)
end TU
