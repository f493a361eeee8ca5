/-! FEWEST POTS: seeking -/
section FK
variable {h h' h0 : TH} {M : Nat → Int32} {Sc goal : Int32} {tr : Bool} {base L t tm a5 a6 a7 : Nat} {om ot : Nat → Int32} {lv : Nat → Nat} {F X P f : Nat}
/-- between two turns: what stays -/
def wKeep (h g : TH) (t a5 a6 a7 : Nat) : Prop := Sm (inFw t a5 a6 a7) h g ∧ ∀ j, j ≠ 11 → j ≠ 12 → j ≠ 13 → g.I t j = h.I t j
theorem wKeep.trans {h1 h2 h3 : TH} (p : wKeep h1 h2 t a5 a6 a7) (q : wKeep h2 h3 t a5 a6 a7) : wKeep h1 h3 t a5 a6 a7 := ⟨p.1.trans q.1, fun j j1 j2 j3 => (q.2 j j1 j2 j3).trans (p.2 j j1 j2 j3)⟩
theorem FwO.a222 (ho : FwO h t M Sc tr base L a5 a6 a7 om ot lv F X P) : is0 t ∧ 222 ≤ a5 ∧ 222 ≤ a6 ∧ 222 ≤ a7 := by
  obtain ⟨o1, o2, o3, o4, -⟩ := ho
  obtain ⟨-, -, -, l1, -, l2, -⟩ := o2
  have b0 : 0 < base := by omega
  have : 0 < base ^ fb_ct (bt Sc) 12 := Nat.pow_pos b0
  exact ⟨o1.1, by omega⟩
theorem menu_w {g : TH} (hk : wKeep h g t a5 a6 a7) (ha : is0 t ∧ 222 ≤ a5 ∧ 222 ≤ a6 ∧ 222 ≤ a7) (hm : h.P t 1 = some tm ∧ is3 tm ∧ CM h tm M) : g.P t 1 = some tm ∧ is3 tm ∧ CM g tm M := by
  have ht := is0_rng ha.1
  have r3 := is3_rng hm.2.1
  exact ⟨by rw [hk.1.P]; exact hm.1, hm.2.1, hm.2.2.frame (fun a z1 z2 => hk.1.I (by unfold inFw; omega))⟩
/-- counters are set anew -/
theorem FwO.set {x p : Int32} {X' P' : Nat} (ho : FwO h t M Sc tr base L a5 a6 a7 om ot lv F X P) (hx : x = nI X') (hp : p = nI P') : FwO ((h.sI t 13 p).sI t 12 x) t M Sc tr base L a5 a6 a7 om ot lv F X' P' ∧ wKeep h ((h.sI t 13 p).sI t 12 x) t a5 a6 a7 := by
  subst hx hp
  have ha := ho.a222
  have ht := is0_rng ha.1
  have s1 : Sm (inFw t a5 a6 a7) h ((h.sI t 13 (nI P')).sI t 12 (nI X')) := (Sm.refl.sI (by unfold inFw; omega) _).sI (by unfold inFw; omega) _
  have rt : ∀ j, j ≠ 12 → j ≠ 13 → ((h.sI t 13 (nI P')).sI t 12 (nI X')).I t j = h.I t j := fun j j1 j2 => by rw [I_nk j1, I_nk j2]
  have ra : ∀ a, a ≠ t → ((h.sI t 13 (nI P')).sI t 12 (nI X')).I a = h.I a := fun a ha => by funext j; rw [I_ne ha, I_ne ha]
  obtain ⟨o1, o2, o3, o4, o5, o6, o7, o8, o9, o10, o11, o12⟩ := ho
  refine ⟨⟨?_, o2.sm s1, o3, by rw [rt 0 (by omega) (by omega)]; exact o4, by rw [rt 3 (by omega) (by omega)]; exact o5, by rw [rt 10 (by omega) (by omega)]; exact o6, by rw [rt 11 (by omega) (by omega)]; exact o7, I_eq, by rw [I_nk (by omega), I_eq], ?_, ?_, ?_⟩, s1, fun j _ j2 j3 => rt j j2 j3⟩
  · obtain ⟨z1, z2, z3, z4, z5, z6, z7⟩ := o1
    exact ⟨z1, by rw [s1.P]; exact z2, by rw [s1.P]; exact z3, by rw [s1.K]; exact z4, by rw [s1.N]; exact z5, by rw [s1.K]; exact z6, by rw [s1.N]; exact z7⟩
  · unfold LoHi at o10 ⊢
    rw [ra _ (by omega), ra _ (by omega)]
    exact o10
  · rw [ra a5 (by omega), ra a6 (by omega)]; exact o11
  · rw [ra a7 (by omega)]; exact o12
theorem FPu.all (hp : FPu M Sc tr om ot lv F F P f) {m u : Int32} (hR : Rs M Sc tr P m u) : inF om ot F m u := by
  obtain ⟨c1, c2, c3, c4, c5, -⟩ := hp
  refine hR (inF om ot F) c4 ?_
  rintro m u m' u' ⟨i, i1, i2, i3⟩ hf
  rw [← i2, ← i3] at hf
  exact c5 i i1 m' u' hf
/-- one POT more -/
theorem FPu.up (hp : FPu M Sc tr om ot lv F F P f) : FPu M Sc tr om ot lv F 0 (P + 1) f := by
  have all := @FPu.all M Sc tr om ot lv F P f hp
  obtain ⟨c1, c2, c3, c4, c5, c6, c7, c8⟩ := hp
  refine ⟨fun i hi => ?_, c2, c3, c4, fun i hi => absurd hi (Nat.not_lt_zero _), fun i hi _ m' t' q => ?_, fun Q z1 z2 m t q => ?_, Nat.zero_le _⟩
  · obtain ⟨y1, y2, y3, y4⟩ := c1 i hi
    exact ⟨y1, y2, y3, by omega⟩
  · rw [Nat.add_sub_cancel] at q
    exact c5 i hi m' t' q
  · by_cases e : Q = P
    · subst e
      obtain ⟨i, i1, i2, i3⟩ := all q
      exact ⟨i, i1, i2, i3, (c1 i i1).2.2.2⟩
    · exact c7 Q z1 (by omega) m t q
theorem S6 {C : Int32 → TH → Prop} (hw : Wf M) (hc : clo M Sc) (hfP : f ≤ P) (hP : P ≤ 12) (hm : h.P t 1 = some tm ∧ is3 tm ∧ CM h tm M) (ho : FwO h t M Sc tr base L a5 a6 a7 om ot lv F X P) (hp : FPu M Sc tr om ot lv F X P f)
    (k1 : ∀ g om' ot' lv' F' X' P', wKeep h g t a5 a6 a7 → FwO g t M Sc tr base L a5 a6 a7 om' ot' lv' F' X' P' → FPu M Sc tr om' ot' lv' F' X' P' f → P ≤ P' → P' ≤ 12 → Ext om ot F om' ot' F' → F < F' → C 1 g)
    (k0 : ∀ g lv', wKeep h g t a5 a6 a7 → FwO g t M Sc tr base L a5 a6 a7 om ot lv' F F 12 → FPu M Sc tr om ot lv' F F 12 f → C 0 g) : W6 t h C := by
  have h12 := hw.n12
  have ha := ho.a222
  have ht := is0_rng ha.1
  have hroom := few_room h12 ho.hb hp
  have hL : F ≤ 6561 := by
    have := ho.2.1.2.2.2.1
    have := ho.2.2.1
    omega
  have hXF := hp.2.2.2.2.2.2.2
  unfold W6
  rw [ho.2.2.2.2.2.2.1]
  unfold B6_7
  have p1 : (12 - P) * (F + 1) ≤ 12 * 6562 := Nat.mul_le_mul (by omega) (by omega)
  refine LFP.ix (fun k q => ∃ T om' ot' lv' F' X' P', q.1 = nI T ∧ wKeep h q.2 t a5 a6 a7 ∧ FwO q.2 t M Sc tr base L a5 a6 a7 om' ot' lv' F' X' P' ∧ FPu M Sc tr om' ot' lv' F' X' P' f ∧ P ≤ P' ∧ P' ≤ 12 ∧ Ext om ot F om' ot' F' ∧ T ≤ 90000 ∧ ((F < F' ∧ k = 0) ∨ (F' = F ∧ om' = om ∧ ot' = ot ∧ k = (12 - P') * (F + 1) + (F - X') + 1 ∧ T + k ≤ 90000))) ?_ (k := (12 - P) * (F + 1) + (F - X) + 1) ⟨0, om, ot, lv, F, X, P, rfl, ⟨Sm.refl, fun _ _ _ _ => rfl⟩, ho, hp, Nat.le_refl _, hP, Ext.refl, by omega, Or.inr ⟨rfl, rfl, rfl, rfl, by omega⟩⟩
  rintro Y k ⟨x2, g⟩ ⟨T, om1, ot1, lv1, F1, X1, P1, e1, e2, e3, e4, e5, e6, e7, e8, e9⟩ ih
  (try dsimp only at e1 e2 e3)
  subst e1
  have hroom1 := few_room h12 e3.hb e4
  have hL1 : F1 ≤ 6561 := by
    have := e3.2.1.2.2.2.1
    have := e3.2.2.1
    omega
  unfold F6_7 B6_88
  (try dsimp only)
  rw [if_neg (show ¬ (1000000 : Int32) ≤ nI T from nI_ge (b := 1000000) (by omega) (by omega)), e3.2.2.2.2.2.2.1]
  rcases e9 with ⟨z1, z2⟩ | ⟨z1, z2, z3, z4, z5⟩
  · rw [if_pos (fun q => by have := (nI_eq (by omega) (by omega)).mp q; omega), if_neg (nI_ge z1 (by omega))]
    exact k1 g om1 ot1 lv1 F1 X1 P1 e2 e3 e4 e5 e6 e7 z1
  · subst z1 z2 z3
    rw [if_neg (fun q => q rfl), e3.2.2.2.2.2.2.2.1, e3.2.2.2.2.2.2.2.2.1]
    have hX1 := e4.2.2.2.2.2.2.2
    by_cases ex : F1 ≤ X1
    · have ex' : X1 = F1 := by omega
      subst ex'
      rw [if_pos (nI_le (Nat.le_refl _) (by omega))]
      by_cases ep : 12 ≤ P1
      · rw [if_pos (show (12 : Int32) ≤ nI P1 from nI_le (a := 12) ep (by omega))]
        have : P1 = 12 := by omega
        subst this
        exact k0 g lv1 e2 e3 e4
      · rw [if_neg (show ¬ (12 : Int32) ≤ nI P1 from nI_ge (b := 12) (by omega) (by omega)), nI_1 P1]
        obtain ⟨s1, s2⟩ := e3.set (x := 0) (X' := 0) (P' := P1 + 1) rfl rfl
        have hk : (12 - (P1 + 1)) * (X1 + 1) + (X1 + 1) = (12 - P1) * (X1 + 1) := by
          rw [show 12 - P1 = (12 - (P1 + 1)) + 1 by omega, Nat.add_mul, Nat.one_mul]
        refine ih ((12 - (P1 + 1)) * (X1 + 1) + (X1 - 0) + 1) _ (by omega) ⟨T + 1, om1, ot1, lv1, X1, 0, P1 + 1, nI_1 T, e2.trans s2, s1, e4.up, by omega, by omega, Ext.refl, by omega, Or.inr ⟨rfl, rfl, rfl, rfl, by omega⟩⟩
    · rw [if_neg (nI_ge (by omega) (by omega))]
      have hmg := menu_w e2 ha hm
      have hBg : Bd g t M Sc tr base L a5 a6 a7 X1 P1 f g om1 ot1 lv1 F1 := ⟨Sm.refl, fun _ _ => rfl, e3, e4⟩
      refine S7 hw hc (by omega) e6 hmg hBg (by omega) (fun g1 om2 ot2 lv2 F2 w1 w2 w3 => ?_)
      obtain ⟨b1, b2, b3, b4⟩ := w1
      rw [b3.2.2.2.2.2.2.2.1, nI_1 X1]
      have hw2 : wKeep g g1 t a5 a6 a7 := ⟨b1, fun j j1 _ _ => b2 j j1⟩
      obtain ⟨s1, s2⟩ := b3.set (x := nI (X1 + 1)) (p := g1.I t 13) rfl b3.2.2.2.2.2.2.2.2.1
      have es : (g1.sI t 13 (g1.I t 13)) = g1 := by
        rw [sI_cI]
        have : upd (g1.I t) 13 (g1.I t 13) = g1.I t := by
          funext i
          unfold upd
          split
          · rename_i q; rw [q]
          · rfl
        rw [this, cI_self]
      rw [es] at s1 s2
      have e4' : FPu M Sc tr om2 ot2 lv2 F2 (X1 + 1) P1 f := by
        obtain ⟨c1, c2, c3, c4, c5, c6, c7, c8⟩ := b4
        refine ⟨c1, c2, c3, c4, fun i hi m' t' q => ?_, c6, c7, by have := w2.1; omega⟩
        by_cases ei : i = X1
        · subst ei
          have := w2.2 i (by omega)
          rw [this.1, this.2] at q
          exact w3 m' t' q
        · exact c5 i (by omega) m' t' q
      by_cases ef : F2 = F1
      · subst ef
        have eom : ∀ i, i < F2 → om2 i = om1 i ∧ ot2 i = ot1 i := w2.2
        have trs : FwO (g1.sI t 12 (nI (X1 + 1))) t M Sc tr base L a5 a6 a7 om1 ot1 lv2 F2 (X1 + 1) P1 ∧ FPu M Sc tr om1 ot1 lv2 F2 (X1 + 1) P1 f := by
          have ei : ∀ m u, inF om2 ot2 F2 m u ↔ inF om1 ot1 F2 m u := by
            intro m u
            constructor
            · rintro ⟨i, i1, i2, i3⟩
              exact ⟨i, i1, by rw [← (eom i i1).1]; exact i2, by rw [← (eom i i1).2]; exact i3⟩
            · rintro ⟨i, i1, i2, i3⟩
              exact ⟨i, i1, by rw [(eom i i1).1]; exact i2, by rw [(eom i i1).2]; exact i3⟩
          constructor
          · obtain ⟨o1, o2, o3, o4, o5, o6, o7, o8, o9, o10, o11, o12⟩ := s1
            refine ⟨o1, o2, o3, o4, o5, o6, o7, o8, o9, o10, fun i hi => ?_, fun m u hv => ?_⟩
            · have := o11 i hi
              rw [(eom i hi).1, (eom i hi).2] at this
              exact this
            · have := o12 m u hv
              rw [ei m u] at this
              exact this
          · obtain ⟨c1, c2, c3, c4, c5, c6, c7, c8⟩ := e4'
            refine ⟨fun i hi => ?_, fun i hi j hj q1 q2 => ?_, c3, (ei 0 0).mp c4, fun i hi m' t' q => ?_, fun i hi z m' t' q => ?_, fun Q z1 z2 m u q => ?_, c8⟩
            · have := c1 i hi
              rw [(eom i hi).1, (eom i hi).2] at this
              exact this
            · rw [← (eom i hi).1, ← (eom j hj).1] at q1
              rw [← (eom i hi).2, ← (eom j hj).2] at q2
              exact c2 i hi j hj q1 q2
            · rw [← (eom i (by omega)).1, ← (eom i (by omega)).2] at q
              exact (ei m' t').mp (c5 i hi m' t' q)
            · rw [← (eom i hi).1, ← (eom i hi).2] at q
              exact (ei m' t').mp (c6 i hi z m' t' q)
            · obtain ⟨i, i1, i2, i3, i4⟩ := c7 Q z1 z2 m u q
              exact ⟨i, i1, by rw [← (eom i i1).1]; exact i2, by rw [← (eom i i1).2]; exact i3, i4⟩
        refine ih ((12 - P1) * (F2 + 1) + (F2 - (X1 + 1)) + 1) _ (by omega) ⟨T + 1, om1, ot1, lv2, F2, X1 + 1, P1, nI_1 T, (e2.trans hw2).trans s2, trs.1, trs.2, e5, e6, Ext.refl, by omega, Or.inr ⟨rfl, rfl, rfl, rfl, by omega⟩⟩
      · refine ih 0 _ (by omega) ⟨T + 1, om2, ot2, lv2, F2, X1 + 1, P1, nI_1 T, (e2.trans hw2).trans s2, s1, e4', e5, e6, w2, by omega, Or.inl ⟨by have := w2.1; omega, rfl⟩⟩
/-- what a seeking for FEWEST comes to -/
def FSo (M : Nat → Int32) (Sc : Int32) (tr : Bool) (goal : Int32) (f : Nat) (r : Option Nat) : Prop := match r with
  | none => ¬ FGo M Sc tr goal 12
  | some p => FGo M Sc tr goal p ∧ p ≤ 12 ∧ ∀ Q, f ≤ Q → Q < p → ¬ FGo M Sc tr goal Q
theorem S5 {C : Int32 → TH → Prop} (hw : Wf M) (hc : clo M Sc) (hg : St (aN M) goal) (hfP : f ≤ P) (hP : P ≤ 12) (hm : h.P t 1 = some tm ∧ is3 tm ∧ CM h tm M) (ho : FwO h t M Sc tr base L a5 a6 a7 om ot lv F X P) (hp : FPu M Sc tr om ot lv F X P f)
    (kk : ∀ g om' ot' lv' F' X' P' r, wKeep h g t a5 a6 a7 → FwO g t M Sc tr base L a5 a6 a7 om' ot' lv' F' X' P' → FPu M Sc tr om' ot' lv' F' X' P' f → f ≤ P' → P' ≤ 12 → FSo M Sc tr goal f r → C (match r with | none => (-1) | some p => nI p) g) : W5 t goal h C := by
  have h12 := hw.n12
  have ha := ho.a222
  have ht := is0_rng ha.1
  have hst := ho.2.2.1
  have hL := ho.2.1.2.2.2.1
  unfold W5 B5_2
  refine LFP.up (base ^ fb_ct (bt Sc) 12) (fun j q => q.1 = nI j ∧ ∃ om' ot' lv' F' X' P', wKeep h q.2 t a5 a6 a7 ∧ FwO q.2 t M Sc tr base L a5 a6 a7 om' ot' lv' F' X' P' ∧ FPu M Sc tr om' ot' lv' F' X' P' f ∧ f ≤ P' ∧ P' ≤ 12 ∧ j ≤ F' ∧ ∀ i, i < j → ¬ (ot' i = 0 ∧ sb goal (om' i))) ?_ ?_ (Nat.zero_le _) ⟨rfl, om, ot, lv, F, X, P, ⟨Sm.refl, fun _ _ _ _ => rfl⟩, ho, hp, hfP, hP, Nat.zero_le _, fun i hi => absurd hi (Nat.not_lt_zero _)⟩
  · rintro Y j ⟨x2, g⟩ hj ⟨e1, om1, ot1, lv1, F1, X1, P1, e2, e3, e4, e5, e6, e7, e8⟩ ih
    (try dsimp only at e1 e2 e3)
    subst e1
    have hroom1 := few_room h12 e3.hb e4
    /- at a state that is found -/
    have at5 : ∀ g2 om2 ot2 lv2 F2 X2 P2, wKeep h g2 t a5 a6 a7 → FwO g2 t M Sc tr base L a5 a6 a7 om2 ot2 lv2 F2 X2 P2 → FPu M Sc tr om2 ot2 lv2 F2 X2 P2 f → f ≤ P2 → P2 ≤ 12 → j < F2 → (∀ i, i < j → ¬ (ot2 i = 0 ∧ sb goal (om2 i))) → B5_27 t goal (nI j) g2 C Y := by
      intro g2 om2 ot2 lv2 F2 X2 P2 s1 s2 s3 s4 s5 s6 s7
      have hroom2 := few_room h12 s2.hb s3
      obtain ⟨hv, hR, hlf, hlP⟩ := s3.1 j s6
      obtain ⟨o1, o2, o3, o4, o5, o6, o7, o8, o9, o10, o11, o12⟩ := s2
      have s2' : FwO g2 t M Sc tr base L a5 a6 a7 om2 ot2 lv2 F2 X2 P2 := ⟨o1, o2, o3, o4, o5, o6, o7, o8, o9, o10, o11, o12⟩
      obtain ⟨⟨p5, p6, p7⟩, ⟨k5, k6, k7⟩, ⟨n5, n6, n7⟩, l1, -⟩ := o2
      obtain ⟨x, y, hx, hy, ex, ey, q1, q2, q3⟩ := ord_dec h12 hv.1 hv.2.1
      have ok5 : okA g2 a5 100 (nI j) := okA_n k5 (by omega) (by omega)
      have ok6 : okA g2 a6 100 (nI j) := okA_n k6 (by omega) (by omega)
      have nxt : ¬ (ot2 j = 0 ∧ sb goal (om2 j)) → Y (nI j + 1, g2) := by
        intro ng
        refine ih _ ⟨nI_1 j, om2, ot2, lv2, F2, X2, P2, s1, s2', s3, s4, s5, by omega, fun i hi => ?_⟩
        by_cases e : i = j
        · rw [e]; exact ng
        · exact s7 i (by omega)
      have z0 : ot2 j = 0 ↔ y = 0 := by
        rw [ey, show (0 : Int32) = nI 0 from rfl, nI_eq (by omega) (by omega)]
      unfold B5_27
      rw [R_of p5, R_of p6, ix_n (by omega), (o11 j s6).1, (o11 j s6).2, q1]
      refine ⟨p5, ok5, ?_⟩
      by_cases e : nI (y * 4096 + x) &&& goal = goal
      · rw [if_neg (fun q => q e)]
        refine ⟨p5, ok5, ?_⟩
        by_cases ey0 : y = 0
        · rw [if_neg (show ¬ (4096 : Int32) ≤ nI (y * 4096 + x) from nI_ge (b := 4096) (by omega) (by omega))]
          refine ⟨p6, ok6, ?_⟩
          have eo : ot2 j = 0 := z0.mpr ey0
          rw [ey0, Nat.zero_mul, Nat.zero_add, ← ex] at e
          have hsub := bt_sup.mp e
          refine kk g2 om2 ot2 lv2 F2 X2 P2 (some (lv2 j)) s1 s2' s3 s4 s5 ⟨⟨om2 j, by rw [← eo]; exact hR, hsub⟩, by omega, fun Q z1 z2 z3 => ?_⟩
          obtain ⟨m, w1, w2⟩ := z3
          obtain ⟨i, i1, i2, i3, i4⟩ := s3.2.2.2.2.2.2.1 Q z1 (by omega) m 0 w1
          have hij : i < j := by
            rcases Nat.lt_or_ge i j with q | q
            · exact q
            · exfalso
              rcases Nat.lt_or_ge j i with q5 | q5
              · have := s3.2.2.1 j i q5 i1
                omega
              · rw [show i = j by omega] at i4; omega
          exact s7 i hij ⟨i3, by rw [i2]; exact w2⟩
        · rw [if_pos (show (4096 : Int32) ≤ nI (y * 4096 + x) from nI_le (a := 4096) (by omega) (by omega))]
          exact nxt (fun z => ey0 (z0.mp z.1))
      · rw [if_pos e]
        refine nxt (fun z => e ?_)
        rw [z0.mp z.1, Nat.zero_mul, Nat.zero_add, ← ex]
        exact bt_sup.mpr z.2
    unfold F5_2
    (try dsimp only)
    rw [e3.2.2.2.2.2.1, if_neg (nI_ge hj (by omega)), e3.2.2.2.2.2.2.1]
    by_cases e : j < F1
    · rw [if_pos (nI_lt e (by omega))]
      exact at5 g om1 ot1 lv1 F1 X1 P1 e2 e3 e4 e5 e6 e e8
    · rw [if_neg (nI_nlt (by omega) (by omega))]
      refine S6 hw hc e5 e6 (menu_w e2 ha hm) e3 e4 (fun g2 om2 ot2 lv2 F2 X2 P2 s1 s2 s3 s4 s5 s6 s7 => ?_) (fun g2 lv2 s1 s2 s3 => ?_)
      · rw [if_pos (by decide)]
        refine at5 g2 om2 ot2 lv2 F2 X2 P2 (e2.trans s1) s2 s3 (by omega) s5 (by omega) (fun i hi => ?_)
        have := s6.2 i (by omega)
        rw [this.1, this.2]
        exact e8 i hi
      · rw [if_neg (fun q => q rfl)]
        refine kk g2 om1 ot1 lv2 F1 F1 12 none (e2.trans s1) s2 s3 (by omega) (Nat.le_refl _) ?_
        rintro ⟨m, w1, w2⟩
        obtain ⟨i, i1, i2, i3⟩ := s3.all w1
        exact e8 i (by omega) ⟨i3, by rw [i2]; exact w2⟩
  · rintro Y ⟨x2, g⟩ ⟨e1, om1, ot1, lv1, F1, X1, P1, e2, e3, e4, e5, e6, e7, e8⟩
    (try dsimp only at e1 e2 e3)
    subst e1
    have hroom1 := few_room h12 e3.hb e4
    unfold F5_2
    (try dsimp only)
    rw [e3.2.2.2.2.2.1, if_pos (nI_le (Nat.le_refl _) (by omega))]
    refine kk g om1 ot1 lv1 F1 X1 P1 none e2 e3 e4 e5 e6 ?_
    rintro ⟨m, w1, w2⟩
    have hv := w1.fv hw hc
    have hb := e3.hb
    have eF : F1 = base ^ fb_ct (bt Sc) 12 := by omega
    obtain ⟨i, i1, i2⟩ := fb_onto (n := base ^ fb_ct (bt Sc) 12) (f := fun i => sn Sc base (om1 i) (ot1 i)) (fun i hi => sn_lt (e4.1 i (by omega)).1 hb) (fun i j hij hj q => by
      have := sn_inj h12 (e4.1 i (by omega)).1 (e4.1 j (by omega)).1 hb q
      have := e4.2.1 i (by omega) j (by omega) this.1 this.2
      omega) (sn_lt hv hb)
    have := sn_inj h12 (e4.1 i (by omega)).1 hv hb i2
    exact e8 i i1 ⟨this.2, by rw [this.1]; exact w2⟩
end FK
