/-! on from one state; on with the search -/
section FO
variable {h h' h0 : TH} {M : Nat → Int32} {Sc : Int32} {tr : Bool} {base L t tm a5 a6 a7 : Nat} {om ot : Nat → Int32} {lv : Nat → Nat} {F X P f d : Nat} {m u : Int32} {C : TH → Prop}
theorem Bd.a222 (hB : Bd h0 t M Sc tr base L a5 a6 a7 X P f h om ot lv F) : is0 t ∧ 222 ≤ a5 ∧ 222 ≤ a6 ∧ 222 ≤ a7 := by
  obtain ⟨b1, b2, ho, hp⟩ := hB
  obtain ⟨o1, o2, o3, o4, -⟩ := ho
  obtain ⟨-, -, -, l1, -, l2, -⟩ := o2
  have b0 : 0 < base := by omega
  have : 0 < base ^ fb_ct (bt Sc) 12 := Nat.pow_pos b0
  exact ⟨o1.1, by omega⟩
theorem Bd.menu (hB : Bd h0 t M Sc tr base L a5 a6 a7 X P f h om ot lv F) (hm : h0.P t 1 = some tm ∧ is3 tm ∧ CM h0 tm M) : h.P t 1 = some tm ∧ is3 tm ∧ CM h tm M := by
  obtain ⟨q1, q2⟩ := hB.a222
  have ht := is0_rng q1
  have r3 := is3_rng hm.2.1
  exact ⟨by rw [hB.1.P]; exact hm.1, hm.2.1, hm.2.2.frame (fun a z1 z2 => hB.1.I (by unfold inFw; omega))⟩
def mkD (M : Nat → Int32) (P : Nat) (m t : Int32) (d : Nat) (m' t' : Int32) : Prop := nP M d &&& ((m ||| t) ^^^ (-1)) = 0 ∧ gP M d &&& (m ||| t) = 0 ∧ pc ((m ||| t) ||| gP M d) ≤ P ∧ m' = (m ||| gP M d) &&& (gone M d ^^^ (-1)) ∧ t' = t &&& (gone M d ^^^ (-1))
def poD (M : Nat → Int32) (m t : Int32) (d o : Nat) (m' t' : Int32) : Prop := aPo M d = 1 ∧ aPa M d = (-1) ∧ bt (m ||| t) d = false ∧ aNe M d &&& ((m ||| t) ^^^ (-1)) = 0 ∧ bt (aNe M d) o = true ∧ bt m o = true ∧ m' = poW m d o &&& (gone M d ^^^ (-1)) ∧ t' = t &&& (gone M d ^^^ (-1))
theorem pc_dis {a b : Int32} (h : a &&& b = 0) : pc (b ||| a) = pc b + pc a := by
  rw [bt_dis] at h
  unfold pc
  rw [← fb_ct_or (p := bt b) (q := bt a) (fun k hk q => by have := h k (by omega) q.2; rw [q.1] at this; exact absurd this (by decide))]
  exact fb_ct_cong (fun k _ => bt_or b a k)
theorem S9 (hw : Wf M) (hc : clo M Sc) (hf : f ≤ P) (hP : P ≤ 12) (hm : h0.P t 1 = some tm ∧ is3 tm ∧ CM h0 tm M) (hB : Bd h0 t M Sc tr base L a5 a6 a7 X P f h om ot lv F) (hR : Rs M Sc tr P m u) (hd : d < aN M) (hS : bt Sc d = true) (kk : ∀ g om' ot' lv' F', Bd h0 t M Sc tr base L a5 a6 a7 X P f g om' ot' lv' F' → Ext om ot F om' ot' F' → (∀ m' t', mkD M P m u d m' t' → inF om' ot' F' m' t') → C g) : W9 t m u (nI d) (nI (P - pc (m ||| u))) h C := by
  have h12 := hw.n12
  obtain ⟨q1, q2, q3⟩ := hB.menu hm
  have hpc : pc (m ||| u) ≤ P := (hR.inv hw hc).2.2.2.2.2
  have pg := pc_le (gP M d)
  have no : (¬ (nP M d &&& ((m ||| u) ^^^ (-1)) = 0 ∧ gP M d &&& (m ||| u) = 0 ∧ pc ((m ||| u) ||| gP M d) ≤ P)) → C h := fun z => kk h om ot lv F hB Ext.refl (fun m' t' y => absurd ⟨y.1, y.2.1, y.2.2.1⟩ z)
  unfold W9
  rw [R_of q1, ix_n (by omega), (q3.g hd).1, (q3.g hd).2.1]
  refine ⟨q1, q2, inb_n (by omega), q1, q2, inb_n (by omega), ?_⟩
  by_cases e1 : nP M d &&& ((m ||| u) ^^^ (-1)) = 0
  · rw [if_neg (fun q => q e1)]
    by_cases e2 : gP M d &&& (m ||| u) = 0
    · rw [if_neg (fun q => q e2)]
      refine S327 (St_mono (hw.gS hd) h12) ?_
      have es := pc_dis e2
      by_cases e3 : pc (gP M d) ≤ P - pc (m ||| u)
      · rw [if_neg (nI_nlt e3 (by omega))]
        refine ⟨q1, q2, S63 hw q3.r q3.2.1 d rfl hd ?_⟩
        have hst : Fs M Sc tr P m u ((m ||| gP M d) &&& (gone M d ^^^ (-1))) (u &&& (gone M d ^^^ (-1))) := ⟨d, hd, hS, Or.inr (Or.inr (Or.inl ⟨e1, e2, by omega, rfl, rfl⟩))⟩
        refine S12 hw hc hf hP hB (hR.step hst) (fun g om' ot' lv' F' z1 z2 z3 => kk g om' ot' lv' F' z1 z2 (fun m' t' y => ?_))
        rw [y.2.2.2.1, y.2.2.2.2]
        exact z3
      · rw [if_pos (nI_lt (by omega) (by omega))]
        exact no (fun z => by have := z.2.2; omega)
    · rw [if_pos e2]; exact no (fun z => e2 z.2.1)
  · rw [if_pos e1]; exact no (fun z => e1 z.1)
theorem S10 (hw : Wf M) (hc : clo M Sc) (hf : f ≤ P) (hP : P ≤ 12) (hm : h0.P t 1 = some tm ∧ is3 tm ∧ CM h0 tm M) (hB : Bd h0 t M Sc tr base L a5 a6 a7 X P f h om ot lv F) (hR : Rs M Sc tr P m u) (hd : d < aN M) (hS : bt Sc d = true) (hnd : bt (m ||| u) d = false) (kk : ∀ g om' ot' lv' F', Bd h0 t M Sc tr base L a5 a6 a7 X P f g om' ot' lv' F' → Ext om ot F om' ot' F' → (∀ o m' t', o < d → poD M m u d o m' t' → inF om' ot' F' m' t') → C g) : W10 t m u (nI d) h C := by
  have h12 := hw.n12
  obtain ⟨q1, q2, q3⟩ := hB.menu hm
  have no : (¬ (aPo M d = 1 ∧ aNe M d &&& ((m ||| u) ^^^ (-1)) = 0 ∧ aPa M d = (-1))) → B10_45 t m u (nI d) 0 h C := by
    intro z
    unfold B10_45 B10_60
    rw [R_of q1]
    refine ⟨q1, q2, S63 hw q3.r q3.2.1 d rfl hd ?_⟩
    refine LFP.ix (fun k q => q = (0, h)) ?_ (k := 0) rfl
    rintro Y k q rfl _
    unfold F10_60
    (try dsimp only)
    have : C h := kk h om ot lv F hB Ext.refl (fun o m' t' _ y => absurd ⟨y.1, y.2.2.2.1, y.2.1⟩ z)
    split
    · exact this
    · rw [if_pos rfl]; exact this
  unfold W10 B10_44
  rw [R_of q1, ix_n (by omega), q3.r.ne hd]
  refine ⟨q1, q2, S60 hw q3.r d rfl hd (fun e1 => ?_) (fun e1 => ?_)⟩
  · rw [if_neg (by decide)]
    refine ⟨q1, q2, inb_n (by omega), ?_⟩
    by_cases e2 : aNe M d &&& ((m ||| u) ^^^ (-1)) = 0
    · rw [if_neg (fun q => q e2)]
      refine ⟨q1, q2, S61 hw q3.r d rfl hd (fun e3 => ?_) (fun e3 => ?_)⟩
      · rw [if_neg (by decide)]
        unfold B10_45 B10_60
        rw [R_of q1]
        refine ⟨q1, q2, S63 hw q3.r q3.2.1 d rfl hd ?_⟩
        refine LFP.up d (fun o q => q.1 = nI o ∧ ∃ om' ot' lv' F', Bd h0 t M Sc tr base L a5 a6 a7 X P f q.2 om' ot' lv' F' ∧ Ext om ot F om' ot' F' ∧ ∀ o' m' t', o' < o → poD M m u d o' m' t' → inF om' ot' F' m' t') ?_ ?_ (Nat.zero_le _) ⟨rfl, om, ot, lv, F, hB, Ext.refl, fun o' m' t' ho' => absurd ho' (Nat.not_lt_zero _)⟩
        · rintro Y o ⟨x6, g⟩ ho ⟨y1, om1, ot1, lv1, F1, y2, y3, y4⟩ ih
          (try dsimp only at y1 y2)
          subst y1
          obtain ⟨p1, p2, p3⟩ := y2.menu hm
          unfold F10_60
          (try dsimp only)
          rw [if_neg (nI_ge ho (by omega)), if_neg (by decide), R_of p1, ix_n (by omega), p3.r.ne hd]
          refine ⟨p1, p2, inb_n (by omega), ?_⟩
          cases eb : bt (aNe M d &&& m) o
          · rw [if_pos ((bt_in (by omega)).mpr eb)]
            refine ih _ ⟨nI_1 o, om1, ot1, lv1, F1, y2, y3, fun o' m' t' ho' hp => ?_⟩
            by_cases eo : o' = o
            · subst eo
              rw [bt_and, hp.2.2.2.2.1, hp.2.2.2.2.2.1] at eb
              exact absurd eb (by decide)
            · exact y4 o' m' t' (by omega) hp
          · rw [if_neg ((bt_in' (by omega)).mpr eb)]
            rw [bt_and] at eb
            simp only [Bool.and_eq_true] at eb
            have hst : Fs M Sc tr P m u (poW m d o &&& (gone M d ^^^ (-1))) (u &&& (gone M d ^^^ (-1))) := ⟨d, hd, hS, Or.inr (Or.inr (Or.inr (Or.inl ⟨o, ho, e1, e3, hnd, e2, eb.1, eb.2, rfl, rfl⟩)))⟩
            refine S12 hw hc hf hP y2 (hR.step hst) (fun g' om' ot' lv' F' z1 z2 z3 => ih _ ⟨nI_1 o, om', ot', lv', F', z1, y3.trans z2, fun o' m' t' ho' hp => ?_⟩)
            by_cases eo : o' = o
            · subst eo
              rw [hp.2.2.2.2.2.2.1, hp.2.2.2.2.2.2.2]
              exact z3
            · exact z2.inf (y4 o' m' t' (by omega) hp)
        · rintro Y ⟨x6, g⟩ ⟨y1, om1, ot1, lv1, F1, y2, y3, y4⟩
          (try dsimp only at y1 y2)
          subst y1
          unfold F10_60
          (try dsimp only)
          rw [if_pos (nI_le (Nat.le_refl _) (by omega))]
          exact kk g om1 ot1 lv1 F1 y2 y3 (fun o m' t' ho hp => y4 o m' t' ho hp)
      · rw [if_pos rfl]; exact no (fun z => e3 z.2.2)
    · rw [if_pos e2]; exact no (fun z => e2 z.2.1)
  · rw [if_pos rfl]; exact no (fun z => absurd (e1.symm.trans z.1) (by decide))
/-- by one DISH -/
def FsD (M : Nat → Int32) (tr : Bool) (P : Nat) (m t : Int32) (d : Nat) (m' t' : Int32) : Prop :=
  (bt m d = true ∧ m' = m &&& (ishl 1 (nI d) ^^^ (-1)) ∧ t' = t) ∨
   (bt t d = true ∧ aNe M d &&& ((m ||| t) ^^^ (-1)) = 0 ∧ m' = m ∧ t' = t &&& (ishl 1 (nI d) ^^^ (-1))) ∨
   mkD M P m t d m' t' ∨ (∃ o, o < d ∧ poD M m t d o m' t') ∨
   (tr = true ∧ bt (m ||| t) d = false ∧ pc (m ||| t) < P ∧ m' = m ∧ t' = t ||| ishl 1 (nI d))
theorem FwO.trI (ho : FwO h t M Sc tr base L a5 a6 a7 om ot lv F X P) : (tr = false ∧ h.I t 0 = 0) ∨ (tr = true ∧ ¬ h.I t 0 = 0) := ho.2.2.2.1.elim (fun q => Or.inl q.2) (fun q => Or.inr q.2)
theorem S7b (hw : Wf M) (hc : clo M Sc) (hf : f ≤ P) (hP : P ≤ 12) (hm : h0.P t 1 = some tm ∧ is3 tm ∧ CM h0 tm M) (hB : Bd h0 t M Sc tr base L a5 a6 a7 X P f h om ot lv F) (hR : Rs M Sc tr P m u) (kk : ∀ g om' ot' lv' F', Bd h0 t M Sc tr base L a5 a6 a7 X P f g om' ot' lv' F' → Ext om ot F om' ot' F' → (∀ m' t', Fs M Sc tr P m u m' t' → inF om' ot' F' m' t') → C g) : B7_58 t m u (nI (P - pc (m ||| u))) 0 h C := by
  have h12 := hw.n12
  have hpc : pc (m ||| u) ≤ P := (hR.inv hw hc).2.2.2.2.2
  have hdis := (hR.inv hw hc).2.2.1
  unfold B7_58
  refine LFP.up (aN M) (fun j q => q.1 = nI j ∧ ∃ om' ot' lv' F', Bd h0 t M Sc tr base L a5 a6 a7 X P f q.2 om' ot' lv' F' ∧ Ext om ot F om' ot' F' ∧ ∀ d m' t', d < j → bt Sc d = true → FsD M tr P m u d m' t' → inF om' ot' F' m' t') ?_ ?_ (Nat.zero_le _) ⟨rfl, om, ot, lv, F, hB, Ext.refl, fun d m' t' hd => absurd hd (Nat.not_lt_zero _)⟩
  · rintro Y d ⟨x5, g⟩ hd ⟨y1, om1, ot1, lv1, F1, y2, y3, y4⟩ ih
    (try dsimp only at y1 y2)
    subst y1
    obtain ⟨p1, p2, p3⟩ := y2.menu hm
    /- what is left to show for the next DISH -/
    have nxt : ∀ g' om' ot' lv' F', Bd h0 t M Sc tr base L a5 a6 a7 X P f g' om' ot' lv' F' → Ext om1 ot1 F1 om' ot' F' → (bt Sc d = true → ∀ m' t', FsD M tr P m u d m' t' → inF om' ot' F' m' t') → Y (nI d + 1, g') := by
      intro g' om' ot' lv' F' z1 z2 z3
      refine ih _ ⟨nI_1 d, om', ot', lv', F', z1, y3.trans z2, fun d' m' t' hd' hs hq => ?_⟩
      by_cases e : d' = d
      · subst e; exact z3 hs m' t' hq
      · exact z2.inf (y4 d' m' t' (by omega) hs hq)
    unfold F7_58
    (try dsimp only)
    rw [R_of p1, p3.r.n, if_neg (nI_ge hd (by omega)), y2.2.2.1.2.2.2.2.1]
    refine ⟨p1, p2, ?_⟩
    cases eS : bt Sc d
    · rw [if_neg (fun q => q ((bt_in (by omega)).mpr eS))]
      exact nxt g om1 ot1 lv1 F1 y2 Ext.refl (fun q => absurd (eS.symm.trans q) (by decide))
    · rw [if_pos ((bt_in' (by omega)).mpr eS)]
      cases em : bt m d
      · rw [if_pos ((bt_in (by omega)).mpr em)]
        cases eu : bt u d
        · rw [if_pos ((bt_in (by omega)).mpr eu)]
          have enb : bt (m ||| u) d = false := by rw [bt_or, em, eu]; rfl
          refine S9 hw hc hf hP hm y2 hR hd eS (fun g2 om2 ot2 lv2 F2 z1 z2 z3 => ?_)
          refine S10 hw hc hf hP hm z1 hR hd eS enb (fun g3 om3 ot3 lv3 F3 w1 w2 w3 => ?_)
          have rest : ∀ g4 om4 ot4 lv4 F4, Bd h0 t M Sc tr base L a5 a6 a7 X P f g4 om4 ot4 lv4 F4 → Ext om3 ot3 F3 om4 ot4 F4 → ((tr = true ∧ pc (m ||| u) < P) → inF om4 ot4 F4 m (u ||| ishl 1 (nI d))) → Y (nI d + 1, g4) := by
            intro g4 om4 ot4 lv4 F4 v1 v2 v3
            refine nxt g4 om4 ot4 lv4 F4 v1 (z2.trans (w2.trans v2)) (fun _ m' t' hq => ?_)
            rcases hq with ⟨q, _⟩ | ⟨q, _⟩ | q | ⟨o, q1, q2⟩ | ⟨q1, q2, q3, q4, q5⟩
            · exact absurd (em.symm.trans q) (by decide)
            · exact absurd (eu.symm.trans q) (by decide)
            · exact (w2.trans v2).inf (z3 m' t' q)
            · exact v2.inf (w3 o m' t' q1 q2)
            · rw [q4, q5]; exact v3 ⟨q1, q3⟩
          unfold W11
          have tI := w1.2.2.1.trI
          rcases tI with ⟨t1, t2⟩ | ⟨t1, t2⟩
          · rw [if_pos t2]
            exact rest g3 om3 ot3 lv3 F3 w1 Ext.refl (fun q => absurd (t1.symm.trans q.1) (by decide))
          · rw [if_neg t2]
            by_cases ef : P - pc (m ||| u) < 1
            · rw [if_pos (show nI (P - pc (m ||| u)) < 1 from nI_lt (b := 1) ef (by omega))]
              exact rest g3 om3 ot3 lv3 F3 w1 Ext.refl (fun q => by have := q.2; omega)
            · rw [if_neg (show ¬ nI (P - pc (m ||| u)) < 1 from nI_nlt (b := 1) (by omega) (by omega))]
              have hst : Fs M Sc tr P m u m (u ||| ishl 1 (nI d)) := ⟨d, hd, eS, Or.inr (Or.inr (Or.inr (Or.inr ⟨t1, enb, by omega, rfl, rfl⟩)))⟩
              exact S12 hw hc hf hP w1 (hR.step hst) (fun g4 om4 ot4 lv4 F4 v1 v2 v3 => rest g4 om4 ot4 lv4 F4 v1 v2 (fun _ => v3))
        · rw [if_neg ((bt_in' (by omega)).mpr eu)]
          /- to SHOW -/
          have only : ∀ g' om' ot' lv' F', Bd h0 t M Sc tr base L a5 a6 a7 X P f g' om' ot' lv' F' → Ext om1 ot1 F1 om' ot' F' → (aNe M d &&& ((m ||| u) ^^^ (-1)) = 0 → inF om' ot' F' m (u &&& (ishl 1 (nI d) ^^^ (-1)))) → Y (nI d + 1, g') := by
            intro g' om' ot' lv' F' z1 z2 z3
            refine nxt g' om' ot' lv' F' z1 z2 (fun _ m' t' hq => ?_)
            rcases hq with ⟨q, _⟩ | ⟨q1, q2, q3, q4⟩ | q | ⟨o, q1, q2⟩ | ⟨q1, q2, q3, q4, q5⟩
            · exact absurd (em.symm.trans q) (by decide)
            · rw [q3, q4]; exact z3 q2
            · have := q.2.1
              rw [bt_dis] at this
              have := this d (by omega) (Wf.gd (by omega))
              rw [bt_or, em, eu] at this
              exact absurd this (by decide)
            · have := q2.2.2.1
              rw [bt_or, em, eu] at this
              exact absurd this (by decide)
            · rw [bt_or, em, eu] at q2
              exact absurd q2 (by decide)
          unfold W8
          rw [R_of p1, ix_n (by omega), p3.r.ne hd]
          refine ⟨p1, p2, inb_n (by omega), ?_⟩
          by_cases e2 : aNe M d &&& ((m ||| u) ^^^ (-1)) = 0
          · rw [if_neg (fun q => q e2)]
            have hst : Fs M Sc tr P m u m (u &&& (ishl 1 (nI d) ^^^ (-1))) := ⟨d, hd, eS, Or.inr (Or.inl ⟨eu, e2, rfl, rfl⟩)⟩
            exact S12 hw hc hf hP y2 (hR.step hst) (fun g4 om4 ot4 lv4 F4 v1 v2 v3 => only g4 om4 ot4 lv4 F4 v1 v2 (fun _ => v3))
          · rw [if_pos e2]
            exact only g om1 ot1 lv1 F1 y2 Ext.refl (fun q => absurd q e2)
      · rw [if_neg ((bt_in' (by omega)).mpr em)]
        have eu := hdis d (by omega) em
        have hst : Fs M Sc tr P m u (m &&& (ishl 1 (nI d) ^^^ (-1))) u := ⟨d, hd, eS, Or.inl ⟨em, rfl, rfl⟩⟩
        refine S12 hw hc hf hP y2 (hR.step hst) (fun g4 om4 ot4 lv4 F4 v1 v2 v3 => nxt g4 om4 ot4 lv4 F4 v1 v2 (fun _ m' t' hq => ?_))
        rcases hq with ⟨q1, q2, q3⟩ | ⟨q, _⟩ | q | ⟨o, q1, q2⟩ | ⟨q1, q2, q3, q4, q5⟩
        · rw [q2, q3]; exact v3
        · exact absurd (eu.symm.trans q) (by decide)
        · have := q.2.1
          rw [bt_dis] at this
          have := this d (by omega) (Wf.gd (by omega))
          rw [bt_or, em] at this
          exact absurd this (by simp)
        · have := q2.2.2.1
          rw [bt_or, em] at this
          exact absurd this (by simp)
        · rw [bt_or, em] at q2
          exact absurd q2 (by simp)
  · rintro Y ⟨x5, g⟩ ⟨y1, om1, ot1, lv1, F1, y2, y3, y4⟩
    (try dsimp only at y1 y2)
    subst y1
    obtain ⟨p1, p2, p3⟩ := y2.menu hm
    unfold F7_58
    (try dsimp only)
    rw [R_of p1, p3.r.n, if_pos (nI_le (Nat.le_refl _) (by omega))]
    refine ⟨p1, p2, kk g om1 ot1 lv1 F1 y2 y3 (fun m' t' hq => ?_)⟩
    obtain ⟨d, hd, hS, hq⟩ := hq
    refine y4 d m' t' hd hS ?_
    rcases hq with q | q | q | ⟨o, q1, q2⟩ | q
    · exact Or.inl q
    · exact Or.inr (Or.inl q)
    · exact Or.inr (Or.inr (Or.inl q))
    · exact Or.inr (Or.inr (Or.inr (Or.inl ⟨o, q1, q2⟩)))
    · exact Or.inr (Or.inr (Or.inr (Or.inr q)))
/-- order's number and back -/
theorem ord_dec {n : Nat} (hn : n ≤ 12) {a b : Int32} (ha : St n a) (hb : St n b) : ∃ x y, x < 4096 ∧ y < 4096 ∧ a = nI x ∧ b = nI y ∧ b * 4096 + a = nI (y * 4096 + x) ∧ irem (nI (y * 4096 + x)) 4096 = nI x ∧ nI (y * 4096 + x) / 4096 = nI y := by
  obtain ⟨x, hx, rfl⟩ := St_mono ha hn
  obtain ⟨y, hy, rfl⟩ := St_mono hb hn
  refine ⟨x, y, by omega, by omega, rfl, rfl, ?_, ?_, ?_⟩
  · show nI y * nI 4096 + nI x = _
    rw [pk_mul, nI_add]
  · rw [show irem (nI (y * 4096 + x)) 4096 = nI ((y * 4096 + x) % 4096) from pk_rem (d := 4096) (by omega) (by omega) (by omega)]
    exact congrArg nI (by omega)
  · rw [show nI (y * 4096 + x) / 4096 = nI ((y * 4096 + x) / 4096) from pk_div (d := 4096) (by omega) (by omega) (by omega)]
    exact congrArg nI (by omega)
theorem S7 (hw : Wf M) (hc : clo M Sc) (hf : f ≤ P) (hP : P ≤ 12) (hm : h0.P t 1 = some tm ∧ is3 tm ∧ CM h0 tm M) (hB : Bd h0 t M Sc tr base L a5 a6 a7 X P f h om ot lv F) (hX : X < F) (kk : ∀ g om' ot' lv' F', Bd h0 t M Sc tr base L a5 a6 a7 X P f g om' ot' lv' F' → Ext om ot F om' ot' F' → (∀ m' t', Fs M Sc tr P (om X) (ot X) m' t' → inF om' ot' F' m' t') → C g) : W7 t (nI X) h C := by
  have h12 := hw.n12
  obtain ⟨hv, hR0, hlf, hlP⟩ := hB.2.2.2.1 X hX
  have hR := hR0.mono hlP
  have hpc : pc (om X ||| ot X) ≤ lv X := (hR0.inv hw hc).2.2.2.2.2
  have hroom := few_room h12 hB.2.2.1.hb hB.2.2.2
  obtain ⟨o1, o2, o3, o4, o5, o6, o7, o8, o9, o10, o11, o12⟩ := hB.2.2.1
  obtain ⟨⟨p5, p6, p7⟩, ⟨k5, k6, k7⟩, ⟨n5, n6, n7⟩, l1, -⟩ := o2
  obtain ⟨x, y, hx, hy, ex, ey, e1, e2, e3⟩ := ord_dec h12 hv.1 hv.2.1
  unfold W7
  rw [R_of p5, R_of p6, ix_n (by omega), (o11 X hX).1, (o11 X hX).2, e1, e2, e3, o9, ← ex, ← ey]
  have ok5 : okA h a5 100 (nI X) := okA_n k5 (by omega) (by omega)
  have ok6 : okA h a6 100 (nI X) := okA_n k6 (by omega) (by omega)
  refine ⟨p5, ok5, p5, ok5, S327 (St_mono (St_or hv.1 hv.2.1) h12) ⟨p6, ok6, ?_⟩⟩
  rw [show nI P - nI (pc (om X ||| ot X)) = nI (P - pc (om X ||| ot X)) from pk_sub (by omega)]
  have go := S7b (C := C) hw hc hf hP hm hB hR kk
  by_cases z : P ≤ lv X
  · rw [if_pos (nI_le z (by omega))]; exact go
  · rw [if_neg (nI_ge (by omega) (by omega))]
    by_cases z2 : P - pc (om X ||| ot X) ≤ 2
    · rw [if_pos (show nI (P - pc (om X ||| ot X)) ≤ 2 from nI_le (b := 2) z2 (by omega))]; exact go
    · rw [if_neg (show ¬ nI (P - pc (om X ||| ot X)) ≤ 2 from nI_ge (a := 2) (by omega) (by omega))]
      refine kk h om ot lv F hB Ext.refl (fun m' t' hq => ?_)
      exact hB.2.2.2.2.2.2.2.2.1 X hX (by omega) m' t' (hq.less hw (by omega))
end FO
