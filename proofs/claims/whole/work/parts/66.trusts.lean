/-! FEWEST POTS WITH TRUST, at the reference -/
def CT (h0 : TH) (M : Nat → Int32) (Sc : Int32) (P : Nat) (fw : Nat → Nat) (k : Nat) (g : TH) (q : Nat → Nat) (F : Nat) : Prop := cKeep h0 g ∧ Cq g 6561 q F ∧ ∀ i, i < F → ∃ m t, Rs M Sc true P m t ∧ q i = vn fw k m t
section TT
variable {h0 h g : TH} {M : Nat → Int32} {Sc goal m t : Int32} {F k P d : Nat} {q fw : Nat → Nat}
theorem Fw.keep (hf : Fw h Sc fw k) (hk : cKeep h g) : Fw g Sc fw k := ⟨hf.1, by rw [hk.2 35 (by omega)]; exact hf.2.1, fun i hi => by rw [hk.1.I (by unfold in212; omega)]; exact hf.2.2.1 i hi, hf.2.2.2⟩
theorem CT.add {C : TH → Prop} (hw : Wf M) (hc : clo M Sc) (hf : Fw h0 Sc fw k) (hC : CT h0 M Sc P fw k g q F) (hr : Rs M Sc true P m t) (kk : ∀ g' q' F', CT h0 M Sc P fw k g' q' F' → CqE q F q' F' → inQ q' F' (vn fw k m t) → C g') : W299 m t g (fun v => W295 v g C) := by
  have h12 := hw.n12
  have hi := hr.inv hw hc
  refine S299 h12 (hf.keep hC.1) hi.1 hi.2.1 ?_
  refine S295 (Nat.le_refl _) hC.2.1 rfl (vn_lt hf.1) (fun g' q' F' k1 k2 k3 k4 k5 => kk g' q' F' ⟨hC.1.trans k1, k2, fun i hi => ?_⟩ k3 k4)
  rcases Nat.lt_or_ge i F with z | z
  · rw [k3.2 i z]; exact hC.2.2 i z
  · exact ⟨m, t, hr, k5 i z hi⟩
theorem CT.ma (hC : CT h0 M Sc P fw k g q F) (hM : MA h0 M) : MA g M := hM.sm hC.1.1 (by unfold in212; omega)
/-- pours -/
theorem S301o {C : TH → Prop} {X8 : Int32 × TH → Prop} {x5 : Int32} (hw : Wf M) (hc : clo M Sc) (hM : MA h0 M) (hf : Fw h0 Sc fw k) (hC : CT h0 M Sc P fw k g q F) (hr : Rs M Sc true P m t) (hd : d < aN M) (hS : bt Sc d = true) (hP : P ≤ 12) (p1 : aPo M d = 1) (p2 : aPa M d = (-1)) (p3 : bt (m ||| t) d = false) (p4 : aNe M d &&& ((m ||| t) ^^^ (-1)) = 0) (kk : ∀ g' q' F', CT h0 M Sc P fw k g' q' F' → CqE q F q' F' → (∀ o, o < d → ∀ m' t', poD M m t d o m' t' → inQ q' F' (vn fw k m' t')) → X8 (x5 + 1, g')) : B301_250 m t (nI P) (m ||| t) x5 (nI d) (ishl 1 (nI d)) (nP M d) (gone M d) 0 g C X8 := by
  have h12 := hw.n12
  have hi := hr.inv hw hc
  unfold B301_250
  refine LFP.up d (fun j z => z.1 = nI j ∧ ∃ q' F', CT h0 M Sc P fw k z.2 q' F' ∧ CqE q F q' F' ∧ ∀ o, o < j → ∀ m' t', poD M m t d o m' t' → inQ q' F' (vn fw k m' t')) ?_ ?_ (Nat.zero_le _) ⟨rfl, q, F, hC, CqE.refl, fun o ho => absurd ho (Nat.not_lt_zero _)⟩
  · rintro Y j ⟨x11, g1⟩ hj ⟨e1, q1, F1, e2, e3, e4⟩ ih
    (try dsimp only at e1 e2 e3 e4)
    subst e1
    have skip : (∀ m' t', ¬ poD M m t d j m' t') → Y (nI j + 1, g1) := by
      intro no
      refine ih _ ⟨nI_1 j, q1, F1, e2, e3, fun o ho m' t' z => ?_⟩
      rcases Nat.lt_or_ge o j with y | y
      · exact e4 o y m' t' z
      · have : o = j := by omega
        rw [this] at z; exact absurd z (no m' t')
    unfold F301_250
    (try dsimp only)
    rw [if_neg (nI_ge hj (by omega))]
    refine S250 j rfl (hw.nS hd) (by omega) (by omega) (fun b => ?_) (fun b => ?_)
    · rw [if_neg (by decide)]
      refine S250 j rfl hi.1 (by omega) (by omega) (fun b2 => ?_) (fun b2 => ?_)
      · rw [if_neg (by decide)]
        refine S234 (St_mono (St_or hi.1 hi.2.1) h12) ?_
        rw [if_neg (nI_nlt hi.2.2.2.2.2 (by omega))]
        rw [nP_alone p2] at b
        have st := hr.step (m' := poW m d j &&& (gone M d ^^^ (-1))) (t' := t &&& (gone M d ^^^ (-1))) ⟨d, hd, hS, Or.inr (Or.inr (Or.inr (Or.inl ⟨j, hj, p1, p2, p3, p4, b, b2, rfl, rfl⟩)))⟩
        refine e2.add hw hc hf st (fun g2 q2 F2 l1 l2 l3 => ?_)
        refine ih _ ⟨nI_1 j, q2, F2, l1, e3.trans l2, fun o ho m' t' z => ?_⟩
        rcases Nat.lt_or_ge o j with y | y
        · exact l2.inq (e4 o y m' t' z)
        · have : o = j := by omega
          rw [this] at z
          obtain ⟨_, _, _, _, _, _, z1, z2⟩ := z
          rw [z1, z2]; exact l3
      · rw [if_pos rfl]
        exact skip (fun m' t' z => by rw [z.2.2.2.2.2.1] at b2; exact absurd b2 (by decide))
    · rw [if_pos rfl]
      rw [nP_alone p2] at b
      exact skip (fun m' t' z => by rw [z.2.2.2.2.1] at b; exact absurd b (by decide))
  · rintro Y ⟨x11, g1⟩ ⟨e1, q1, F1, e2, e3, e4⟩
    (try dsimp only at e1 e2 e3 e4)
    subst e1
    unfold F301_250
    (try dsimp only)
    rw [if_pos (nI_le (Nat.le_refl _) (by omega))]
    exact kk g1 q1 F1 e2 e3 e4
theorem S301p {C : TH → Prop} {X8 : Int32 × TH → Prop} {x5 : Int32} (hw : Wf M) (hc : clo M Sc) (hM : MA h0 M) (hf : Fw h0 Sc fw k) (hC : CT h0 M Sc P fw k g q F) (hr : Rs M Sc true P m t) (hd : d < aN M) (hS : bt Sc d = true) (hP : P ≤ 12) (kk : ∀ g' q' F', CT h0 M Sc P fw k g' q' F' → CqE q F q' F' → (∀ o, o < d → ∀ m' t', poD M m t d o m' t' → inQ q' F' (vn fw k m' t')) → X8 (x5 + 1, g')) : B301_204 m t (nI P) (m ||| t) x5 (nI d) (ishl 1 (nI d)) (nP M d) (gone M d) g C X8 := by
  have h12 := hw.n12
  have hi := hr.inv hw hc
  have hM1 := hC.ma hM
  have skip : (∀ o m' t', ¬ poD M m t d o m' t') → X8 (x5 + 1, g) := fun no => kk g q F hC CqE.refl (fun o _ m' t' z => absurd z (no o m' t'))
  unfold B301_204
  refine S251 d 5 hM1 rfl rfl (by omega) (by omega) ?_
  have hpo : aPo M d = 0 ∨ aPo M d = 1 := (hw.D hd).2.2.2.2.2.1
  by_cases e1 : M (16 + 8 * d + 5) = 0
  · rw [if_pos e1]
    exact skip (fun o m' t' z => by have := z.1; unfold aPo at this; rw [e1] at this; exact absurd this (by decide))
  · rw [if_neg e1]
    have e1' : aPo M d = 1 := hpo.resolve_left e1
    refine S252 d hM1 rfl (by omega) ?_
    by_cases e2 : aPa M d = (-1)
    · rw [if_neg (fun z => z e2)]
      refine S250 d rfl (St_or hi.1 hi.2.1) (by omega) (by omega) (fun b => ?_) (fun b => ?_)
      · rw [if_pos (by decide)]
        exact skip (fun o m' t' z => by rw [z.2.2.1] at b; exact absurd b (by decide))
      · rw [if_neg (by decide)]
        by_cases e3 : nP M d &&& ((m ||| t) ^^^ (-1)) = 0
        · rw [if_pos e3]
          exact S301o hw hc hM hf hC hr hd hS hP e1' e2 b (by rw [← nP_alone e2]; exact e3) kk
        · rw [if_neg e3]
          exact skip (fun o m' t' z => e3 (by rw [nP_alone e2]; exact z.2.2.2.1))
    · rw [if_pos e2]
      exact skip (fun o m' t' z => e2 z.2.1)
def waD (m t : Int32) (d : Nat) (m' t' : Int32) : Prop := bt m d = true ∧ m' = m &&& (ishl 1 (nI d) ^^^ (-1)) ∧ t' = t
def shD (M : Nat → Int32) (m t : Int32) (d : Nat) (m' t' : Int32) : Prop := bt t d = true ∧ aNe M d &&& ((m ||| t) ^^^ (-1)) = 0 ∧ m' = m ∧ t' = t &&& (ishl 1 (nI d) ^^^ (-1))
def trD (P : Nat) (m t : Int32) (d : Nat) (m' t' : Int32) : Prop := bt (m ||| t) d = false ∧ pc (m ||| t) < P ∧ m' = m ∧ t' = t ||| ishl 1 (nI d)
/-- shows -/
theorem S301s {C : TH → Prop} {X8 : Int32 × TH → Prop} {x5 : Int32} (hw : Wf M) (hc : clo M Sc) (hM : MA h0 M) (hf : Fw h0 Sc fw k) (hC : CT h0 M Sc P fw k g q F) (hr : Rs M Sc true P m t) (hd : d < aN M) (hS : bt Sc d = true) (hP : P ≤ 12) (kk : ∀ g' q' F', CT h0 M Sc P fw k g' q' F' → CqE q F q' F' → (∀ m' t', (shD M m t d m' t' ∨ ∃ o, o < d ∧ poD M m t d o m' t') → inQ q' F' (vn fw k m' t')) → X8 (x5 + 1, g')) : B301_165 m t (nI P) (m ||| t) x5 (nI d) (ishl 1 (nI d)) (nP M d) (gone M d) g C X8 := by
  have h12 := hw.n12
  have hi := hr.inv hw hc
  have hM1 := hC.ma hM
  have nxt : ∀ g1 q1 F1, CT h0 M Sc P fw k g1 q1 F1 → CqE q F q1 F1 → (∀ m' t', shD M m t d m' t' → inQ q1 F1 (vn fw k m' t')) → B301_204 m t (nI P) (m ||| t) x5 (nI d) (ishl 1 (nI d)) (nP M d) (gone M d) g1 C X8 := by
    intro g1 q1 F1 l1 l2 l3
    refine S301p hw hc hM hf l1 hr hd hS hP (fun g2 q2 F2 n1 n2 n3 => kk g2 q2 F2 n1 (l2.trans n2) (fun m' t' z => ?_))
    rcases z with z | ⟨o, o1, o2⟩
    · exact n2.inq (l3 m' t' z)
    · exact n3 o o1 m' t' o2
  unfold B301_165
  refine S250 d rfl hi.2.1 (by omega) (by omega) (fun b => ?_) (fun b => ?_)
  · rw [if_neg (by decide)]
    refine S251 d 4 hM1 rfl rfl (by omega) (by omega) ?_
    by_cases e : M (16 + 8 * d + 4) &&& ((m ||| t) ^^^ (-1)) = 0
    · rw [if_neg (fun z => z e)]
      have st := hr.step (m' := m) (t' := t &&& (ishl 1 (nI d) ^^^ (-1))) ⟨d, hd, hS, Or.inr (Or.inl ⟨b, e, rfl, rfl⟩)⟩
      refine hC.add hw hc hf st (fun g2 q2 F2 l1 l2 l3 => nxt g2 q2 F2 l1 l2 (fun m' t' z => ?_))
      rw [z.2.2.1, z.2.2.2]; exact l3
    · rw [if_pos e]
      exact nxt g q F hC CqE.refl (fun m' t' z => absurd z.2.1 e)
  · rw [if_pos rfl]
    exact nxt g q F hC CqE.refl (fun m' t' z => by rw [z.1] at b; exact absurd b (by decide))
/-- trusts -/
theorem S301t {C : TH → Prop} {X8 : Int32 × TH → Prop} {x5 : Int32} (hw : Wf M) (hc : clo M Sc) (hM : MA h0 M) (hf : Fw h0 Sc fw k) (hC : CT h0 M Sc P fw k g q F) (hr : Rs M Sc true P m t) (hd : d < aN M) (hS : bt Sc d = true) (hP : P ≤ 12) (kk : ∀ g' q' F', CT h0 M Sc P fw k g' q' F' → CqE q F q' F' → (∀ m' t', (trD P m t d m' t' ∨ shD M m t d m' t' ∨ ∃ o, o < d ∧ poD M m t d o m' t') → inQ q' F' (vn fw k m' t')) → X8 (x5 + 1, g')) : B301_133 m t (nI P) (m ||| t) x5 (nI d) (ishl 1 (nI d)) (nP M d) (gone M d) g C X8 := by
  have h12 := hw.n12
  have hi := hr.inv hw hc
  have nxt : ∀ g1 q1 F1, CT h0 M Sc P fw k g1 q1 F1 → CqE q F q1 F1 → (∀ m' t', trD P m t d m' t' → inQ q1 F1 (vn fw k m' t')) → B301_165 m t (nI P) (m ||| t) x5 (nI d) (ishl 1 (nI d)) (nP M d) (gone M d) g1 C X8 := by
    intro g1 q1 F1 l1 l2 l3
    refine S301s hw hc hM hf l1 hr hd hS hP (fun g2 q2 F2 n1 n2 n3 => kk g2 q2 F2 n1 (l2.trans n2) (fun m' t' z => ?_))
    rcases z with z | z
    · exact n2.inq (l3 m' t' z)
    · exact n3 m' t' z
  unfold B301_133
  refine S250 d rfl (St_or hi.1 hi.2.1) (by omega) (by omega) (fun b => ?_) (fun b => ?_)
  · rw [if_pos (by decide)]
    exact nxt g q F hC CqE.refl (fun m' t' z => by rw [z.1] at b; exact absurd b (by decide))
  · rw [if_neg (by decide)]
    refine S234 (St_mono (St_or hi.1 hi.2.1) h12) ?_
    by_cases e : pc (m ||| t) < P
    · rw [if_neg (nI_ge e (by omega))]
      have st := hr.step (m' := m) (t' := t ||| ishl 1 (nI d)) ⟨d, hd, hS, Or.inr (Or.inr (Or.inr (Or.inr ⟨rfl, b, e, rfl, rfl⟩)))⟩
      refine hC.add hw hc hf st (fun g2 q2 F2 l1 l2 l3 => nxt g2 q2 F2 l1 l2 (fun m' t' z => ?_))
      rw [z.2.2.1, z.2.2.2]; exact l3
    · rw [if_pos (nI_le (by omega) (by have := pc_le (m ||| t); omega))]
      exact nxt g q F hC CqE.refl (fun m' t' z => absurd z.2.1 e)
/-- washes -/
theorem S301w {C : TH → Prop} {X8 : Int32 × TH → Prop} {x5 : Int32} (hw : Wf M) (hc : clo M Sc) (hM : MA h0 M) (hf : Fw h0 Sc fw k) (hC : CT h0 M Sc P fw k g q F) (hr : Rs M Sc true P m t) (hd : d < aN M) (hS : bt Sc d = true) (hP : P ≤ 12) (kk : ∀ g' q' F', CT h0 M Sc P fw k g' q' F' → CqE q F q' F' → (∀ m' t', (waD m t d m' t' ∨ trD P m t d m' t' ∨ shD M m t d m' t' ∨ ∃ o, o < d ∧ poD M m t d o m' t') → inQ q' F' (vn fw k m' t')) → X8 (x5 + 1, g')) : B301_109 m t (nI P) (m ||| t) x5 (nI d) (ishl 1 (nI d)) (nP M d) (gone M d) g C X8 := by
  have h12 := hw.n12
  have hi := hr.inv hw hc
  have nxt : ∀ g1 q1 F1, CT h0 M Sc P fw k g1 q1 F1 → CqE q F q1 F1 → (∀ m' t', waD m t d m' t' → inQ q1 F1 (vn fw k m' t')) → B301_133 m t (nI P) (m ||| t) x5 (nI d) (ishl 1 (nI d)) (nP M d) (gone M d) g1 C X8 := by
    intro g1 q1 F1 l1 l2 l3
    refine S301t hw hc hM hf l1 hr hd hS hP (fun g2 q2 F2 n1 n2 n3 => kk g2 q2 F2 n1 (l2.trans n2) (fun m' t' z => ?_))
    rcases z with z | z
    · exact n2.inq (l3 m' t' z)
    · exact n3 m' t' z
  unfold B301_109
  refine S250 d rfl hi.1 (by omega) (by omega) (fun b => ?_) (fun b => ?_)
  · rw [if_neg (by decide)]
    have st := hr.step (m' := m &&& (ishl 1 (nI d) ^^^ (-1))) (t' := t) ⟨d, hd, hS, Or.inl ⟨b, rfl, rfl⟩⟩
    refine hC.add hw hc hf st (fun g2 q2 F2 l1 l2 l3 => nxt g2 q2 F2 l1 l2 (fun m' t' z => ?_))
    rw [z.2.1, z.2.2]; exact l3
  · rw [if_pos rfl]
    exact nxt g q F hC CqE.refl (fun m' t' z => by rw [z.1] at b; exact absurd b (by decide))
/-- all steps -/
theorem S301 {C : TH → Prop} (hw : Wf M) (hc : clo M Sc) (hSc : St (aN M) Sc) (hM : MA h0 M) (hf : Fw h0 Sc fw k) (hC : CT h0 M Sc P fw k g q F) (hr : Rs M Sc true P m t) (hP : P ≤ 12) (kk : ∀ g' q' F', CT h0 M Sc P fw k g' q' F' → CqE q F q' F' → (∀ m' t', Fs M Sc true P m t m' t' → inQ q' F' (vn fw k m' t')) → C g') : W301 m t (nI P) g C := by
  have h12 := hw.n12
  have hi := hr.inv hw hc
  unfold W301 B301_8
  refine LFP.up k (fun j z => z.1 = nI j ∧ ∃ q' F', CT h0 M Sc P fw k z.2 q' F' ∧ CqE q F q' F' ∧ ∀ i, i < j → ∀ m' t', (mkD M P m t (fw i) m' t' ∨ waD m t (fw i) m' t' ∨ trD P m t (fw i) m' t' ∨ shD M m t (fw i) m' t' ∨ ∃ o, o < fw i ∧ poD M m t (fw i) o m' t') → inQ q' F' (vn fw k m' t')) ?_ ?_ (Nat.zero_le _) ⟨rfl, q, F, hC, CqE.refl, fun o ho => absurd ho (Nat.not_lt_zero _)⟩
  · rintro Y j ⟨x5, g1⟩ hj ⟨e1, q1, F1, e2, e3, e4⟩ ih
    (try dsimp only at e1 e2 e3 e4)
    subst e1
    have hf1 := hf.keep e2.1
    have hM1 := e2.ma hM
    have k8 := hf1.1
    obtain ⟨f1, f2, f3⟩ := hf1.2.2.1 j hj
    have hd : fw j < aN M := St_d h12 hSc (by omega) f3
    have nxt : ∀ g2 q2 F2, CT h0 M Sc P fw k g2 q2 F2 → CqE q1 F1 q2 F2 → (∀ m' t', mkD M P m t (fw j) m' t' → inQ q2 F2 (vn fw k m' t')) → B301_109 m t (nI P) (m ||| t) (nI j) (nI (fw j)) (ishl 1 (nI (fw j))) (nP M (fw j)) (gone M (fw j)) g2 C Y := by
      intro g2 q2 F2 l1 l2 l3
      refine S301w hw hc hM hf l1 hr hd f3 hP (fun g3 q3 F3 n1 n2 n3 => ih _ ⟨nI_1 j, q3, F3, n1, (e3.trans l2).trans n2, fun i hi m' t' z => ?_⟩)
      rcases Nat.lt_or_ge i j with y | y
      · exact n2.inq (l2.inq (e4 i y m' t' z))
      · have : i = j := by omega
        rw [this] at z
        rcases z with z | z
        · exact n2.inq (l3 m' t' z)
        · exact n3 m' t' z
    unfold F301_8
    (try dsimp only)
    rw [hf1.2.1, if_neg (nI_ge hj (by omega)), ix_n (by omega), f1]
    refine ⟨inb_n (by omega), ?_⟩
    refine S254 hw (fw j) hM1 rfl hd (S256 hw hM1 (hw.nS hd) (S253 (fw j) hM1 rfl (by omega) ?_))
    show if ¬ (m ||| t) &&& gP M (fw j) = 0 then B301_109 m t (nI P) (m ||| t) (nI j) (nI (fw j)) (ishl 1 (nI (fw j))) (nP M (fw j)) (gone M (fw j)) g1 C Y else _
    by_cases z1 : (m ||| t) &&& gP M (fw j) = 0
    · rw [if_neg (fun z => z z1)]
      by_cases z2 : nP M (fw j) &&& ((m ||| t) ^^^ (-1)) = 0
      · rw [if_neg (fun z => z z2)]
        refine S234 (St_mono (St_or (St_or hi.1 hi.2.1) (hw.gS hd)) h12) ?_
        by_cases z3 : pc ((m ||| t) ||| gP M (fw j)) ≤ P
        · rw [if_neg (nI_nlt z3 (by omega))]
          have st := hr.step (m' := (m ||| gP M (fw j)) &&& (gone M (fw j) ^^^ (-1))) (t' := t &&& (gone M (fw j) ^^^ (-1))) ⟨fw j, hd, f3, Or.inr (Or.inr (Or.inl ⟨z2, by rw [Int32.and_comm]; exact z1, z3, rfl, rfl⟩))⟩
          refine e2.add hw hc hf st (fun g2 q2 F2 l1 l2 l3 => nxt g2 q2 F2 l1 l2 (fun m' t' z => ?_))
          rw [z.2.2.2.1, z.2.2.2.2]; exact l3
        · rw [if_pos (nI_lt (by omega) (by have := pc_le ((m ||| t) ||| gP M (fw j)); omega))]
          exact nxt g1 q1 F1 e2 CqE.refl (fun m' t' z => absurd z.2.2.1 z3)
      · rw [if_pos z2]
        exact nxt g1 q1 F1 e2 CqE.refl (fun m' t' z => absurd z.1 z2)
    · rw [if_pos z1]
      exact nxt g1 q1 F1 e2 CqE.refl (fun m' t' z => absurd (by rw [Int32.and_comm]; exact z.2.1) z1)
  · rintro Y ⟨x5, g1⟩ ⟨e1, q1, F1, e2, e3, e4⟩
    (try dsimp only at e1 e2 e3 e4)
    subst e1
    have hf1 := hf.keep e2.1
    have k8 := hf1.1
    unfold F301_8
    (try dsimp only)
    rw [hf1.2.1, if_pos (nI_le (Nat.le_refl _) (by omega))]
    refine kk g1 q1 F1 e2 e3 (fun m' t' ⟨d, hd, hS, z⟩ => ?_)
    obtain ⟨i, i1, i2⟩ := hf1.2.2.2 d (by omega) hS
    refine e4 i i1 m' t' ?_
    rw [i2]
    rcases z with z | z | z | ⟨o, o1, o2⟩ | z
    · exact Or.inr (Or.inl z)
    · exact Or.inr (Or.inr (Or.inr (Or.inl z)))
    · exact Or.inl z
    · exact Or.inr (Or.inr (Or.inr (Or.inr ⟨o, o1, o2⟩)))
    · exact Or.inr (Or.inr (Or.inl z.2))
end TT
