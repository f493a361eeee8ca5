/-! FEWEST POTS: a search is used -/
def inFT (h : TH) (t a : Nat) : Prop := (t ≤ a ∧ a < t + 6) ∨ ∃ f, 5 ≤ f ∧ f ≤ 7 ∧ h.P t f = some a
def FwPost (h h' : TH) (t : Nat) : Prop := Gr (inFT h t) h h' ∧ (∀ f a, 5 ≤ f → f ≤ 7 → h'.P t f = some a → h.P t f = some a ∨ (h.n ≤ a ∧ a < h'.n)) ∧ h'.n ≤ h.n + 3 ∧ h'.sl ≤ h.sl + 20000
def FwC (h : TH) (t : Nat) (tr : Bool) (base : Nat) (G : Int32 → Nat → Int32) : Prop := ∃ L a5 a6 a7, is0R h t ∧ FwA h t L a5 a6 a7 ∧ h.I (t + 4) 0 = 0 ∧ h.I (t + 5) 0 = 0 ∧ ((base = 2 ∧ tr = false ∧ h.I t 0 = 0) ∨ (base = 3 ∧ tr = true ∧ ¬ h.I t 0 = 0)) ∧ (h.I t 2 = (-1) ∨ ∃ om ot lv F X P f, h.I t 4 = nI f ∧ f ≤ P ∧ P ≤ 12 ∧ clo (G (h.I t 2)) (h.I t 3) ∧ FwO h t (G (h.I t 2)) (h.I t 3) tr base L a5 a6 a7 om ot lv F X P ∧ FPu (G (h.I t 2)) (h.I t 3) tr om ot lv F X P f)
section FU
variable {h h' : TH} {M : Nat → Int32} {Sc : Int32} {tr : Bool} {base L t tm a5 a6 a7 : Nat} {om ot : Nat → Int32} {lv : Nat → Nat} {F X P f least : Nat} {G : Int32 → Nat → Int32}
theorem sn_0 : sn Sc base 0 0 = 0 := by
  unfold sn wsum
  have : fb_sm (fun d => if bt 0 d then wt Sc base d else 0) 12 = fb_sm (fun _ => 0) 12 := fb_sm_cong (fun k _ => by rw [bt_0]; rfl)
  rw [this, fb_sm_const]
theorem FV_0 {n : Nat} : FV n Sc tr 0 0 := ⟨St_0 _, St_0 _, fun d _ q => by rw [bt_0] at q; exact absurd q (by decide), sb_zero _, sb_zero _, fun _ => rfl⟩
/-- the rows are cleared, nothing STANDS -/
theorem S1c {C : TH → Prop} (hn : aN M ≤ 12) (h0 : is0R h t) (hA : FwA h t L a5 a6 a7) (hL : base ^ fb_ct (bt Sc) 12 ≤ L) (hb : (base = 2 ∧ tr = false ∧ h.I t 0 = 0) ∨ (base = 3 ∧ tr = true ∧ ¬ h.I t 0 = 0)) (h3 : h.I t 3 = Sc) (h10 : h.I t 10 = nI (base ^ fb_ct (bt Sc) 12)) (hlh : LoHi h t Sc base) {y : Int32} (hy : y = nI least) (hl : least ≤ 12) (kk : ∀ g, Sm (inFw t a5 a6 a7) h g → (∀ j, j ≠ 11 → j ≠ 12 → j ≠ 13 → g.I t j = h.I t j) → FwO g t M Sc tr base L a5 a6 a7 (fun _ => 0) (fun _ => 0) (fun _ => least) 1 0 least → FPu M Sc tr (fun _ => 0) (fun _ => 0) (fun _ => least) 1 0 least least → C g) : B1_100 t y 0 h C := by
  subst hy
  have b0 : 0 < base := by omega
  have bp : 0 < base ^ fb_ct (bt Sc) 12 := Nat.pow_pos b0
  have hA0 := hA
  obtain ⟨⟨p5, p6, p7⟩, ⟨k5, k6, k7⟩, ⟨n5, n6, n7⟩, l1, ⟨d56, d57, d67⟩, l2, m5, m6, m7⟩ := hA
  have ht := is0_rng h0.1
  unfold B1_100
  refine LFP.up (base ^ fb_ct (bt Sc) 12) (fun j q => q.1 = nI j ∧ Sm (fun a => a = a7) h q.2 ∧ ∀ u, u < j → q.2.I a7 u = 0) ?_ ?_ (Nat.zero_le _) ⟨rfl, Sm.refl, fun u hu => absurd hu (Nat.not_lt_zero _)⟩
  · rintro Y j ⟨x4, g⟩ hj ⟨e1, e2, e3⟩ ih
    (try dsimp only at e1 e2 e3)
    subst e1
    have P7 : g.P t 7 = some a7 := by rw [e2.P]; exact p7
    unfold F1_100
    (try dsimp only)
    rw [e2.I (by omega), h10, if_neg (nI_ge hj (by omega)), R_of P7, ix_n (by omega)]
    refine ⟨P7, okA_n (by rw [e2.K]; exact k7) (by rw [e2.N]; omega) (by rw [e2.N]; omega), ih _ ⟨nI_1 j, Sm.sI (S := fun a => a = a7) e2 rfl _, fun u hu => ?_⟩⟩
    (try dsimp only)
    rw [I_at]
    by_cases e : u = j
    · rw [if_pos e]; rfl
    · rw [if_neg e]; exact e3 u (by omega)
  · rintro Y ⟨x4, g⟩ ⟨e1, e2, e3⟩
    (try dsimp only at e1 e2 e3)
    subst e1
    unfold F1_100
    (try dsimp only)
    rw [e2.I (by omega), h10, if_pos (nI_le (Nat.le_refl _) (by omega))]
    have s1 : Sm (inFw t a5 a6 a7) h (((g.sI t 11 0).sI t 12 0).sI t 13 (nI least)) := (((e2.mono (fun a z => by unfold inFw; omega)).sI (by unfold inFw; omega) _).sI (by unfold inFw; omega) _).sI (by unfold inFw; omega) _
    have it : ∀ j, j ≠ 11 → j ≠ 12 → j ≠ 13 → (((g.sI t 11 0).sI t 12 0).sI t 13 (nI least)).I t j = h.I t j := fun j j1 j2 j3 => by rw [I_nk j3, I_nk j2, I_nk j1, e2.I (by omega)]
    have i11 : (((g.sI t 11 0).sI t 12 0).sI t 13 (nI least)).I t 11 = nI 0 := by rw [I_nk (by omega), I_nk (by omega), I_eq]; rfl
    have i12 : (((g.sI t 11 0).sI t 12 0).sI t 13 (nI least)).I t 12 = nI 0 := by rw [I_nk (by omega), I_eq]; rfl
    have i13 : (((g.sI t 11 0).sI t 12 0).sI t 13 (nI least)).I t 13 = nI least := I_eq
    have i7 : ∀ u, u < base ^ fb_ct (bt Sc) 12 → (((g.sI t 11 0).sI t 12 0).sI t 13 (nI least)).I a7 u = 0 := fun u hu => by rw [I_ne (by omega), I_ne (by omega), I_ne (by omega)]; exact e3 u hu
    have hlh' : LoHi (((g.sI t 11 0).sI t 12 0).sI t 13 (nI least)) t Sc base := by
      unfold LoHi at hlh ⊢
      rw [s1.I (by unfold inFw; omega), s1.I (by unfold inFw; omega)]
      exact hlh
    generalize (((g.sI t 11 0).sI t 12 0).sI t 13 (nI least)) = H at s1 it i11 i12 i13 i7 hlh' ⊢
    have P5 : H.P t 5 = some a5 := by rw [s1.P]; exact p5
    have P6 : H.P t 6 = some a6 := by rw [s1.P]; exact p6
    have P7 : H.P t 7 = some a7 := by rw [s1.P]; exact p7
    unfold W12
    refine S4 (St_0 _) hlh' (S4 (St_0 _) hlh' ?_)
    have w0 : wsum Sc base 0 = 0 := by have := sn_0 (Sc := Sc) (base := base); unfold sn at this; omega
    rw [w0, show nI 0 + 2 * nI 0 = nI 0 by decide +kernel, R_of P7, ix_n (by omega), i7 0 bp, i11, it 10 (by omega) (by omega) (by omega), h10]
    have ok7 : okA H a7 102 (nI 0) := okA_n (by rw [s1.K]; exact k7) (by rw [s1.N]; omega) (by rw [s1.N]; omega)
    refine ⟨P7, ok7, ?_⟩
    rw [if_neg (fun q => q rfl), if_pos (nI_lt bp (by omega))]
    refine ⟨P7, ok7, ?_⟩
    have PP : (H.sI a7 0 (1 &&& 1)).P t 5 = some a5 := by rw [P_sI]; exact P5
    have T11 : (H.sI a7 0 (1 &&& 1)).I t 11 = nI 0 := by rw [I_ne (by omega)]; exact i11
    rw [R_of PP, T11, ix_n (by omega)]
    refine ⟨PP, okA_n (by rw [K_sI, s1.K]; exact k5) (by rw [N_sI, s1.N]; omega) (by rw [N_sI, s1.N]; omega), ?_⟩
    intro h3' eh3
    have hs3 : Sm (fun a => a = a5 ∨ a = a7) H h3' := by
      rw [eh3]
      exact (Sm.refl.sI (Or.inr rfl) _).sI (Or.inl rfl) _
    have P3 : h3'.P t 6 = some a6 := by rw [hs3.P]; exact P6
    have T3 : ∀ j, h3'.I t j = H.I t j := fun j => by rw [hs3.I (by omega)]
    rw [R_of P3, T3 11, i11, ix_n (by omega), T3 13, i13, I_ne (by omega), T3 11, i11, nI_1]
    refine ⟨P3, okA_n (by rw [hs3.K, s1.K]; exact k6) (by rw [hs3.N, s1.N]; omega) (by rw [hs3.N, s1.N]; omega), ?_⟩
    have sg : Sm (inFw t a5 a6 a7) H ((h3'.sI a6 0 (nI least)).sI t 11 (nI (0 + 1))) := ((hs3.mono (fun a z => by unfold inFw; omega)).sI (by unfold inFw; omega) _).sI (by unfold inFw; omega) _
    have s0 := s1.trans sg
    have rt : ∀ i, i ≠ 11 → ((h3'.sI a6 0 (nI least)).sI t 11 (nI (0 + 1))).I t i = H.I t i := by
      intro i hi
      rw [I_nk hi, I_ne (by omega), T3]
    have inz : ∀ m u, inF (fun _ => 0) (fun _ => 0) 1 m u ↔ m = 0 ∧ u = 0 := by
      intro m u
      constructor
      · rintro ⟨i, i1, i2, i3⟩; exact ⟨i2.symm, i3.symm⟩
      · rintro ⟨q1, q2⟩; exact ⟨0, by omega, q1.symm, q2.symm⟩
    have hbb : (base = 2 ∧ tr = false) ∨ (base = 3 ∧ tr = true) := hb.elim (fun q => Or.inl ⟨q.1, q.2.1⟩) (fun q => Or.inr ⟨q.1, q.2.1⟩)
    refine kk _ s0 (fun j j1 j2 j3 => (rt j j1).trans (it j j1 j2 j3)) ⟨?_, hA0.sm s0, hL, ?_, ?_, ?_, I_eq, ?_, ?_, ?_, fun i hi => ?_, fun m' u' hv' => ?_⟩ ?_
    · obtain ⟨z1, z2, z3, z4, z5, z6, z7⟩ := h0
      exact ⟨z1, by rw [s0.P]; exact z2, by rw [s0.P]; exact z3, by rw [s0.K]; exact z4, by rw [s0.N]; exact z5, by rw [s0.K]; exact z6, by rw [s0.N]; exact z7⟩
    · rw [rt 0 (by omega), it 0 (by omega) (by omega) (by omega)]; exact hb
    · rw [rt 3 (by omega), it 3 (by omega) (by omega) (by omega)]; exact h3
    · rw [rt 10 (by omega), it 10 (by omega) (by omega) (by omega)]; exact h10
    · rw [rt 12 (by omega)]; exact i12
    · rw [rt 13 (by omega)]; exact i13
    · unfold LoHi at hlh' ⊢
      rw [sg.I (by unfold inFw; omega), sg.I (by unfold inFw; omega)]
      exact hlh'
    · have : i = 0 := by omega
      subst this
      constructor
      · rw [I_ne (by omega), I_ne (by omega), eh3, I_eq]
      · rw [I_ne (by omega), I_eq]
    · rw [inz m' u', I_ne (by omega), I_ne (by omega), eh3, I_ne (by omega), I_at]
      by_cases z : sn Sc base m' u' = 0
      · rw [if_pos z]
        have := sn_inj hn hv' (FV_0 (n := aN M)) hbb (z.trans sn_0.symm)
        exact ⟨fun _ => rfl, fun q => absurd this q⟩
      · rw [if_neg z]
        refine ⟨fun q => absurd (by rw [q.1, q.2]; exact sn_0) z, fun _ => i7 _ (sn_lt hv' hbb)⟩
    · refine ⟨fun i hi => ⟨FV_0, Rs.zero, Nat.le_refl _, Nat.le_refl _⟩, fun i hi j hj _ _ => by omega, fun i j z1 z2 => Nat.le_refl _, (inz 0 0).mpr ⟨rfl, rfl⟩, fun i hi => absurd hi (Nat.not_lt_zero _), fun i hi q => absurd q (Nat.lt_irrefl _), fun Q z1 z2 => by omega, by omega⟩
theorem S1 {C : TH → Prop} (hw : Wf M) (hc : CM h tm M) (h3 : is3 tm) (hF : FwC h t tr base G) (hG : G (h.I tm 0) = M) (hst : ¬ h.I tm 0 = (-1)) (hS : St (aN M) Sc) (hcl : clo M Sc) (hB : base ^ fb_ct (bt Sc) 12 ≤ 6561) {y : Int32} (hy : y = nI least) (hl : least ≤ 12) (hn : 222 ≤ h.n) (hn2 : h.n + 5 ≤ 1000000) (kk : ∀ g L' b5 b6 b7 om ot lv F X P f, FwPost h g t → FwO g t M Sc tr base L' b5 b6 b7 om ot lv F X P → FPu M Sc tr om ot lv F X P f → f ≤ least → f ≤ P → P ≤ 12 → g.P t 1 = some tm → CM g tm M → g.I t 2 = h.I tm 0 → g.I t 4 = nI f → C g) : W1 t tm Sc y h C := by
  subst hy
  have h12 := hw.n12
  obtain ⟨L, a5, a6, a7, f1, f2, f3, f4, f5, f6⟩ := hF
  have ht := is0_rng f1.1
  have r3 := is3_rng h3
  have b0 : 0 < base := by omega
  have bp : 0 < base ^ fb_ct (bt Sc) 12 := Nat.pow_pos b0
  /- anew -/
  have new : B1_33 t tm Sc (nI least) (h.sP t 1 tm) C := by
    unfold B1_33
    have I0 : (h.sP t 1 tm).I tm 0 = h.I tm 0 := rfl
    rw [I0]
    have e1 : ∀ j, j ≠ 2 → j ≠ 3 → j ≠ 4 → ((((h.sP t 1 tm).sI t 2 (h.I tm 0)).sI t 3 Sc).sI t 4 (nI least)).I t j = h.I t j := fun j j1 j2 j3 => by rw [I_nk j3, I_nk j2, I_nk j1, I_sP]
    have e2 : ∀ a, a ≠ t → ((((h.sP t 1 tm).sI t 2 (h.I tm 0)).sI t 3 Sc).sI t 4 (nI least)).I a = h.I a := fun a ha => by funext j; rw [I_ne ha, I_ne ha, I_ne ha, I_sP]
    have e3 : ((((h.sP t 1 tm).sI t 2 (h.I tm 0)).sI t 3 Sc).sI t 4 (nI least)).I t 2 = h.I tm 0 := by rw [I_nk (by omega), I_nk (by omega), I_eq]
    have e4 : ((((h.sP t 1 tm).sI t 2 (h.I tm 0)).sI t 3 Sc).sI t 4 (nI least)).I t 3 = Sc := by rw [I_nk (by omega), I_eq]
    have e5 : ((((h.sP t 1 tm).sI t 2 (h.I tm 0)).sI t 3 Sc).sI t 4 (nI least)).I t 4 = nI least := I_eq
    have e6 : ∀ j, j ≠ 1 → ((((h.sP t 1 tm).sI t 2 (h.I tm 0)).sI t 3 Sc).sI t 4 (nI least)).P t j = h.P t j := fun j hj => by rw [P_sI, P_sI, P_sI, P_sP, if_neg (fun q => hj q.2)]
    have e7 : ((((h.sP t 1 tm).sI t 2 (h.I tm 0)).sI t 3 Sc).sI t 4 (nI least)).P t 1 = some tm := by rw [P_sI, P_sI, P_sI, P_sP, if_pos ⟨rfl, rfl⟩]
    have e8 : ∀ a, a ≠ t → ((((h.sP t 1 tm).sI t 2 (h.I tm 0)).sI t 3 Sc).sI t 4 (nI least)).P a = h.P a := fun a ha => by funext j; rw [P_sI, P_sI, P_sI, P_sP, if_neg (fun q => ha q.1)]
    have e9 : ((((h.sP t 1 tm).sI t 2 (h.I tm 0)).sI t 3 Sc).sI t 4 (nI least)).K = h.K := rfl
    have e10 : ((((h.sP t 1 tm).sI t 2 (h.I tm 0)).sI t 3 Sc).sI t 4 (nI least)).N = h.N := rfl
    have e11 : ((((h.sP t 1 tm).sI t 2 (h.I tm 0)).sI t 3 Sc).sI t 4 (nI least)).J = h.J := rfl
    have e12 : ((((h.sP t 1 tm).sI t 2 (h.I tm 0)).sI t 3 Sc).sI t 4 (nI least)).n = h.n := rfl
    have e13 : ((((h.sP t 1 tm).sI t 2 (h.I tm 0)).sI t 3 Sc).sI t 4 (nI least)).sl = h.sl := rfl
    generalize ((((h.sP t 1 tm).sI t 2 (h.I tm 0)).sI t 3 Sc).sI t 4 (nI least)) = H at e1 e2 e3 e4 e5 e6 e7 e8 e9 e10 e11 e12 e13 ⊢
    have f1' : is0R H t := by
      obtain ⟨z1, z2, z3, z4, z5, z6, z7⟩ := f1
      exact ⟨z1, by rw [e6 8 (by omega)]; exact z2, by rw [e6 9 (by omega)]; exact z3, by rw [e9]; exact z4, by rw [e10]; exact z5, by rw [e9]; exact z6, by rw [e10]; exact z7⟩
    have f2' : FwA H t L a5 a6 a7 := by
      unfold FwA at f2 ⊢
      rw [e6 5 (by omega), e6 6 (by omega), e6 7 (by omega), e9, e10, e12]
      exact f2
    have f5' : (base = 2 ∧ H.I t 0 = 0) ∨ (base = 3 ∧ ¬ H.I t 0 = 0) := by
      rw [e1 0 (by omega) (by omega) (by omega)]
      exact f5.elim (fun q => Or.inl ⟨q.1, q.2.2⟩) (fun q => Or.inr ⟨q.1, q.2.2⟩)
    refine S2 f1' (St_mono hS h12) e4 f5' hB (by rw [e2 _ (by omega)]; exact f3) (by rw [e2 _ (by omega)]; exact f4) (fun g s1 s2 s3 s4 => ?_)
    have f1g : is0R g t := by
      obtain ⟨z1, z2, z3, z4, z5, z6, z7⟩ := f1'
      exact ⟨z1, by rw [s1.P]; exact z2, by rw [s1.P]; exact z3, by rw [s1.K]; exact z4, by rw [s1.N]; exact z5, by rw [s1.K]; exact z6, by rw [s1.N]; exact z7⟩
    have f2g := f2'.sm s1
    have f5g : (base = 2 ∧ tr = false ∧ g.I t 0 = 0) ∨ (base = 3 ∧ tr = true ∧ ¬ g.I t 0 = 0) := by
      rw [s2 0 (by omega), e1 0 (by omega) (by omega) (by omega)]
      exact f5
    have g3 : g.I t 3 = Sc := by rw [s2 3 (by omega)]; exact e4
    have gn : g.n = h.n := by rw [s1.n, e12]
    have gsl : g.sl = h.sl := by rw [s1.sl, e13]
    have gI : ∀ a, a ≠ t → a ≠ t + 4 → a ≠ t + 5 → g.I a = h.I a := fun a z1 z2 z3 => by rw [s1.I (by omega), e2 a z1]
    have gJ : ∀ a, a ≠ t → a ≠ t + 4 → a ≠ t + 5 → g.J a = h.J a := fun a z1 z2 z3 => by rw [s1.J (by omega), e11]
    have gP : ∀ a, a ≠ t → g.P a = h.P a := fun a z1 => by rw [s1.P]; exact e8 a z1
    have gPt : ∀ j, j ≠ 1 → g.P t j = h.P t j := fun j hj => by rw [s1.P]; exact e6 j hj
    have gP1 : g.P t 1 = some tm := by rw [s1.P]; exact e7
    have gK : g.K = h.K := by rw [s1.K, e9]
    have gN : g.N = h.N := by rw [s1.N, e10]
    have cmg : CM g tm M := hc.frame (fun a z1 z2 => gI a (by omega) (by omega) (by omega))
    have f2g0 := f2g
    obtain ⟨⟨p5, p6, p7⟩, ⟨k5, k6, k7⟩, ⟨n5, n6, n7⟩, l1, ⟨d56, d57, d67⟩, l2, m5, m6, m7⟩ := f2g
    rw [R_of p5, s3, n5]
    refine ⟨p5, k5, ?_⟩
    by_cases e : base ^ fb_ct (bt Sc) 12 ≤ L
    · rw [if_pos (nI_le e (by omega))]
      refine S1c (M := M) h12 f1g f2g0 e f5g g3 s3 s4 rfl hl (fun g' v1 v2 v3 v4 => ?_)
      refine kk g' L a5 a6 a7 _ _ _ 1 0 least least ⟨?_, ?_, by rw [v1.n]; omega, by rw [v1.sl]; omega⟩ v3 v4 (Nat.le_refl _) (Nat.le_refl _) hl (by rw [v1.P]; exact gP1) (cmg.frame (fun a z1 z2 => v1.I (by unfold inFw; omega))) ?_ ?_
      · refine ⟨by rw [v1.n]; omega, fun a ha => by rw [v1.K, v1.N, gK, gN]; exact ⟨rfl, rfl⟩, fun a ha hs => ?_⟩
        have q0 : a ≠ t ∧ a ≠ t + 4 ∧ a ≠ t + 5 := ⟨fun q => hs (Or.inl (by omega)), fun q => hs (Or.inl (by omega)), fun q => hs (Or.inl (by omega))⟩
        have q1 : ¬ inFw t a5 a6 a7 a := by
          rintro (q | q | q | q)
          · exact q0.1 q
          · exact hs (Or.inr ⟨5, by omega, by omega, by rw [q, ← gPt 5 (by omega)]; exact p5⟩)
          · exact hs (Or.inr ⟨6, by omega, by omega, by rw [q, ← gPt 6 (by omega)]; exact p6⟩)
          · exact hs (Or.inr ⟨7, by omega, by omega, by rw [q, ← gPt 7 (by omega)]; exact p7⟩)
        exact ⟨by rw [v1.I q1]; exact gI a q0.1 q0.2.1 q0.2.2, by rw [v1.J q1]; exact gJ a q0.1 q0.2.1 q0.2.2, by rw [v1.P]; exact gP a q0.1⟩
      · intro j a j1 j2 q
        rw [v1.P, gPt j (by omega)] at q
        exact Or.inl q
      · rw [v2 2 (by omega) (by omega) (by omega), s2 2 (by omega), e3]
      · rw [v2 4 (by omega) (by omega) (by omega), s2 4 (by omega), e5]
    · rw [if_neg (nI_ge (by omega) (by omega)), ix_n (by omega)]
      have A1 : Al g ((g.new 100 (base ^ fb_ct (bt Sc) 12) (base ^ fb_ct (bt Sc) 12)).sP t 5 g.n) t 5 100 (base ^ fb_ct (bt Sc) 12) := Al_new (by omega)
      have i60 : inb (nI (base ^ fb_ct (bt Sc) 12)) 60001 := inb_n (by omega)
      generalize ((g.new 100 (base ^ fb_ct (bt Sc) 12) (base ^ fb_ct (bt Sc) 12)).sP t 5 g.n) = g1 at A1 ⊢
      have t1 : g1.I t 10 = nI (base ^ fb_ct (bt Sc) 12) := by rw [(A1.2.2.2.2.2.2.1 t (by omega)).2.2.1]; exact s3
      rw [t1, ix_n (by omega)]
      refine ⟨i60, by omega, i60, by rw [A1.1]; omega, ?_⟩
      have A2 : Al g1 ((g1.new 100 (base ^ fb_ct (bt Sc) 12) (base ^ fb_ct (bt Sc) 12)).sP t 6 g1.n) t 6 100 (base ^ fb_ct (bt Sc) 12) := Al_new (by have := A1.1; omega)
      intro h2 eh2
      subst eh2
      generalize ((g1.new 100 (base ^ fb_ct (bt Sc) 12) (base ^ fb_ct (bt Sc) 12)).sP t 6 g1.n) = g2 at A2 ⊢
      have t2 : g2.I t 10 = nI (base ^ fb_ct (bt Sc) 12) := by rw [(A2.2.2.2.2.2.2.1 t (by have := A1.1; omega)).2.2.1]; exact t1
      rw [t2, ix_n (by omega)]
      refine ⟨i60, by rw [A2.1, A1.1]; omega, ?_⟩
      have A3 : Al g2 ((g2.new 102 (base ^ fb_ct (bt Sc) 12) (base ^ fb_ct (bt Sc) 12)).sP t 7 g2.n) t 7 102 (base ^ fb_ct (bt Sc) 12) := Al_new (by have := A1.1; have := A2.1; omega)
      intro h3' eh3
      subst eh3
      generalize ((g2.new 102 (base ^ fb_ct (bt Sc) 12) (base ^ fb_ct (bt Sc) 12)).sP t 7 g2.n) = g3' at A3 ⊢
      have y1 : g1.n = h.n + 1 := by rw [A1.1, gn]
      have y2 : g2.n = h.n + 2 := by rw [A2.1, y1]
      have y3 : g3'.n = h.n + 3 := by rw [A3.1, y2]
      have ysl : g3'.sl = h.sl + 3 * base ^ fb_ct (bt Sc) 12 := by rw [A3.2.1, A2.2.1, A1.2.1, gsl]; omega
      obtain ⟨-, -, c1, q1, x1, w1, v1, u1⟩ := A1
      obtain ⟨-, -, c2, q2, x2, w2, v2, u2⟩ := A2
      obtain ⟨-, -, c3, q3, x3, w3, v3, u3⟩ := A3
      rw [gn] at c1 x1 w1 v1 u1
      rw [y1] at c2 x2 w2 v2 u2
      rw [y2] at c3 x3 w3 v3 u3
      have old : ∀ a, a ≠ h.n → a ≠ h.n + 1 → a ≠ h.n + 2 → g3'.K a = g.K a ∧ g3'.N a = g.N a ∧ g3'.I a = g.I a ∧ g3'.J a = g.J a := by
        intro a z0 z1 z2
        obtain ⟨r1, r2, r3, r4⟩ := v3 a z2
        obtain ⟨s1', s2', s3', s4'⟩ := v2 a z1
        obtain ⟨t1', t2', t3', t4'⟩ := v1 a z0
        exact ⟨by rw [r1, s1', t1'], by rw [r2, s2', t2'], by rw [r3, s3', t3'], by rw [r4, s4', t4']⟩
      have oP : ∀ a, a ≠ t → a ≠ h.n → a ≠ h.n + 1 → a ≠ h.n + 2 → g3'.P a = g.P a := fun a z z0 z1 z2 => by rw [u3 a z2 z, u2 a z1 z, u1 a z0 z]
      have oPt : ∀ j, j ≠ 5 → j ≠ 6 → j ≠ 7 → g3'.P t j = g.P t j := fun j j1 j2 j3 => by rw [q3 j j3, q2 j j2, q1 j j1]
      have ot := old t (by omega) (by omega) (by omega)
      have o4 := old (t + 4) (by omega) (by omega) (by omega)
      have o5 := old (t + 5) (by omega) (by omega) (by omega)
      have fA : FwA g3' t (base ^ fb_ct (bt Sc) 12) h.n (h.n + 1) (h.n + 2) := by
        refine ⟨⟨?_, ?_, c3⟩, ⟨?_, ?_, x3⟩, ⟨?_, ?_, w3⟩, hB, by omega, Or.inr (by omega), by omega, by omega, by omega⟩
        · rw [q3 5 (by omega), q2 5 (by omega), c1]
        · rw [q3 6 (by omega), c2]
        · rw [(v3 _ (by omega)).1, (v2 _ (by omega)).1, x1]
        · rw [(v3 _ (by omega)).1, x2]
        · rw [(v3 _ (by omega)).2.1, (v2 _ (by omega)).2.1, w1]
        · rw [(v3 _ (by omega)).2.1, w2]
      have f1' : is0R g3' t := by
        obtain ⟨z1, z2, z3, z4, z5, z6, z7⟩ := f1g
        exact ⟨z1, by rw [oPt 8 (by omega) (by omega) (by omega)]; exact z2, by rw [oPt 9 (by omega) (by omega) (by omega)]; exact z3, by rw [o4.1]; exact z4, by rw [o4.2.1]; exact z5, by rw [o5.1]; exact z6, by rw [o5.2.1]; exact z7⟩
      have cm3 : CM g3' tm M := cmg.frame (fun a z1 z2 => (old a (by omega) (by omega) (by omega)).2.2.1)
      refine S1c (M := M) h12 f1' fA (Nat.le_refl _) (by rw [ot.2.2.1]; exact f5g) (by rw [ot.2.2.1]; exact g3) (by rw [ot.2.2.1]; exact s3) (by unfold LoHi at s4 ⊢; rw [o4.2.2.1, o5.2.2.1]; exact s4) rfl hl (fun g' v1' v2' v3' v4' => ?_)
      refine kk g' _ h.n (h.n + 1) (h.n + 2) _ _ _ 1 0 least least ⟨?_, ?_, by rw [v1'.n]; omega, by rw [v1'.sl]; omega⟩ v3' v4' (Nat.le_refl _) (Nat.le_refl _) hl (by rw [v1'.P, oPt 1 (by omega) (by omega) (by omega)]; exact gP1) (cm3.frame (fun a z1 z2 => v1'.I (by unfold inFw; omega))) ?_ ?_
      · refine ⟨by rw [v1'.n]; omega, fun a ha => ?_, fun a ha hs => ?_⟩
        · have := old a (by omega) (by omega) (by omega)
          rw [v1'.K, v1'.N, this.1, this.2.1, gK, gN]
          exact ⟨rfl, rfl⟩
        · have q0 : a ≠ t ∧ a ≠ t + 4 ∧ a ≠ t + 5 := ⟨fun q => hs (Or.inl (by omega)), fun q => hs (Or.inl (by omega)), fun q => hs (Or.inl (by omega))⟩
          have q1' : ¬ inFw t h.n (h.n + 1) (h.n + 2) a := by unfold inFw; omega
          have := old a (by omega) (by omega) (by omega)
          exact ⟨by rw [v1'.I q1', this.2.2.1]; exact gI a q0.1 q0.2.1 q0.2.2, by rw [v1'.J q1', this.2.2.2]; exact gJ a q0.1 q0.2.1 q0.2.2, by rw [v1'.P, oP a q0.1 (by omega) (by omega) (by omega)]; exact gP a q0.1⟩
      · intro j a j1 j2 q
        right
        rw [v1'.P] at q
        rw [v1'.n, y3]
        rcases (show j = 5 ∨ j = 6 ∨ j = 7 by omega) with rfl | rfl | rfl
        · rw [fA.1.1] at q; cases q; omega
        · rw [fA.1.2.1] at q; cases q; omega
        · rw [fA.1.2.2] at q; cases q; omega
      · rw [v2' 2 (by omega) (by omega) (by omega), ot.2.2.1, s2 2 (by omega), e3]
      · rw [v2' 4 (by omega) (by omega) (by omega), ot.2.2.1, s2 4 (by omega), e5]
  /- or as it was -/
  unfold W1
  rw [I_sP]
  by_cases z1 : h.I t 2 = h.I tm 0
  · rw [if_neg (fun q => q z1)]
    by_cases z2 : h.I t 3 = Sc
    · rw [if_neg (fun q => q z2)]
      by_cases z3 : nI least < h.I t 4
      · rw [if_pos z3]; exact new
      · rw [if_neg z3]
        rcases f6 with f6 | ⟨om, ot, lv, F, X, P, f, k1, k2, k3, k4, k5, k6⟩
        · rw [z1] at f6; exact absurd f6 hst
        · rw [z1, hG, z2] at k4 k5 k6
          rw [k1] at z3
          have hfl : f ≤ least := by
            rcases Nat.lt_or_ge least f with q | q
            · exact absurd (nI_lt q (by omega)) z3
            · exact q
          have IP : (h.sP t 1 tm).I = h.I := rfl
          have KP : (h.sP t 1 tm).K = h.K := rfl
          have NP : (h.sP t 1 tm).N = h.N := rfl
          have PP : ∀ j, j ≠ 1 → (h.sP t 1 tm).P t j = h.P t j := fun j hj => by rw [P_sP, if_neg (fun q => hj q.2)]
          have ho : FwO (h.sP t 1 tm) t M Sc tr base L a5 a6 a7 om ot lv F X P := by
            obtain ⟨o1, o2, o3, o4, o5, o6, o7, o8, o9, o10, o11, o12⟩ := k5
            refine ⟨?_, ?_, o3, by rw [IP]; exact o4, by rw [IP]; exact o5, by rw [IP]; exact o6, by rw [IP]; exact o7, by rw [IP]; exact o8, by rw [IP]; exact o9, ?_, by rw [IP]; exact o11, by rw [IP]; exact o12⟩
            · obtain ⟨z1, z2, z3, z4, z5, z6, z7⟩ := o1
              exact ⟨z1, by rw [PP 8 (by omega)]; exact z2, by rw [PP 9 (by omega)]; exact z3, by rw [KP]; exact z4, by rw [NP]; exact z5, by rw [KP]; exact z6, by rw [NP]; exact z7⟩
            · unfold FwA at o2 ⊢
              rw [PP 5 (by omega), PP 6 (by omega), PP 7 (by omega), KP, NP]
              exact o2
            · unfold LoHi at o10 ⊢
              rw [IP]
              exact o10
          refine kk (h.sP t 1 tm) L a5 a6 a7 om ot lv F X P f ⟨?_, ?_, Nat.le_add_right _ _, Nat.le_add_right _ _⟩ ho k6 hfl k2 k3 (by rw [P_sP, if_pos ⟨rfl, rfl⟩]) (hc.frame (fun a _ _ => by rw [IP])) (by rw [IP]; exact z1) (by rw [IP]; exact k1)
          · refine ⟨Nat.le_refl _, fun a _ => by rw [KP, NP]; exact ⟨rfl, rfl⟩, fun a _ hs => ⟨by rw [IP], rfl, ?_⟩⟩
            funext j
            rw [P_sP, if_neg (fun q => hs (Or.inl (by omega)))]
          · intro j a j1 j2 q
            rw [PP j (by omega)] at q
            exact Or.inl q
    · rw [if_pos z2]; exact new
  · rw [if_pos z1]; exact new
end FU
