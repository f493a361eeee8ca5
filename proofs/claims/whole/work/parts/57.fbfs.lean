/-! THE CLASS'S SEARCH FOR FEWEST POTS -/
def FwA (h : TH) (t L a5 a6 a7 : Nat) : Prop := (h.P t 5 = some a5 ∧ h.P t 6 = some a6 ∧ h.P t 7 = some a7) ∧ (h.K a5 = 100 ∧ h.K a6 = 100 ∧ h.K a7 = 102) ∧ (h.N a5 = L ∧ h.N a6 = L ∧ h.N a7 = L) ∧ L ≤ 6561 ∧ (a5 ≠ a6 ∧ a5 ≠ a7 ∧ a6 ≠ a7) ∧ (L = 0 ∨ 222 ≤ a5 ∧ 222 ≤ a6 ∧ 222 ≤ a7) ∧ a5 < h.n ∧ a6 < h.n ∧ a7 < h.n
theorem FwA.sm {S : Nat → Prop} {h h' : TH} {t L a5 a6 a7 : Nat} (ha : FwA h t L a5 a6 a7) (hs : Sm S h h') : FwA h' t L a5 a6 a7 := by
  unfold FwA at ha ⊢
  rw [hs.P, hs.K, hs.N, hs.n]
  exact ha
/-- found so far -/
def inF (om ot : Nat → Int32) (F : Nat) (m t : Int32) : Prop := ∃ i, i < F ∧ om i = m ∧ ot i = t
/-- pure: of the search with P POTS, begun with f; the first X are gone on from -/
def FPu (M : Nat → Int32) (Sc : Int32) (tr : Bool) (om ot : Nat → Int32) (lv : Nat → Nat) (F X P f : Nat) : Prop :=
  (∀ i, i < F → FV (aN M) Sc tr (om i) (ot i) ∧ Rs M Sc tr (lv i) (om i) (ot i) ∧ f ≤ lv i ∧ lv i ≤ P) ∧
  (∀ i, i < F → ∀ j, j < F → om i = om j → ot i = ot j → i = j) ∧
  (∀ i j, i < j → j < F → lv i ≤ lv j) ∧
  inF om ot F 0 0 ∧
  (∀ i, i < X → ∀ m' t', Fs M Sc tr P (om i) (ot i) m' t' → inF om ot F m' t') ∧
  (∀ i, i < F → lv i < P → ∀ m' t', Fs M Sc tr (P - 1) (om i) (ot i) m' t' → inF om ot F m' t') ∧
  (∀ Q, f ≤ Q → Q < P → ∀ m t, Rs M Sc tr Q m t → ∃ i, i < F ∧ om i = m ∧ ot i = t ∧ lv i ≤ Q) ∧ X ≤ F
/-- the object's cells -/
def FwO (h : TH) (t : Nat) (M : Nat → Int32) (Sc : Int32) (tr : Bool) (base L a5 a6 a7 : Nat) (om ot : Nat → Int32) (lv : Nat → Nat) (F X P : Nat) : Prop :=
  is0R h t ∧ FwA h t L a5 a6 a7 ∧ base ^ fb_ct (bt Sc) 12 ≤ L ∧ ((base = 2 ∧ tr = false ∧ h.I t 0 = 0) ∨ (base = 3 ∧ tr = true ∧ ¬ h.I t 0 = 0)) ∧ h.I t 3 = Sc ∧ h.I t 10 = nI (base ^ fb_ct (bt Sc) 12) ∧ h.I t 11 = nI F ∧ h.I t 12 = nI X ∧ h.I t 13 = nI P ∧ LoHi h t Sc base ∧
  (∀ i, i < F → h.I a5 i = ot i * 4096 + om i ∧ h.I a6 i = nI (lv i)) ∧
  (∀ m u, FV (aN M) Sc tr m u → (inF om ot F m u → h.I a7 (sn Sc base m u) = 1) ∧ (¬ inF om ot F m u → h.I a7 (sn Sc base m u) = 0))
def inFw (t a5 a6 a7 a : Nat) : Prop := a = t ∨ a = a5 ∨ a = a6 ∨ a = a7
section FB
variable {h h' : TH} {M : Nat → Int32} {Sc : Int32} {tr : Bool} {base L t tm a5 a6 a7 : Nat} {om ot : Nat → Int32} {lv : Nat → Nat} {F X P f : Nat}
theorem is0_rng {a : Nat} (h : is0 a) : 178 ≤ a ∧ a + 6 ≤ 190 := by
  rcases h with rfl | rfl <;> omega
theorem FwO.hb (ho : FwO h t M Sc tr base L a5 a6 a7 om ot lv F X P) : (base = 2 ∧ tr = false) ∨ (base = 3 ∧ tr = true) := ho.2.2.2.1.elim (fun q => Or.inl ⟨q.1, q.2.1⟩) (fun q => Or.inr ⟨q.1, q.2.1⟩)
/-- there is room -/
theorem few_room (hn : aN M ≤ 12) (hb : (base = 2 ∧ tr = false) ∨ (base = 3 ∧ tr = true)) (hp : FPu M Sc tr om ot lv F X P f) : F ≤ base ^ fb_ct (bt Sc) 12 := by
  refine fb_holes _ F (fun i => sn Sc base (om i) (ot i)) (fun i hi => sn_lt (hp.1 i hi).1 hb) (fun i j hij hj q => ?_)
  have := sn_inj hn (hp.1 i (by omega)).1 (hp.1 j hj).1 hb q
  have := hp.2.1 i (by omega) j hj this.1 this.2
  omega
theorem few_room1 (hn : aN M ≤ 12) (hb : (base = 2 ∧ tr = false) ∨ (base = 3 ∧ tr = true)) (hp : FPu M Sc tr om ot lv F X P f) {m u : Int32} (hv : FV (aN M) Sc tr m u) (hnot : ¬ inF om ot F m u) : F + 1 ≤ base ^ fb_ct (bt Sc) 12 := by
  refine fb_holes _ (F + 1) (fun i => if i = F then sn Sc base m u else sn Sc base (om i) (ot i)) (fun i hi => ?_) (fun i j hij hj q => ?_)
  · (try dsimp only)
    split
    · exact sn_lt hv hb
    · exact sn_lt (hp.1 i (by omega)).1 hb
  · (try dsimp only at q)
    rw [if_neg (by omega)] at q
    by_cases e : j = F
    · rw [if_pos e] at q
      have := sn_inj hn (hp.1 i (by omega)).1 hv hb q
      exact hnot ⟨i, by omega, this.1, this.2⟩
    · rw [if_neg e] at q
      have := sn_inj hn (hp.1 i (by omega)).1 (hp.1 j (by omega)).1 hb q
      have := hp.2.1 i (by omega) j (by omega) this.1 this.2
      omega
/-- more is found -/
def Ext (om ot : Nat → Int32) (F : Nat) (om' ot' : Nat → Int32) (F' : Nat) : Prop := F ≤ F' ∧ ∀ i, i < F → om' i = om i ∧ ot' i = ot i
theorem Ext.inf {om' ot' : Nat → Int32} {F' : Nat} {m u : Int32} (he : Ext om ot F om' ot' F') (hi : inF om ot F m u) : inF om' ot' F' m u := by
  obtain ⟨i, h1, h2, h3⟩ := hi
  have := he.2 i h1
  exact ⟨i, by have := he.1; omega, by rw [this.1]; exact h2, by rw [this.2]; exact h3⟩
theorem Ext.refl : Ext om ot F om ot F := ⟨Nat.le_refl _, fun _ _ => ⟨rfl, rfl⟩⟩
theorem Ext.trans {om' ot' om'' ot'' : Nat → Int32} {F' F'' : Nat} (h1 : Ext om ot F om' ot' F') (h2 : Ext om' ot' F' om'' ot'' F'') : Ext om ot F om'' ot'' F'' := by
  refine ⟨Nat.le_trans h1.1 h2.1, fun i hi => ?_⟩
  have a := h1.2 i hi
  have b := h2.2 i (by have := h1.1; omega)
  exact ⟨b.1.trans a.1, b.2.trans a.2⟩
theorem Rs.fv (hw : Wf M) (hc : clo M Sc) {m u : Int32} (h : Rs M Sc tr P m u) : FV (aN M) Sc tr m u := by
  obtain ⟨i1, i2, i3, i4, i5, i6⟩ := h.inv hw hc
  refine ⟨i1, i2, i3, i4, i5, fun q => ?_⟩
  subst q
  exact (Rs_own hw hc h).1
/-- the state with all that was, from h0 on -/
def Bd (h0 : TH) (t : Nat) (M : Nat → Int32) (Sc : Int32) (tr : Bool) (base L a5 a6 a7 X P f : Nat) (g : TH) (om ot : Nat → Int32) (lv : Nat → Nat) (F : Nat) : Prop := Sm (inFw t a5 a6 a7) h0 g ∧ (∀ j, j ≠ 11 → g.I t j = h0.I t j) ∧ FwO g t M Sc tr base L a5 a6 a7 om ot lv F X P ∧ FPu M Sc tr om ot lv F X P f
variable {h0 : TH}
theorem S12 {C : TH → Prop} {m u : Int32} (hw : Wf M) (hc : clo M Sc) (hf : f ≤ P) (hP : P ≤ 12) (hB : Bd h0 t M Sc tr base L a5 a6 a7 X P f h om ot lv F) (hR : Rs M Sc tr P m u) (kk : ∀ g om' ot' lv' F', Bd h0 t M Sc tr base L a5 a6 a7 X P f g om' ot' lv' F' → Ext om ot F om' ot' F' → inF om' ot' F' m u → C g) : W12 t m u h C := by
  have h12 := hw.n12
  have hv := hR.fv hw hc
  obtain ⟨b1, b2, ho, hp⟩ := hB
  have hb := ho.hb
  have hsn := sn_lt hv hb
  have hroom := few_room h12 hb hp
  obtain ⟨o1, o2, o3, o4, o5, o6, o7, o8, o9, o10, o11, o12⟩ := ho
  have ho : FwO h t M Sc tr base L a5 a6 a7 om ot lv F X P := ⟨o1, o2, o3, o4, o5, o6, o7, o8, o9, o10, o11, o12⟩
  have ht := is0_rng o1.1
  obtain ⟨⟨p5, p6, p7⟩, ⟨k5, k6, k7⟩, ⟨n5, n6, n7⟩, l1, ⟨d56, d57, d67⟩, l2, m5, m6, m7⟩ := o2
  have hL0 : 0 < L := by omega
  have a222 : 222 ≤ a5 ∧ 222 ≤ a6 ∧ 222 ≤ a7 := by omega
  unfold W12
  refine S4 (St_mono hv.1 h12) o10 (S4 (St_mono hv.2.1 h12) o10 ?_)
  have esn : nI (wsum Sc base m) + 2 * nI (wsum Sc base u) = nI (sn Sc base m u) := by
    show _ + nI 2 * _ = _
    rw [pk_mul, nI_add]
    rfl
  rw [esn, R_of p7, ix_n (by omega), o7, o6]
  refine ⟨p7, okA_n k7 (by omega) (by omega), ?_⟩
  have o12' := o12 m u hv
  by_cases e : inF om ot F m u
  · rw [o12'.1 e, if_pos (by decide)]
    exact kk h om ot lv F ⟨b1, b2, ho, hp⟩ Ext.refl e
  · have hr1 := few_room1 h12 hb hp hv e
    rw [o12'.2 e, if_neg (fun q => q rfl), if_pos (nI_lt (by omega) (by omega))]
    refine ⟨p7, okA_n k7 (by omega) (by omega), ?_⟩
    have s1 : Sm (inFw t a5 a6 a7) h0 (h.sI a7 (sn Sc base m u) (1 &&& 1)) := b1.sI (by unfold inFw; omega) _
    have P1 : (h.sI a7 (sn Sc base m u) (1 &&& 1)).P t 5 = some a5 := by rw [P_sI]; exact p5
    have T11 : (h.sI a7 (sn Sc base m u) (1 &&& 1)).I t 11 = nI F := by rw [I_ne (by omega)]; exact o7
    rw [R_of P1, T11, ix_n (by omega)]
    refine ⟨P1, okA_n (by rw [K_sI]; exact k5) (by rw [N_sI]; omega) (by rw [N_sI]; omega), ?_⟩
    intro h3 eh3
    have s3 : Sm (inFw t a5 a6 a7) h0 h3 := by rw [eh3]; exact s1.sI (by unfold inFw; omega) _
    have hs3 : Sm (fun a => a = a5 ∨ a = a7) h h3 := by
      rw [eh3]
      exact (Sm.refl.sI (Or.inr rfl) _).sI (Or.inl rfl) _
    have P3 : h3.P t 6 = some a6 := by rw [hs3.P]; exact p6
    have T3 : ∀ j, h3.I t j = h.I t j := fun j => by rw [hs3.I (by omega)]
    rw [R_of P3, T3 11, o7, ix_n (by omega), T3 13, o9, I_ne (by omega), T3 11, o7, nI_1]
    refine ⟨P3, okA_n (by rw [hs3.K]; exact k6) (by rw [hs3.N]; omega) (by rw [hs3.N]; omega), ?_⟩
    have sg : Sm (inFw t a5 a6 a7) h ((h3.sI a6 F (nI P)).sI t 11 (nI (F + 1))) := ((hs3.mono (fun a z => by unfold inFw; omega)).sI (by unfold inFw; omega) _).sI (by unfold inFw; omega) _
    have s0 : Sm (inFw t a5 a6 a7) h0 ((h3.sI a6 F (nI P)).sI t 11 (nI (F + 1))) := b1.trans sg
    have r5 : ∀ i, ((h3.sI a6 F (nI P)).sI t 11 (nI (F + 1))).I a5 i = if i = F then u * 4096 + m else h.I a5 i := by
      intro i
      rw [I_ne (by omega), I_ne (by omega), eh3, I_at, I_ne (by omega)]
    have r6 : ∀ i, ((h3.sI a6 F (nI P)).sI t 11 (nI (F + 1))).I a6 i = if i = F then nI P else h.I a6 i := by
      intro i
      rw [I_ne (by omega), I_at, hs3.I (by omega)]
    have r7 : ∀ i, ((h3.sI a6 F (nI P)).sI t 11 (nI (F + 1))).I a7 i = if i = sn Sc base m u then 1 else h.I a7 i := by
      intro i
      rw [I_ne (by omega), I_ne (by omega), eh3, I_ne (by omega), I_at]
      rfl
    have rt : ∀ i, i ≠ 11 → ((h3.sI a6 F (nI P)).sI t 11 (nI (F + 1))).I t i = h.I t i := by
      intro i hi
      rw [I_nk hi, I_ne (by omega), T3]
    have hx : Ext om ot F (fun i => if i = F then m else om i) (fun i => if i = F then u else ot i) (F + 1) := by
      refine ⟨by omega, fun i hi => ?_⟩
      (try dsimp only)
      rw [if_neg (by omega), if_neg (by omega)]
      exact ⟨rfl, rfl⟩
    have hin : inF (fun i => if i = F then m else om i) (fun i => if i = F then u else ot i) (F + 1) m u := ⟨F, by omega, if_pos rfl, if_pos rfl⟩
    have back : ∀ m' u', inF (fun i => if i = F then m else om i) (fun i => if i = F then u else ot i) (F + 1) m' u' → (m' = m ∧ u' = u) ∨ inF om ot F m' u' := by
      rintro m' u' ⟨i, i1, i2, i3⟩
      (try dsimp only at i2 i3)
      by_cases z : i = F
      · rw [if_pos z] at i2 i3; exact Or.inl ⟨i2.symm, i3.symm⟩
      · rw [if_neg z] at i2 i3; exact Or.inr ⟨i, by omega, i2, i3⟩
    refine kk _ _ _ (fun i => if i = F then P else lv i) (F + 1) ⟨s0, fun j hj => (rt j hj).trans (b2 j hj), ⟨?_, ?_, o3, ?_, by rw [rt 3 (by omega)]; exact o5, by rw [rt 10 (by omega)]; exact o6, I_eq, by rw [rt 12 (by omega)]; exact o8, by rw [rt 13 (by omega)]; exact o9, ?_, fun i hi => ?_, fun m' u' hv' => ?_⟩, ?_⟩ hx hin
    · obtain ⟨z1, z2, z3, z4, z5, z6, z7⟩ := o1
      refine ⟨z1, by rw [sg.P]; exact z2, by rw [sg.P]; exact z3, by rw [sg.K]; exact z4, by rw [sg.N]; exact z5, by rw [sg.K]; exact z6, by rw [sg.N]; exact z7⟩
    · exact FwA.sm (h := h) ⟨⟨p5, p6, p7⟩, ⟨k5, k6, k7⟩, ⟨n5, n6, n7⟩, l1, ⟨d56, d57, d67⟩, l2, m5, m6, m7⟩ sg
    · rw [rt 0 (by omega)]; exact o4
    · unfold LoHi at o10 ⊢
      rw [sg.I (by unfold inFw; omega), sg.I (by unfold inFw; omega)]
      exact o10
    · rw [r5, r6]
      (try dsimp only)
      by_cases z : i = F
      · rw [if_pos z, if_pos z, if_pos z, if_pos z, if_pos z]; exact ⟨rfl, rfl⟩
      · rw [if_neg z, if_neg z, if_neg z, if_neg z, if_neg z]; exact o11 i (by omega)
    · rw [r7]
      by_cases z : sn Sc base m' u' = sn Sc base m u
      · have eq := sn_inj h12 hv' hv hb z
        rw [if_pos z]
        refine ⟨fun _ => rfl, fun q => absurd ?_ q⟩
        rw [eq.1, eq.2]
        exact hin
      · rw [if_neg z]
        have := o12 m' u' hv'
        refine ⟨fun q => this.1 ?_, fun q => this.2 (fun y => q (hx.inf y))⟩
        rcases back m' u' q with ⟨q1, q2⟩ | q
        · rw [q1, q2] at z; exact absurd rfl z
        · exact q
    · obtain ⟨c1, c2, c3, c4, c5, c6, c7, c8⟩ := hp
      refine ⟨fun i hi => ?_, fun i hi j hj q1 q2 => ?_, fun i j z1 z2 => ?_, hx.inf c4, fun i hi m' t' q => ?_, fun i hi q m' t' q2 => ?_, fun Q z1 z2 m' t' q => ?_, by omega⟩
      · (try dsimp only)
        by_cases z : i = F
        · rw [if_pos z, if_pos z, if_pos z]; exact ⟨hv, hR, hf, Nat.le_refl _⟩
        · rw [if_neg z, if_neg z, if_neg z]; exact c1 i (by omega)
      · (try dsimp only at q1 q2)
        by_cases y1 : i = F <;> by_cases y2 : j = F
        · omega
        · rw [if_pos y1, if_neg y2] at q1 q2; exact absurd ⟨j, by omega, q1.symm, q2.symm⟩ e
        · rw [if_neg y1, if_pos y2] at q1 q2; exact absurd ⟨i, by omega, q1, q2⟩ e
        · rw [if_neg y1, if_neg y2] at q1 q2; exact c2 i (by omega) j (by omega) q1 q2
      · (try dsimp only)
        rw [if_neg (show ¬ i = F by omega)]
        by_cases y2 : j = F
        · rw [if_pos y2]; exact (c1 i (by omega)).2.2.2
        · rw [if_neg y2]; exact c3 i j z1 (by omega)
      · (try dsimp only at q)
        rw [if_neg (by omega), if_neg (by omega)] at q
        exact hx.inf (c5 i hi m' t' q)
      · (try dsimp only at q q2)
        by_cases y : i = F
        · rw [if_pos y] at q; omega
        · rw [if_neg y] at q
          rw [if_neg y, if_neg y] at q2
          exact hx.inf (c6 i (by omega) q m' t' q2)
      · obtain ⟨i, i1, i2, i3, i4⟩ := c7 Q z1 z2 m' t' q
        refine ⟨i, by omega, ?_, ?_, ?_⟩
        · (try dsimp only)
          rw [if_neg (by omega)]; exact i2
        · (try dsimp only)
          rw [if_neg (by omega)]; exact i3
        · (try dsimp only)
          rw [if_neg (by omega)]; exact i4
end FB
