/-! HANDS: the class MAKES -/
def sncS (h : TH) (t : Nat) (M : Nat → Int32) (S U : Int32) (A : Nat → Nat) (k : Nat) : Prop := ∀ d, d < aN M → bt S d = true → bt U d = false → ¬ aKp M d = 0 → h.I (t + 1) d = nI (k + A d - kpN M d) ∧ 1 ≤ A d ∧ A d ≤ kpN M d ∧ kpN M d ≤ k + A d
def HC (h : TH) (t : Nat) (S U W : Int32) (k : Nat) (bu dr x : Int32) : Prop := h.I t 0 = S ∧ h.I t 1 = U ∧ h.I t 3 = W ∧ h.I t 4 = nI k ∧ h.I t 8 = bu ∧ h.I t 10 = dr ∧ h.I t 11 = x
def HCo (h g : TH) (t : Nat) : Prop := Sm (fun a => a = t ∨ a = t + 1) h g ∧ ∀ j, j ≠ 0 → j ≠ 1 → j ≠ 3 → j ≠ 8 → j ≠ 11 → g.I t j = h.I t j
section CMK
variable {h : TH} {M : Nat → Int32} {S U W dr x bu : Int32} {t tm k d : Nat} {A : Nat → Nat}
theorem CM_sm {g : TH} (c : CM h tm M) (hdis : ∀ a, tm ≤ a → a < tm + 15 → a ≠ t ∧ a ≠ t + 1) (sm : Sm (fun a => a = t ∨ a = t + 1) h g) : CM g tm M :=
  c.frame (fun a h1 h2 => sm.I (fun w => by have := hdis a h1 h2; rcases w with w | w; exact this.1 w; exact this.2 w))
theorem snc_old {g : TH} {S2 U2 : Int32} (hs : sncS h t M S U A k) (sub : ∀ e, e < 32 → bt S2 e = true → bt U2 e = false → bt S e = true → bt U e = false) (keep : ∀ e, e < aN M → bt S e = true → g.I (t + 1) e = h.I (t + 1) e) (new : ∀ e, e < aN M → bt S2 e = true → bt S e = false → g.I (t + 1) e = nI (k + 1)) (h12 : aN M ≤ 12) : snc g t M S2 U2 S A k := by
  intro e he q1 q2 q3
  refine ⟨fun o => ?_, fun o => new e he q1 o⟩
  rw [keep e he o]
  exact hs e he o (sub e (by omega) q1 q2 o) q3
theorem S18 {C : Int32 → TH → Prop} (hw : Wf M) (hc : CM h tm M) (hdis : ∀ a, tm ≤ a → a < tm + 15 → a ≠ t ∧ a ≠ t + 1) (hd : d < aN M) (c : HC h t S U W k bu dr x) (sS : St (aN M) S) (hs : sncS h t M S U A k) (kt : mkC M (bigK M 0) S d → ∀ g, HCo h g t → HC g t (mkS M dr x S d) (lvS M U d) (W + wP M d) k (mkB M dr x bu d) dr (mkX M dr x d) → snc g t M (mkS M dr x S d) (lvS M U d) S A k → C 1 g) (kf : ¬ mkC M (bigK M 0) S d → C 0 h) : W18 t tm (nI d) h C := by
  have h12 := hw.n12
  obtain ⟨c0, c1, c3, c4, c8, c10, c11⟩ := c
  obtain ⟨g9, g10, g11⟩ := hc.g hd
  unfold W18 B18_52
  rw [ix_n (by omega), c0, g9, g10, g11, c3]
  refine ⟨inb_n (by omega), ?_⟩
  by_cases q1 : S &&& gP M d = 0
  · rw [if_neg (fun n => n q1)]
    refine ⟨inb_n (by omega), ?_⟩
    by_cases q2 : nP M d &&& (S ^^^ (-1)) = 0
    · rw [if_neg (fun n => n q2)]
      refine S112 (big := bigK M 0) hw hc.room (St_or sS (hw.gS hd) (by omega)) (fun q3 => ?_) (fun q3 => ?_)
      · rw [if_neg (by decide)]
        have hmk : mkC M (bigK M 0) S d := ⟨q1, q2, q3⟩
        refine ⟨inb_n (by omega), ?_⟩
        have sm1 : Sm (fun a => a = t ∨ a = t + 1) h (h.sI t 3 (W + wP M d)) := Sm.sI (S := fun a => a = t ∨ a = t + 1) Sm.refl (Or.inl rfl) _
        have hc1 := CM_sm hc hdis sm1
        refine S63 hw hc1.r hc1.2.1 d rfl hd ?_
        unfold W23
        rw [I_nk (show (0 : Nat) ≠ 3 by decide), c0, I_nk (show (1 : Nat) ≠ 0 by decide), I_nk (show (1 : Nat) ≠ 3 by decide), c1]
        have sm2 : Sm (fun a => a = t ∨ a = t + 1) h (((h.sI t 3 (W + wP M d)).sI t 0 (lvS M S d)).sI t 1 (lvS M U d)) := Sm.sI (S := fun a => a = t ∨ a = t + 1) (Sm.sI (S := fun a => a = t ∨ a = t + 1) sm1 (Or.inl rfl) _) (Or.inl rfl) _
        have b0 : (((h.sI t 3 (W + wP M d)).sI t 0 (lvS M S d)).sI t 1 (lvS M U d)).I t 0 = lvS M S d := by rw [I_nk (by decide), I_eq]
        have b1 : (((h.sI t 3 (W + wP M d)).sI t 0 (lvS M S d)).sI t 1 (lvS M U d)).I t 1 = lvS M U d := I_eq
        have b3 : (((h.sI t 3 (W + wP M d)).sI t 0 (lvS M S d)).sI t 1 (lvS M U d)).I t 3 = W + wP M d := by rw [I_nk (by decide), I_nk (by decide), I_eq]
        have bo : ∀ j, j ≠ 0 → j ≠ 1 → j ≠ 3 → (((h.sI t 3 (W + wP M d)).sI t 0 (lvS M S d)).sI t 1 (lvS M U d)).I t j = h.I t j := fun j j0 j1 j3 => by rw [I_nk j1, I_nk j0, I_nk j3]
        have bt1 : (((h.sI t 3 (W + wP M d)).sI t 0 (lvS M S d)).sI t 1 (lvS M U d)).I (t + 1) = h.I (t + 1) := by funext j; rw [I_ne (by omega), I_ne (by omega), I_ne (by omega)]
        show W62 tm (nI d) (((h.sI t 3 (W + wP M d)).sI t 0 (lvS M S d)).sI t 1 (lvS M U d)) (fun v4 => if v4 = 0 then (inb (nI d) 12 ∧ B18_104 t tm ((((h.sI t 3 (W + wP M d)).sI t 0 (lvS M S d)).sI t 1 (lvS M U d)).I (tm + 7) d) (((h.sI t 3 (W + wP M d)).sI t 0 (lvS M S d)).sI t 1 (lvS M U d)) C) else (B18_104 t tm (nI d) (((h.sI t 3 (W + wP M d)).sI t 0 (lvS M S d)).sI t 1 (lvS M U d)) C))
        generalize ((h.sI t 3 (W + wP M d)).sI t 0 (lvS M S d)).sI t 1 (lvS M U d) = H at sm2 b0 b1 b3 bo bt1 ⊢
        have hc2 := CM_sm hc hdis sm2
        have subU : ∀ S2 : Int32, ∀ e, e < 32 → bt S2 e = true → bt (lvS M U d) e = false → bt S e = true → (bt S2 e = true → bt S e = true → bt (nP M d &&& oS M) e = false) → bt U e = false := by
          intro S2 e he w1 w2 w3 w4
          unfold lvS at w2
          rw [bt_and, bt_not _ he, w4 w1 w3] at w2
          simpa using w2
        -- the two arrivals
        have arr : B18_104 t tm (nI (loD M d)) H C := by
          rcases lohi hw hd with ⟨pa, lo⟩ | ⟨npa, l1, l2, l3, l4, l5⟩
          · rw [lo]
            unfold B18_104
            have dS : bt S d = false := by
              have := bt_dis.mp q1
              cases e : bt S d with
              | false => rfl
              | true => have := this d (by omega) e; rw [Wf.gd (by omega)] at this; exact absurd this (by decide)
            refine S24 (bu := bu) (dr := dr) (x := x) (k := k) hw hc2.r hdis hd b0 (by rw [bo 4 (by decide) (by decide) (by decide)]; exact c4) (by rw [bo 8 (by decide) (by decide) (by decide)]; exact c8) (by rw [bo 10 (by decide) (by decide) (by decide)]; exact c10) (by rw [bo 11 (by decide) (by decide) (by decide)]; exact c11) (fun g sg a0 a8 a11 ao at' an => ?_)
            have hcg := CM_sm hc2 hdis sg
            refine S61 hw hcg.r d rfl hd (fun _ => ?_) (fun w => absurd pa w)
            rw [if_pos (by decide)]
            have eS : mkS M dr x S d = arS M dr x (lvS M S d) d := by unfold mkS; rw [if_pos pa]
            refine kt hmk g ⟨sm2.trans sg, fun j j0 j1 j3 j8 j11 => by rw [ao j j0 j8 j11, bo j j0 j1 j3]⟩ ⟨by rw [a0, eS], by rw [ao 1 (by decide) (by decide) (by decide)]; exact b1, by rw [ao 3 (by decide) (by decide) (by decide)]; exact b3, by rw [ao 4 (by decide) (by decide) (by decide), bo 4 (by decide) (by decide) (by decide)]; exact c4, by rw [a8]; unfold mkB; rw [if_pos pa], by rw [ao 10 (by decide) (by decide) (by decide), bo 10 (by decide) (by decide) (by decide)]; exact c10, by rw [a11]; unfold mkX; rw [if_pos pa]⟩ ?_
            refine snc_old hs (fun e he w1 w2 w3 => subU _ e he w1 w2 w3 (fun u1 u2 => ?_)) (fun e he w => ?_) (fun e he w1 w2 => ?_) h12
            · rw [eS] at u1
              rcases (bt_arS (by omega)).mp u1 with y | y
              · unfold lvS at y; rw [bt_and, bt_not _ he] at y; simp at y; exact y.2
              · rw [y.1, dS] at u2; exact absurd u2 (by decide)
            · have ed : e ≠ d := fun u => by rw [u, dS] at w; exact absurd w (by decide)
              rw [at' e ed, bt1]
            · rw [eS] at w1
              rcases (bt_arS (by omega)).mp w1 with y | y
              · unfold lvS at y; rw [bt_and, w2] at y; exact absurd y (by simp)
              · rw [y.1]; exact an y.2
          · unfold B18_104
            have gin : bt (gP M d) (loD M d) = true ∧ bt (gP M d) (hiD M d) = true := by
              rcases l5 with ⟨u, v⟩ | ⟨u, v⟩
              · rw [gP_pair v (by omega), bt_or, bt_or, bt_bit (by omega), bt_bit (by omega), bt_bit (by omega), bt_bit (by omega)]
                simp [u]
              · rw [gP_pair v (by omega), bt_or, bt_or, bt_bit (by omega), bt_bit (by omega), bt_bit (by omega), bt_bit (by omega)]
                simp [u]
            have nS : ∀ e, e < 32 → bt (gP M d) e = true → bt S e = false := fun e he w => by
              cases y : bt S e with
              | false => rfl
              | true => have := bt_dis.mp q1 e he y; rw [w] at this; exact absurd this (by decide)
            refine S24 (bu := bu) (dr := dr) (x := x) (k := k) hw hc2.r hdis l1 b0 (by rw [bo 4 (by decide) (by decide) (by decide)]; exact c4) (by rw [bo 8 (by decide) (by decide) (by decide)]; exact c8) (by rw [bo 10 (by decide) (by decide) (by decide)]; exact c10) (by rw [bo 11 (by decide) (by decide) (by decide)]; exact c11) (fun g sg a0 a8 a11 ao at' an => ?_)
            have hcg := CM_sm hc2 hdis sg
            refine S61 hw hcg.r (loD M d) rfl l1 (fun w => absurd w (by rw [l3]; exact nI_ne1 (by omega))) (fun _ => ?_)
            rw [if_neg (by decide), ix_n (by omega), hcg.r.pa l1, l3]
            refine ⟨inb_n (by omega), ?_⟩
            refine S24 (dr := dr) (k := k) hw hcg.r hdis l2 a0 (by rw [ao 4 (by decide) (by decide) (by decide), bo 4 (by decide) (by decide) (by decide)]; exact c4) a8 (by rw [ao 10 (by decide) (by decide) (by decide), bo 10 (by decide) (by decide) (by decide)]; exact c10) a11 (fun g' sg' a0' a8' a11' ao' at'' an' => ?_)
            have eS : mkS M dr x S d = arS M dr (brX M dr x (loD M d)) (arS M dr x (lvS M S d) (loD M d)) (hiD M d) := by unfold mkS; rw [if_neg npa]
            refine kt hmk g' ⟨(sm2.trans sg).trans sg', fun j j0 j1 j3 j8 j11 => by rw [ao' j j0 j8 j11, ao j j0 j8 j11, bo j j0 j1 j3]⟩ ⟨by rw [a0', eS], by rw [ao' 1 (by decide) (by decide) (by decide), ao 1 (by decide) (by decide) (by decide)]; exact b1, by rw [ao' 3 (by decide) (by decide) (by decide), ao 3 (by decide) (by decide) (by decide)]; exact b3, by rw [ao' 4 (by decide) (by decide) (by decide), ao 4 (by decide) (by decide) (by decide), bo 4 (by decide) (by decide) (by decide)]; exact c4, by rw [a8']; unfold mkB; rw [if_neg npa], by rw [ao' 10 (by decide) (by decide) (by decide), ao 10 (by decide) (by decide) (by decide), bo 10 (by decide) (by decide) (by decide)]; exact c10, by rw [a11']; unfold mkX; rw [if_neg npa]⟩ ?_
            have sl := nS (loD M d) (by omega) gin.1
            have sh := nS (hiD M d) (by omega) gin.2
            refine snc_old hs (fun e he w1 w2 w3 => subU _ e he w1 w2 w3 (fun u1 u2 => ?_)) (fun e he w => ?_) (fun e he w1 w2 => ?_) h12
            · rw [eS] at u1
              rcases (bt_arS (by omega)).mp u1 with y | y
              · rcases (bt_arS (by omega)).mp y with y | y
                · unfold lvS at y; rw [bt_and, bt_not _ he] at y; simp at y; exact y.2
                · rw [y.1, sl] at u2; exact absurd u2 (by decide)
              · rw [y.1, sh] at u2; exact absurd u2 (by decide)
            · have e1 : e ≠ loD M d := fun u => by rw [u, sl] at w; exact absurd w (by decide)
              have e2 : e ≠ hiD M d := fun u => by rw [u, sh] at w; exact absurd w (by decide)
              rw [at'' e e2, at' e e1, bt1]
            · rw [eS] at w1
              rcases (bt_arS (by omega)).mp w1 with y | y
              · rcases (bt_arS (by omega)).mp y with y | y
                · unfold lvS at y; rw [bt_and, w2] at y; exact absurd y (by simp)
                · rw [at'' e (by omega), y.1]; exact an y.2
              · rw [y.1]; exact an' y.2
        refine S62 hw hc2.r d rfl hd (fun w => ?_) (fun w => ?_)
        · rw [if_neg (by decide)]
          have : loD M d = d := by unfold loD; rw [if_pos w]
          rw [this] at arr; exact arr
        · rw [if_pos rfl, hc2.r.pa hd]
          rcases lohi hw hd with ⟨pa, _⟩ | ⟨npa, l1, l2, l3, l4, l5⟩
          · exact absurd (Or.inl pa) w
          · rcases l5 with ⟨u, v⟩ | ⟨u, v⟩
            · exact absurd (Or.inr (by rw [v]; exact nI_lt (by omega) (by omega))) w
            · rw [v]; exact ⟨inb_n (by omega), arr⟩
      · rw [if_pos rfl]
        exact kf (fun w => by rw [w.2.2] at q3; exact absurd q3 (by decide))
    · rw [if_pos q2]; exact kf (fun w => q2 w.2.1)
  · rw [if_pos q1]; exact kf (fun w => q1 w.1)
end CMK
