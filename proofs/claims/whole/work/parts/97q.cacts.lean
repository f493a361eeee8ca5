/-! HANDS: the class POURS OVER, WASHES, TRUSTS, SHOWS -/
def lvP (M : Nat → Int32) (S : Int32) (d o : Nat) : Int32 := S &&& (((nP M d &&& oS M) ||| ishl 1 (nI o)) ^^^ (-1))
def poS (M : Nat → Int32) (dr x S : Int32) (d o : Nat) : Int32 := arS M dr x (lvP M S d o) d
def nob (S : Int32) (d : Nat) : Int32 := S &&& (ishl 1 (nI d) ^^^ (-1))
section CAC
variable {h : TH} {M : Nat → Int32} {S U W dr x bu : Int32} {t tm k d o : Nat} {A : Nat → Nat}
theorem bt_nob {e : Nat} (hd : d < 32) (he : e < 32) : bt (nob S d) e = (bt S e && !decide (e = d)) := by unfold nob; rw [bt_and, bt_not _ he, bt_bit hd]
theorem S19 {C : Int32 → TH → Prop} (hw : Wf M) (hc : CM h tm M) (hdis : ∀ a, tm ≤ a → a < tm + 15 → a ≠ t ∧ a ≠ t + 1) (hd : d < aN M) (ho : o < aN M) (c : HC h t S U W k bu dr x) (sS : St (aN M) S) (hs : sncS h t M S U A k) (kt : poC M (bigK M 0) S (S &&& (U ^^^ (-1))) d o → ∀ g, HCo h g t → HC g t (poS M dr x S d o) (lvP M U d o) (W + aW M d) k (arB M dr x bu d) dr (brX M dr x d) → snc g t M (poS M dr x S d o) (lvP M U d o) S A k → C 1 g) (kf : ¬ poC M (bigK M 0) S (S &&& (U ^^^ (-1))) d o → C 0 h) : W19 t tm (nI d) (nI o) h C := by
  have h12 := hw.n12
  have c' := c
  obtain ⟨c0, c1, c3, c4, c8, c10, c11⟩ := c
  have row := hc.r.row hd
  unfold W19 B19_95
  refine S60 hw hc.r d rfl hd (fun q1 => ?_) (fun q1 => ?_)
  · rw [if_neg (by decide)]
    refine S61 hw hc.r d rfl hd (fun q2 => ?_) (fun q2 => ?_)
    · rw [if_neg (by decide), c0, ix_n (by omega), row.2.2.2.2.1, row.1]
      by_cases q3 : bt S d = false
      · rw [if_neg (fun n => n ((bt_in (by omega)).mpr q3))]
        refine ⟨inb_n (by omega), ?_⟩
        by_cases q4 : aNe M d &&& (S ^^^ (-1)) = 0
        · rw [if_neg (fun n => n q4)]
          refine ⟨inb_n (by omega), ?_⟩
          unfold W17
          rw [c0, c1]
          (try dsimp only)
          by_cases q5 : bt (aNe M d) o = true ∧ bt (S &&& (U ^^^ (-1))) o = true
          · rw [if_neg (fun n => by rw [bt_in (by omega), bt_and, q5.1, q5.2] at n; exact absurd n (by decide))]
            have sp : St (aN M) ((S &&& (ishl 1 (nI o) ^^^ (-1))) ||| ishl 1 (nI d)) := St_or (St_and _ sS (by omega)) (St_bit hd (by omega)) (by omega)
            refine S112 (big := bigK M 0) hw hc.room sp (fun q6 => ?_) (fun q6 => ?_)
            · rw [if_neg (by decide)]
              have hpo : poC M (bigK M 0) S (S &&& (U ^^^ (-1))) d o := ⟨q1, q2, q3, q4, q5.1, q5.2, q6⟩
              rw [c3]
              refine ⟨inb_n (by omega), ?_⟩
              have sm1 : Sm (fun a => a = t ∨ a = t + 1) h (h.sI t 3 (W + aW M d)) := Sm.sI (S := fun a => a = t ∨ a = t + 1) Sm.refl (Or.inl rfl) _
              have hc1 := CM_sm hc hdis sm1
              refine S63 hw hc1.r hc1.2.1 d rfl hd ?_
              unfold W23
              rw [I_nk (show (0 : Nat) ≠ 3 by decide), c0, I_nk (show (1 : Nat) ≠ 0 by decide), I_nk (show (1 : Nat) ≠ 3 by decide), c1]
              have sm2 : Sm (fun a => a = t ∨ a = t + 1) h (((h.sI t 3 (W + aW M d)).sI t 0 (lvP M S d o)).sI t 1 (lvP M U d o)) := Sm.sI (S := fun a => a = t ∨ a = t + 1) (Sm.sI (S := fun a => a = t ∨ a = t + 1) sm1 (Or.inl rfl) _) (Or.inl rfl) _
              have b0 : (((h.sI t 3 (W + aW M d)).sI t 0 (lvP M S d o)).sI t 1 (lvP M U d o)).I t 0 = lvP M S d o := by rw [I_nk (by decide), I_eq]
              have b1 : (((h.sI t 3 (W + aW M d)).sI t 0 (lvP M S d o)).sI t 1 (lvP M U d o)).I t 1 = lvP M U d o := I_eq
              have b3 : (((h.sI t 3 (W + aW M d)).sI t 0 (lvP M S d o)).sI t 1 (lvP M U d o)).I t 3 = W + aW M d := by rw [I_nk (by decide), I_nk (by decide), I_eq]
              have bo : ∀ j, j ≠ 0 → j ≠ 1 → j ≠ 3 → (((h.sI t 3 (W + aW M d)).sI t 0 (lvP M S d o)).sI t 1 (lvP M U d o)).I t j = h.I t j := fun j j0 j1 j3 => by rw [I_nk j1, I_nk j0, I_nk j3]
              have bt1 : (((h.sI t 3 (W + aW M d)).sI t 0 (lvP M S d o)).sI t 1 (lvP M U d o)).I (t + 1) = h.I (t + 1) := by funext j; rw [I_ne (by omega), I_ne (by omega), I_ne (by omega)]
              show W24 t tm (nI d) (((h.sI t 3 (W + aW M d)).sI t 0 (lvP M S d o)).sI t 1 (lvP M U d o)) (fun h7 => C 1 h7)
              generalize ((h.sI t 3 (W + aW M d)).sI t 0 (lvP M S d o)).sI t 1 (lvP M U d o) = H at sm2 b0 b1 b3 bo bt1 ⊢
              have hc2 := CM_sm hc hdis sm2
              refine S24 (bu := bu) (dr := dr) (x := x) (k := k) hw hc2.r hdis hd b0 (by rw [bo 4 (by decide) (by decide) (by decide)]; exact c4) (by rw [bo 8 (by decide) (by decide) (by decide)]; exact c8) (by rw [bo 10 (by decide) (by decide) (by decide)]; exact c10) (by rw [bo 11 (by decide) (by decide) (by decide)]; exact c11) (fun g sg a0 a8 a11 ao at' an => ?_)
              refine kt hpo g ⟨sm2.trans sg, fun j j0 j1 j3 j8 j11 => by rw [ao j j0 j8 j11, bo j j0 j1 j3]⟩ ⟨a0, by rw [ao 1 (by decide) (by decide) (by decide)]; exact b1, by rw [ao 3 (by decide) (by decide) (by decide)]; exact b3, by rw [ao 4 (by decide) (by decide) (by decide), bo 4 (by decide) (by decide) (by decide)]; exact c4, a8, by rw [ao 10 (by decide) (by decide) (by decide), bo 10 (by decide) (by decide) (by decide)]; exact c10, a11⟩ ?_
              refine snc_old hs (fun e he w1 w2 w3 => ?_) (fun e he w => ?_) (fun e he w1 w2 => ?_) h12
              · have y : bt (lvP M S d o) e = true := by
                  rcases (bt_arS (by omega)).mp w1 with y | y
                  · exact y
                  · rw [y.1, q3] at w3; exact absurd w3 (by decide)
                unfold lvP at y w2
                rw [bt_and, bt_not _ he] at y w2
                simp only [Bool.and_eq_true] at y
                rw [y.2] at w2
                simpa using w2
              · have ed : e ≠ d := fun u => by rw [u, q3] at w; exact absurd w (by decide)
                rw [at' e ed, bt1]
              · rcases (bt_arS (by omega)).mp w1 with y | y
                · unfold lvP at y; rw [bt_and, w2] at y; exact absurd y (by simp)
                · rw [y.1]; exact an y.2
            · rw [if_pos rfl]
              exact kf (fun w => by have := w.2.2.2.2.2.2; unfold poW at this; rw [q6] at this; exact absurd this (by decide))
          · rw [if_pos ((bt_in (by omega)).mpr (by
              rw [bt_and]
              cases u1 : bt (aNe M d) o with
              | false => rfl
              | true => cases u2 : bt (S &&& (U ^^^ (-1))) o with
                | false => rfl
                | true => exact absurd ⟨u1, u2⟩ q5))]
            exact kf (fun w => q5 ⟨w.2.2.2.2.1, w.2.2.2.2.2.1⟩)
        · rw [if_pos q4]; exact kf (fun w => q4 w.2.2.2.1)
      · rw [if_pos (fun n => q3 ((bt_in (by omega)).mp n))]; exact kf (fun w => q3 w.2.2.1)
    · rw [if_pos rfl]; exact kf (fun w => q2 w.2.1)
  · rw [if_pos rfl]; exact kf (fun w => by rw [w.1] at q1; exact absurd q1 (by decide))
theorem leave {C : TH → Prop} (hd : d < 32) (h12 : aN M ≤ 12) (c : HC h t S U W k bu dr x) (hs : sncS h t M S U A k) (kk : ∀ g, HCo h g t → HC g t (nob S d) (nob U d) W k bu dr x → snc g t M (nob S d) (nob U d) S A k → C g) : W23 t (ishl 1 (nI d)) h C := by
  obtain ⟨c0, c1, c3, c4, c8, c10, c11⟩ := c
  unfold W23
  rw [c0, I_nk (by decide), c1]
  refine kk _ ⟨Sm.sI (S := fun a => a = t ∨ a = t + 1) (Sm.sI (S := fun a => a = t ∨ a = t + 1) Sm.refl (Or.inl rfl) _) (Or.inl rfl) _, fun j j0 j1 _ _ _ => by rw [I_nk j1, I_nk j0]⟩ ⟨by rw [I_nk (by decide), I_eq]; rfl, I_eq, by rw [I_nk (by decide), I_nk (by decide)]; exact c3, by rw [I_nk (by decide), I_nk (by decide)]; exact c4, by rw [I_nk (by decide), I_nk (by decide)]; exact c8, by rw [I_nk (by decide), I_nk (by decide)]; exact c10, by rw [I_nk (by decide), I_nk (by decide)]; exact c11⟩ ?_
  refine snc_old hs (fun e he w1 w2 w3 => ?_) (fun e he w => by rw [I_ne (by omega), I_ne (by omega)]) (fun e he w1 w2 => ?_) h12
  · rw [bt_nob hd he] at w1 w2
    have : ¬ e = d := by simp at w1; exact w1.2
    simpa [this] using w2
  · rw [bt_nob hd (by omega), w2] at w1; exact absurd w1 (by simp)
theorem S20 {C : Int32 → TH → Prop} (h12 : aN M ≤ 12) (hd : d < aN M) (c : HC h t S U W k bu dr x) (hs : sncS h t M S U A k) (kt : bt (S &&& (U ^^^ (-1))) d = true → ∀ g, HCo h g t → HC g t (nob S d) (nob U d) W k bu dr x → snc g t M (nob S d) (nob U d) S A k → C 1 g) (kf : bt (S &&& (U ^^^ (-1))) d = false → C 0 h) : W20 t (nI d) h C := by
  have c' := c
  obtain ⟨c0, c1, _⟩ := c
  unfold W20 W17
  rw [c0, c1]
  (try dsimp only)
  cases q : bt (S &&& (U ^^^ (-1))) d with
  | true =>
    rw [if_pos ((bt_in' (by omega)).mpr q)]
    exact leave (by omega) h12 c' hs (fun g a b e => kt q g a b e)
  | false =>
    rw [if_neg (fun n => n ((bt_in (by omega)).mpr q))]
    exact kf q
theorem S22 {C : Int32 → TH → Prop} (hw : Wf M) (hr : CMr h tm M) (hd : d < aN M) (c : HC h t S U W k bu dr x) (hs : sncS h t M S U A k) (kt : bt U d = true → aNe M d &&& (S ^^^ (-1)) = 0 → ∀ g, HCo h g t → HC g t (nob S d) (nob U d) W k bu dr x → snc g t M (nob S d) (nob U d) S A k → C 1 g) (kf : ¬ (bt U d = true ∧ aNe M d &&& (S ^^^ (-1)) = 0) → C 0 h) : W22 t tm (nI d) h C := by
  have h12 := hw.n12
  have c' := c
  obtain ⟨c0, c1, _⟩ := c
  unfold W22
  rw [c1, ix_n (by omega), hr.ne hd, c0]
  cases q : bt U d with
  | true =>
    rw [if_neg (fun n => absurd q (by rw [(bt_in (by omega)).mp n]; decide))]
    refine ⟨inb_n (by omega), ?_⟩
    by_cases q2 : aNe M d &&& (S ^^^ (-1)) = 0
    · rw [if_pos q2]
      exact leave (by omega) h12 c' hs (fun g a b e => kt q q2 g a b e)
    · rw [if_neg q2]; exact kf (fun w => q2 w.2)
  | false =>
    rw [if_pos ((bt_in (by omega)).mpr q)]
    exact kf (fun w => by rw [q] at w; exact absurd w.1 (by decide))
theorem S21 {C : Int32 → TH → Prop} (hw : Wf M) (hc : CM h tm M) (hd : d < aN M) (c : HC h t S U W k bu dr x) (sS : St (aN M) S) (hs : sncS h t M S U A k) (kt : bt S d = false → fitB M (bigK M 0) (S ||| ishl 1 (nI d)) = true → ∀ g, HCo h g t → HC g t (S ||| ishl 1 (nI d)) (U ||| ishl 1 (nI d)) W k bu dr x → snc g t M (S ||| ishl 1 (nI d)) (U ||| ishl 1 (nI d)) S A k → C 1 g) (kf : ¬ (bt S d = false ∧ fitB M (bigK M 0) (S ||| ishl 1 (nI d)) = true) → C 0 h) : W21 t tm (nI d) h C := by
  have h12 := hw.n12
  obtain ⟨c0, c1, c3, c4, c8, c10, c11⟩ := c
  unfold W21
  rw [c0]
  cases q : bt S d with
  | true =>
    rw [if_pos ((bt_in' (by omega)).mpr q)]
    exact kf (fun w => by rw [q] at w; exact absurd w.1 (by decide))
  | false =>
    rw [if_neg (fun n => n ((bt_in (by omega)).mpr q))]
    refine S112 (big := bigK M 0) hw hc.room (St_or sS (St_bit hd (by omega)) (by omega)) (fun q2 => ?_) (fun q2 => ?_)
    · rw [if_pos (by decide), I_nk (by decide), c1]
      refine kt q q2 _ ⟨Sm.sI (S := fun a => a = t ∨ a = t + 1) (Sm.sI (S := fun a => a = t ∨ a = t + 1) Sm.refl (Or.inl rfl) _) (Or.inl rfl) _, fun j j0 j1 _ _ _ => by rw [I_nk j1, I_nk j0]⟩ ⟨by rw [I_nk (by decide), I_eq], I_eq, by rw [I_nk (by decide), I_nk (by decide)]; exact c3, by rw [I_nk (by decide), I_nk (by decide)]; exact c4, by rw [I_nk (by decide), I_nk (by decide)]; exact c8, by rw [I_nk (by decide), I_nk (by decide)]; exact c10, by rw [I_nk (by decide), I_nk (by decide)]; exact c11⟩ ?_
      intro e he w1 w2 w3
      rw [bt_or, bt_bit (by omega)] at w1 w2
      have ed : ¬ e = d := by simp at w2; exact w2.2
      have wS : bt S e = true := by simpa [ed] using w1
      have wU : bt U e = false := by simpa [ed] using w2
      refine ⟨fun _ => ?_, fun w => by rw [wS] at w; exact absurd w (by decide)⟩
      rw [I_ne (by omega), I_ne (by omega)]
      exact hs e he wS wU w3
    · rw [if_neg (by decide)]
      exact kf (fun w => by rw [w.2] at q2; exact absurd q2 (by decide))
end CAC
